/-! forks of the reference: numbers of parts, level by level -/
theorem sumN_up {f : Nat → Nat} {k w : Nat} : ∀ {n : Nat}, k < n → f k = 0 → sumN (va_up f k w) n = sumN f n + w
  | 0, h, _ => absurd h (Nat.not_lt_zero _)
  | n + 1, h, h0 => by
    show sumN (va_up f k w) n + va_up f k w n = sumN f n + f n + w
    by_cases e : k = n
    · subst e
      have : ∀ m, m ≤ k → sumN (va_up f k w) m = sumN f m := fun m => by
        induction m with
        | zero => intro _; rfl
        | succ m ih =>
          intro hm
          show sumN (va_up f k w) m + va_up f k w m = sumN f m + f m
          rw [ih (by omega), up_ne (by omega)]
      rw [this k (Nat.le_refl _), up_eq, h0]
      omega
    · rw [sumN_up (by omega) h0, up_ne (by omega)]
      omega
def RS (nu : Nat → Nat → Nat) (m0 w : Nat) (lo hi : Nat → Nat) (r x v : Nat) : Prop :=
  (nu r (2 * x) = nu r (2 * x + 1) ∧ v = nu r (2 * x)) ∨ (nu r (2 * x) ≠ nu r (2 * x + 1) ∧ ∃ i, i < w ∧ lo i = nu r (2 * x) ∧ hi i = nu r (2 * x + 1) ∧ v = m0 + i)
theorem RS.up {nu : Nat → Nat → Nat} {m0 w : Nat} {lo hi : Nat → Nat} {r x v a b : Nat} (h : RS nu m0 w lo hi r x v) : RS nu m0 (w + 1) (va_up lo w a) (va_up hi w b) r x v := by
  rcases h with h | ⟨h1, i, h2, h3, h4, h5⟩
  · exact Or.inl h
  · exact Or.inr ⟨h1, i, by omega, by rw [up_ne (by omega)]; exact h3, by rw [up_ne (by omega)]; exact h4, h5⟩
theorem eqF_split {F : Nat → Nat → Bool} {N k r r' x x' : Nat} (hk : k < N) : eqF F (N - k) (r, x * 2 ^ (N - k)) (r', x' * 2 ^ (N - k)) ↔ eqF F (N - (k + 1)) (r, 2 * x * 2 ^ (N - (k + 1))) (r', 2 * x' * 2 ^ (N - (k + 1))) ∧ eqF F (N - (k + 1)) (r, (2 * x + 1) * 2 ^ (N - (k + 1))) (r', (2 * x' + 1) * 2 ^ (N - (k + 1))) := by
  have hpow : 2 ^ (N - k) = 2 * 2 ^ (N - (k + 1)) := by rw [← Nat.pow_succ']; congr 1; omega
  unfold eqF
  simp only
  rw [hpow]
  generalize 2 ^ (N - (k + 1)) = h
  have e1 : ∀ y, y * (2 * h) = 2 * y * h := fun y => by rw [← Nat.mul_assoc, Nat.mul_comm y 2]
  have e2 : ∀ y, (2 * y + 1) * h = 2 * y * h + h := fun y => by rw [Nat.add_mul, Nat.one_mul]
  rw [e1, e1, e2, e2]
  constructor
  · intro H
    refine ⟨fun j hj => H j (by omega), fun j hj => ?_⟩
    have := H (h + j) (by omega)
    rw [← Nat.add_assoc, ← Nat.add_assoc] at this
    exact this
  · rintro ⟨H1, H2⟩ j hj
    by_cases c : j < h
    · exact H1 j c
    · have := H2 (j - h) (by omega)
      rw [Nat.add_assoc, Nat.add_assoc, show h + (j - h) = j by omega] at this
      exact this
theorem ess_num {F : Nat → Nat → Bool} {N k r x : Nat} (hk : k < N) : ess F N k (r, x * 2 ^ (N - k)) ↔ ¬ eqF F (N - (k + 1)) (r, 2 * x * 2 ^ (N - (k + 1))) (r, (2 * x + 1) * 2 ^ (N - (k + 1))) := by
  have hpow : 2 ^ (N - k) = 2 * 2 ^ (N - (k + 1)) := by rw [← Nat.pow_succ']; congr 1; omega
  unfold ess eqF
  simp only
  rw [hpow, show N - k - 1 = N - (k + 1) by omega]
  generalize 2 ^ (N - (k + 1)) = h
  rw [show x * (2 * h) = 2 * x * h by rw [← Nat.mul_assoc, Nat.mul_comm x 2], show (2 * x + 1) * h = 2 * x * h + h by rw [Nat.add_mul, Nat.one_mul]]
/-- numbers tell parts of level k -/
def NU (F : Nat → Nat → Bool) (N a b k : Nat) (nu : Nat → Nat → Nat) : Prop := ∀ r x r' x', a ≤ r → r < b → a ≤ r' → r' < b → x < 2 ^ k → x' < 2 ^ k → (nu r x = nu r' x' ↔ eqF F (N - k) (r, x * 2 ^ (N - k)) (r', x' * 2 ^ (N - k)))
theorem fn_lev {N a b k r x : Nat} (hk : k ≤ N) (h1 : a ≤ r) (h2 : r < b) (hx : x < 2 ^ k) : lev N k a b (r, x * 2 ^ (N - k)) := by
  refine ⟨h1, h2, ?_, Nat.dvd_mul_left _ _⟩
  show x * 2 ^ (N - k) < 2 ^ N
  have : 2 ^ N = 2 ^ k * 2 ^ (N - k) := by rw [← Nat.pow_add]; congr 1; omega
  rw [this]
  exact Nat.mul_lt_mul_of_pos_right hx (Nat.two_pow_pos _)
/-- what was found is covered by parts -/
def CV (a b k : Nat) (nu : Nat → Nat → Nat) (w : Nat) (lo hi : Nat → Nat) : Prop := ∀ i, i < w → ∃ r x, a ≤ r ∧ r < b ∧ x < 2 ^ k ∧ lo i = nu r (2 * x) ∧ hi i = nu r (2 * x + 1)
section LVL
variable {F : Nat → Nat → Bool} {N a b k w m0 : Nat} {nu : Nat → Nat → Nat} {lo hi : Nat → Nat}
theorem pair_eq (hk : k < N) (hN : NU F N a b (k + 1) nu) {r x r' x' : Nat} (h1 : a ≤ r) (h2 : r < b) (h3 : a ≤ r') (h4 : r' < b) (hx : x < 2 ^ k) (hx' : x' < 2 ^ k) : (nu r (2 * x) = nu r' (2 * x') ∧ nu r (2 * x + 1) = nu r' (2 * x' + 1)) ↔ eqF F (N - k) (r, x * 2 ^ (N - k)) (r', x' * 2 ^ (N - k)) := by
  have hp : 2 ^ (k + 1) = 2 * 2 ^ k := Nat.pow_succ'
  rw [eqF_split hk, hN r (2 * x) r' (2 * x') h1 h2 h3 h4 (by omega) (by omega), hN r (2 * x + 1) r' (2 * x' + 1) h1 h2 h3 h4 (by omega) (by omega)]
theorem lvl_fn (hk : k < N) (hN : NU F N a b (k + 1) nu) (hl : ∀ i, i < w → lo i < m0 ∧ hi i < m0 ∧ lo i ≠ hi i) (hd : ∀ i j, i < w → j < w → lo i = lo j → hi i = hi j → i = j) (hc : CV a b k nu w lo hi) : ∃ fn : Nat → Nat × Nat, (∀ i, i < w → lev N k a b (fn i) ∧ ess F N k (fn i)) ∧ (∀ i j, i < w → j < w → eqF F (N - k) (fn i) (fn j) → i = j) ∧ ∀ i, i < w → ∃ r x, a ≤ r ∧ r < b ∧ x < 2 ^ k ∧ lo i = nu r (2 * x) ∧ hi i = nu r (2 * x + 1) ∧ fn i = (r, x * 2 ^ (N - k)) := by
  have ch : ∀ i, ∃ z : Nat × Nat, i < w → a ≤ z.1 ∧ z.1 < b ∧ z.2 < 2 ^ k ∧ lo i = nu z.1 (2 * z.2) ∧ hi i = nu z.1 (2 * z.2 + 1) := fun i => by
    by_cases hi' : i < w
    · obtain ⟨r, x, q⟩ := hc i hi'
      exact ⟨(r, x), fun _ => q⟩
    · exact ⟨(0, 0), fun q => absurd q hi'⟩
  have hp : 2 ^ (k + 1) = 2 * 2 ^ k := Nat.pow_succ'
  refine ⟨fun i => ((ch i).choose.1, (ch i).choose.2 * 2 ^ (N - k)), fun i hi' => ?_, fun i j hi' hj e => ?_, fun i hi' => ?_⟩
  · obtain ⟨q1, q2, q3, q4, q5⟩ := (ch i).choose_spec hi'
    refine ⟨fn_lev (by omega) q1 q2 q3, (ess_num hk).mpr ?_⟩
    rw [← hN _ _ _ _ q1 q2 q1 q2 (by omega) (by omega), ← q4, ← q5]
    exact (hl i hi').2.2
  · obtain ⟨q1, q2, q3, q4, q5⟩ := (ch i).choose_spec hi'
    obtain ⟨p1, p2, p3, p4, p5⟩ := (ch j).choose_spec hj
    have := (pair_eq hk hN q1 q2 p1 p2 q3 p3).mpr e
    exact hd i j hi' hj (by rw [q4, p4]; exact this.1) (by rw [q5, p5]; exact this.2)
  · obtain ⟨q1, q2, q3, q4, q5⟩ := (ch i).choose_spec hi'
    exact ⟨_, _, q1, q2, q3, q4, q5, rfl⟩
theorem lvl_bound (h12 : N ≤ 12) (hab : b - a ≤ 32) (hk : k < N) (hN : NU F N a b (k + 1) nu) (hl : ∀ i, i < w → lo i < m0 ∧ hi i < m0 ∧ lo i ≠ hi i) (hd : ∀ i j, i < w → j < w → lo i = lo j → hi i = hi j → i = j) (hc : CV a b k nu w lo hi) : w ≤ 8192 := by
  obtain ⟨fn, f1, f2, f3⟩ := lvl_fn hk hN hl hd hc
  exact (most_found (F := F) h12 (by omega) hab (fun i hi' => (f1 i hi').1) f2).1
theorem lvl_wid (hk : k < N) (hN : NU F N a b (k + 1) nu) (hl : ∀ i, i < w → lo i < m0 ∧ hi i < m0 ∧ lo i ≠ hi i) (hd : ∀ i j, i < w → j < w → lo i = lo j → hi i = hi j → i = j) (hc : CV a b k nu w lo hi) (hr : ∀ r x, a ≤ r → r < b → x < 2 ^ k → ∃ v, RS nu m0 w lo hi r x v) : Wid F N a b k w := by
  obtain ⟨fn, f1, f2, f3⟩ := lvl_fn hk hN hl hd hc
  have hp : 2 ^ (k + 1) = 2 * 2 ^ k := Nat.pow_succ'
  refine ⟨fn, f1, f2, fun z hz => ?_⟩
  obtain ⟨⟨l1, l2, l3, ⟨x, l4⟩⟩, he⟩ := hz
  obtain ⟨zr, zs⟩ := z
  simp only at l1 l2 l3 l4
  rw [Nat.mul_comm] at l4
  subst l4
  have hx : x < 2 ^ k := by
    have : 2 ^ N = 2 ^ k * 2 ^ (N - k) := by rw [← Nat.pow_add]; congr 1; omega
    rw [this] at l3
    exact Nat.lt_of_mul_lt_mul_right l3
  have hne := (ess_num hk).mp he
  rw [← hN _ _ _ _ l1 l2 l1 l2 (by omega) (by omega)] at hne
  obtain ⟨v, hv⟩ := hr zr x l1 l2 hx
  rcases hv with hv | ⟨-, i, i1, i2, i3, -⟩
  · exact absurd hv.1 hne
  · obtain ⟨r', x', q1, q2, q3, q4, q5, q6⟩ := f3 i i1
    refine ⟨i, i1, ?_⟩
    rw [q6]
    exact (pair_eq hk hN q1 q2 l1 l2 q3 hx).mp ⟨by rw [← q4, i2], by rw [← q5, i3]⟩
theorem lvl_NU (hk : k < N) (hN : NU F N a b (k + 1) nu) (hm : ∀ r x, a ≤ r → r < b → x < 2 ^ (k + 1) → nu r x < m0) (hd : ∀ i j, i < w → j < w → lo i = lo j → hi i = hi j → i = j) {nu' : Nat → Nat → Nat} (hr : ∀ r x, a ≤ r → r < b → x < 2 ^ k → RS nu m0 w lo hi r x (nu' r x)) : NU F N a b k nu' ∧ ∀ r x, a ≤ r → r < b → x < 2 ^ k → nu' r x < m0 + w := by
  have hp : 2 ^ (k + 1) = 2 * 2 ^ k := Nat.pow_succ'
  refine ⟨fun r x r' x' h1 h2 h3 h4 hx hx' => ?_, fun r x h1 h2 hx => ?_⟩
  · rw [← pair_eq hk hN h1 h2 h3 h4 hx hx']
    have m1 := hm r (2 * x) h1 h2 (by omega)
    have m2 := hm r' (2 * x') h3 h4 (by omega)
    rcases hr r x h1 h2 hx with ⟨e, ev⟩ | ⟨e, i, i1, i2, i3, ev⟩ <;> rcases hr r' x' h3 h4 hx' with ⟨e', ev'⟩ | ⟨e', j, j1, j2, j3, ev'⟩
    · rw [ev, ev']
      exact ⟨fun q => ⟨q, by rw [← e, ← e']; exact q⟩, fun q => q.1⟩
    · rw [ev, ev']
      refine ⟨fun q => absurd q (by omega), fun q => absurd ?_ e'⟩
      rw [← q.1, ← q.2]; exact e
    · rw [ev, ev']
      refine ⟨fun q => absurd q (by omega), fun q => absurd ?_ e⟩
      rw [q.1, q.2]; exact e'
    · rw [ev, ev', ← i2, ← i3, ← j2, ← j3]
      refine ⟨fun q => ?_, fun q => ?_⟩
      · have : i = j := by omega
        rw [this]; exact ⟨rfl, rfl⟩
      · rw [hd i j i1 j1 q.1 q.2]
  · have m1 := hm r (2 * x) h1 h2 (by omega)
    rcases hr r x h1 h2 hx with ⟨e, ev⟩ | ⟨e, i, i1, i2, i3, ev⟩ <;> omega
end LVL
theorem PD.I {σ : St} {s m0 k w j : Nat} {lo hi : Nat → Nat} {f : Nat → Int32} (h : PD σ s m0 k w lo hi) (hj : j < 54) : PD (uIf σ j f) s m0 k w lo hi := by
  unfold PD at h ⊢
  rw [sV_uIf, sI_uIfn (show 54 ≠ j by omega), sI_uIfn (show 55 ≠ j by omega), sI_uIfn (show 56 ≠ j by omega), sI_uIfn (show 57 ≠ j by omega), sI_uIfn (show 58 ≠ j by omega)]
  exact h
/-- inside a level: rows before r have their new numbers in 52, row r has them in 53 up to j -/
def FL (σ0 τ : St) (a b k s m0 : Nat) (nu : Nat → Nat → Nat) (r j w : Nat) (lo hi : Nat → Nat) : Prop :=
  PD τ s m0 k w lo hi ∧ (∀ z, z ≠ 11 → sV τ z = sV σ0 z) ∧ (∀ z, z < 52 → sI τ z = sI σ0 z) ∧ (∀ z, z ≠ k → sI τ 54 z = sI σ0 54 z) ∧ (∀ r' x, a ≤ r' → r' < r → x < 2 ^ k → ∃ v, sI τ 52 (4096 * r' + x) = nI v ∧ RS nu m0 w lo hi r' x v) ∧ (∀ r' x, r ≤ r' → r' < b → x < 2 ^ (k + 1) → sI τ 52 (4096 * r' + x) = nI (nu r' x)) ∧ (∀ x, x < j → ∃ v, sI τ 53 (4096 * r + x) = nI v ∧ RS nu m0 w lo hi r x v) ∧ CV a b k nu w lo hi
theorem PD.start {σ : St} {s m0 k : Nat} {lo hi : Nat → Nat} (h12 : sV σ 12 = nI s) (h11 : sV σ 11 = nI m0) (h54 : sI σ 54 k = nI 0) (hs : s < 2 ^ 31) (hp : ∀ q, q < 131072 → ∃ p, p < s ∧ sI σ 55 q = nI p) : PD σ s m0 k 0 lo hi := by
  refine ⟨h12, h11, h54, fun i hi' => absurd hi' (Nat.not_lt_zero _), fun i j hi' => absurd hi' (Nat.not_lt_zero _), fun q hq => ?_, fun _ => 0, fun q hq => ?_, fun q hq => Nat.le_refl _, fun q hq h => absurd rfl h, fun q q' _ _ _ h => absurd rfl h, fun i hi' => absurd hi' (Nat.not_lt_zero _)⟩
  · obtain ⟨p, h1, h2⟩ := hp q hq
    exact ⟨p, by omega, h2⟩
  · obtain ⟨p, h1, h2⟩ := hp q hq
    rw [h2, nI_eq (by omega) hs]
    exact ⟨fun e => by omega, fun e => absurd rfl e⟩
section MOD2
variable {g : Ev} {d : Nat} {K : Option Value → St → Prop} {F : Nat → Nat → Bool} {N a b k s m0 : Nat} {nu : Nat → Nat → Nat}
theorem m_row {σ0 : St} {r : Nat} (h12 : N ≤ 12) (hb : b ≤ 32) (hk : k < N) (hs : s < 2 ^ 31) (hm0 : m0 < 2 ^ 20) (hN : NU F N a b (k + 1) nu) (hm : ∀ r x, a ≤ r → r < b → x < 2 ^ (k + 1) → nu r x < m0) (har : a ≤ r) (hr : r < b) {lo0 hi0 : Nat → Nat} {w0 : Nat} {τ0 : St} (hF0 : FL σ0 τ0 a b k s m0 nu r 0 w0 lo0 hi0)
    (h : ∀ τ w lo hi, FL σ0 τ a b k s m0 nu (r + 1) 0 w lo hi → WP g 45 59 (d + 2) M_X3_forks 149 [(0, .ref (eA g 45)), (1, .int (nI a)), (2, .int (nI b)), (5, .int (nI k)), (6, .int (nI (r + 1)))] [] τ K) :
    WP g 45 59 (d + 2) M_X3_forks 158 [(0, .ref (eA g 45)), (1, .int (nI a)), (2, .int (nI b)), (5, .int (nI k)), (6, .int (nI r)), (7, .int (nI 0))] [] τ0 K := by
  have hk11 : 2 ^ k ≤ 2048 := (Nat.pow_le_pow_right (by omega) (show k ≤ 11 by omega) : 2 ^ k ≤ 2 ^ 11)
  have hp : 2 ^ (k + 1) = 2 * 2 ^ k := Nat.pow_succ'
  have hj1 : jshl (nI 1) (nI k) = nI (2 ^ k) := jshl1 (by omega)
  have copy : ∀ τ w lo hi, FL σ0 τ a b k s m0 nu r (2 ^ k) w lo hi → ∀ j, j ≤ 2 ^ k → ∀ f, (∀ y, y < j → f (4096 * r + y) = sI τ 53 (4096 * r + y)) → (∀ y, y < 4096 * r ∨ 4096 * r + 4096 ≤ y → f y = sI τ 52 y) → WP g 45 59 (d + 2) M_X3_forks 230 [(0, .ref (eA g 45)), (1, .int (nI a)), (2, .int (nI b)), (5, .int (nI k)), (6, .int (nI r)), (7, .int (nI j))] [] (uIf τ 52 f) K := by
    intro τ w lo hi hF
    refine up_to (P := fun j => ∀ f, (∀ y, y < j → f (4096 * r + y) = sI τ 53 (4096 * r + y)) → (∀ y, y < 4096 * r ∨ 4096 * r + 4096 ≤ y → f y = sI τ 52 y) → WP g 45 59 (d + 2) M_X3_forks 230 [(0, .ref (eA g 45)), (1, .int (nI a)), (2, .int (nI b)), (5, .int (nI k)), (6, .int (nI r)), (7, .int (nI j))] [] (uIf τ 52 f) K) (2 ^ k) ?_ ?_
    · intro f h1 h2
      refine R_X3_forks_230 g (d + 1) _ _ _ _ _ _ K ⟨fun _ => ?_, fun q => ?_⟩
      · rw [nI_1']
        obtain ⟨f1, f2, f3, f4, f5, f6, f7, f8⟩ := hF
        refine h _ w lo hi ⟨f1.I (by omega), f2, fun z hz => ?_, fun z hz => ?_, fun r' x q1 q2 q3 => ?_, fun r' x q1 q2 q3 => ?_, fun x hx => absurd hx (Nat.not_lt_zero _), f8⟩
        · rw [sI_uIfn (by omega)]; exact f3 z hz
        · rw [sI_uIfn (by omega)]; exact f4 z hz
        · rw [sI_uIf]
          by_cases e : r' = r
          · rw [e, h1 x q3]; exact f7 x q3
          · rw [h2 _ (by omega)]; exact f5 r' x q1 (by omega) q3
        · rw [sI_uIf, h2 _ (by omega)]; exact f6 r' x (by omega) q2 q3
      · rw [hj1] at q
        exact absurd (nI_le (Nat.le_refl _) (by omega)) q
    · intro j hj ih f h1 h2
      refine R_X3_forks_230 g (d + 1) _ _ _ _ _ _ K ⟨fun q => ?_, fun _ => ?_⟩
      · rw [hj1, nI_leI (by omega) (by omega)] at q
        omega
      · rw [pk_mul, nI_add, vp_iff (by omega), vp_iff (by omega), nI_clamp (by omega), nI_1', uI_uIf, sI_uIfn (by decide)]
        refine ⟨by show _ < 131072; omega, by show _ < 131072; omega, ih _ (fun y hy => ?_) (fun y hy => ?_)⟩
        · by_cases e : y = j
          · rw [e, upd_eq]
          · rw [upd_ne (by omega)]; exact h1 y (by omega)
        · rw [upd_ne (by omega)]; exact h2 y hy
  have loop : ∀ j, j ≤ 2 ^ k → ∀ τ w lo hi, FL σ0 τ a b k s m0 nu r j w lo hi → WP g 45 59 (d + 2) M_X3_forks 158 [(0, .ref (eA g 45)), (1, .int (nI a)), (2, .int (nI b)), (5, .int (nI k)), (6, .int (nI r)), (7, .int (nI j))] [] τ K := by
    refine up_to (P := fun j => ∀ τ w lo hi, FL σ0 τ a b k s m0 nu r j w lo hi → WP g 45 59 (d + 2) M_X3_forks 158 [(0, .ref (eA g 45)), (1, .int (nI a)), (2, .int (nI b)), (5, .int (nI k)), (6, .int (nI r)), (7, .int (nI j))] [] τ K) (2 ^ k) ?_ ?_
    · intro τ w lo hi hF
      refine R_X3_forks_158 g (d + 1) _ _ _ _ _ _ K ⟨fun _ => ?_, fun q => ?_⟩
      · have := copy τ w lo hi hF 0 (Nat.zero_le _) (sI τ 52) (fun y hy => absurd hy (Nat.not_lt_zero _)) (fun y _ => rfl)
        rw [uIf_self] at this
        exact this
      · rw [hj1] at q
        exact absurd (nI_le (Nat.le_refl _) (by omega)) q
    · intro j hj ih τ w lo hi hF
      obtain ⟨f1, f2, f3, f4, f5, f6, f7, f8⟩ := id hF
      have hw := lvl_bound (F := F) h12 (by omega) hk hN f1.2.2.2.1 f1.2.2.2.2.1 f8
      refine R_X3_forks_158 g (d + 1) _ _ _ _ _ _ K ⟨fun q => ?_, fun _ => ?_⟩
      · rw [hj1, nI_leI (by omega) (by omega)] at q
        omega
      · rw [pk_mul, pk_mul, nI_add, nI_add, vp_iff (by omega), vp_iff (by omega), nI_clamp (by omega), nI_clamp (by omega), f6 r (2 * j) (Nat.le_refl _) hr (by omega), Nat.add_assoc, f6 r (2 * j + 1) (Nat.le_refl _) hr (by omega), nI_1', nI_add]
        have l1 := hm r (2 * j) har hr (by omega)
        have l2 := hm r (2 * j + 1) har hr (by omega)
        refine ⟨by show _ < 131072; omega, by show _ < 131072; omega, ?_⟩
        have st : ∀ τ' w' lo' hi' v, PD τ' s m0 k w' lo' hi' → (∀ z, z ≠ 11 → sV τ' z = sV τ z) → (∀ z, z < 54 → sI τ' z = sI τ z) → (∀ z, z ≠ k → sI τ' 54 z = sI τ 54 z) → (∀ r x v, RS nu m0 w lo hi r x v → RS nu m0 w' lo' hi' r x v) → RS nu m0 w' lo' hi' r j v → CV a b k nu w' lo' hi' → ∃ v1 : Int32, some (Value.int (nI v)) = some (.int v1) ∧ vp_in (nI (4096 * r + j)) (lenI 53) ∧ WP g 45 59 (d + 2) M_X3_forks 158 [(0, .ref (eA g 45)), (1, .int (nI a)), (2, .int (nI b)), (5, .int (nI k)), (6, .int (nI r)), (7, .int (nI (j + 1)))] [] (uI τ' 53 (nI (4096 * r + j)).toNatClampNeg v1) K := by
          intro τ' w' lo' hi' v g1 g2 g3 g4 g5 g6 g7
          refine ⟨_, rfl, ?_⟩
          rw [vp_iff (by omega), nI_clamp (by omega), uI_f]
          refine ⟨by show _ < 131072; omega, ih _ w' lo' hi' ⟨g1.I (by omega), fun z hz => ?_, fun z hz => ?_, fun z hz => ?_, fun r' x q1 q2 q3 => ?_, fun r' x q1 q2 q3 => ?_, fun x hx => ?_, g7⟩⟩
          · rw [sV_uIf, g2 z hz]; exact f2 z hz
          · rw [sI_uIfn (by omega), g3 z (by omega)]; exact f3 z hz
          · rw [sI_uIfn (by omega), g4 z hz]; exact f4 z hz
          · rw [sI_uIfn (by omega), g3 52 (by omega)]
            obtain ⟨u, u1, u2⟩ := f5 r' x q1 q2 q3
            exact ⟨u, u1, g5 _ _ _ u2⟩
          · rw [sI_uIfn (by omega), g3 52 (by omega)]; exact f6 r' x q1 q2 q3
          · rw [sI_uIf, g3 53 (by omega)]
            by_cases e : x = j
            · rw [e, upd_eq]; exact ⟨v, rfl, g6⟩
            · rw [upd_ne (by omega)]
              obtain ⟨u, u1, u2⟩ := f7 x (by omega)
              exact ⟨u, u1, g5 _ _ _ u2⟩
        refine m_pair f1 hs (by omega) (by omega) (by omega) l1 l2 (fun e => ?_) (fun i i1 e i2 i3 => ?_) (fun e hn τ' p1 p2 => ?_)
        · exact st τ w lo hi _ f1 (fun _ _ => rfl) (fun _ _ => rfl) (fun _ _ => rfl) (fun _ _ _ q => q) (Or.inl ⟨e, rfl⟩) f8
        · exact st τ w lo hi _ f1 (fun _ _ => rfl) (fun _ _ => rfl) (fun _ _ => rfl) (fun _ _ _ q => q) (Or.inr ⟨e, i, i1, i2, i3, rfl⟩) f8
        · refine st τ' (w + 1) _ _ _ p2 p1.1 p1.2.1 p1.2.2 (fun _ _ _ q => q.up) (Or.inr ⟨e, w, by omega, up_eq, up_eq, rfl⟩) (fun i hi' => ?_)
          by_cases e9 : i = w
          · rw [e9, up_eq, up_eq]
            exact ⟨r, j, har, hr, hj, rfl, rfl⟩
          · rw [up_ne e9, up_ne e9]
            exact f8 i (by omega)
  exact loop 0 (Nat.zero_le _) τ0 w0 lo0 hi0 hF0
end MOD2

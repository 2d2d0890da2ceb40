theorem add_sbt {a p : Nat} (h : a.testBit p = false) : a + 2 ^ p = sbt a p true := by
  have hl : a % 2 ^ p < 2 ^ p := Nat.mod_lt _ (Nat.two_pow_pos p)
  have hev : a / 2 ^ p % 2 = 0 := by
    rw [Nat.testBit_eq_decide_div_mod_eq] at h
    simpa using h
  have ea : a = 2 ^ p * (a / 2 ^ p) + a % 2 ^ p := (Nat.div_add_mod a (2 ^ p)).symm
  have eb : a + 2 ^ p = 2 ^ p * (a / 2 ^ p + 1) + a % 2 ^ p := by
    rw [Nat.mul_add, Nat.mul_one]
    omega
  apply Nat.eq_of_testBit_eq
  intro q
  rw [testBit_sbt, eb, Nat.testBit_two_pow_mul_add _ hl]
  have e2 : a.testBit q = if q < p then (a % 2 ^ p).testBit q else (a / 2 ^ p).testBit (q - p) := by
    conv => lhs; rw [ea]
    exact Nat.testBit_two_pow_mul_add _ hl q
  by_cases c : q = p
  · subst c
    rw [if_neg (by omega), if_pos rfl, Nat.sub_self, Nat.testBit_zero]
    simp
    omega
  · rw [if_neg c, e2]
    by_cases c2 : q < p
    · rw [if_pos c2, if_pos c2]
    · rw [if_neg c2, if_neg c2, show q - p = (q - p - 1) + 1 by omega, Nat.testBit_succ, Nat.testBit_succ]
      congr 1
      omega
theorem pos_add {o oi : Nat → Nat} {N m x : Nat} (hp : Prm o oi N) (hm : m < N) (hx : x < 2 ^ m) : pos o N (2 ^ m + x) = pos o N x + 2 ^ (N - 1 - oi m) := by
  have hN : x < 2 ^ N := Nat.lt_of_lt_of_le hx (Nat.pow_le_pow_right (by omega) (by omega))
  have hf : x.testBit m = false := bit_hi hx (Nat.le_refl _)
  have ho := hp.2 m hm
  rw [Nat.add_comm, add_sbt hf, pos_sbt hp hm hN, add_sbt]
  rw [pos_bit ho.1, ho.2, hf]
def csN (c : Nat → Nat) (m x : Nat) : Nat := sumN (fun v => if x.testBit v then c v else 0) m
theorem csN_add {c : Nat → Nat} {m x : Nat} (hx : x < 2 ^ m) : csN c (m + 1) (2 ^ m + x) = csN c m x + c m := by
  have hf : x.testBit m = false := bit_hi hx (Nat.le_refl _)
  have e : ∀ v, (2 ^ m + x).testBit v = if v = m then true else x.testBit v := fun v => by
    rw [Nat.add_comm, add_sbt hf, testBit_sbt]
  show sumN (fun v => if (2 ^ m + x).testBit v then c v else 0) m + (if (2 ^ m + x).testBit m then c m else 0) = sumN _ m + c m
  rw [e m, if_pos rfl, if_pos rfl]
  congr 1
  apply sumN_congr
  intro v hv
  show (if (2 ^ m + x).testBit v then c v else 0) = _
  rw [e v, if_neg (show ¬ v = m by omega)]
theorem csN_low {c : Nat → Nat} {m x : Nat} (hx : x < 2 ^ m) : csN c (m + 1) x = csN c m x := by
  have hf : x.testBit m = false := bit_hi hx (Nat.le_refl _)
  show sumN _ m + (if x.testBit m then c m else 0) = sumN _ m
  rw [hf]
  rfl
theorem csN_le {c : Nat → Nat} {m x : Nat} (hm : m ≤ 12) (hc : ∀ v, v < 12 → c v ≤ 1000000) : csN c m x ≤ 12000000 := by
  have := sumN_le (f := fun v => if x.testBit v then c v else 0) (m := 1000000) (n := m) (fun v hv => by
    show (if x.testBit v then c v else 0) ≤ 1000000
    split
    · exact hc v (by omega)
    · omega)
  unfold csN
  have h2 : m * 1000000 ≤ 12 * 1000000 := Nat.mul_le_mul_right _ hm
  omega
/-- the cheapest: of several the least number -/
def chF (f : Nat → Bool) (w : Nat → Nat) : Nat → Option Nat
  | 0 => none
  | n + 1 => match chF f w n with
    | none => if f n then some n else none
    | some b => if f n && decide (w n < w b) then some n else some b
def deF (f : Nat → Bool) (w : Nat → Nat) : Nat → Option Nat
  | 0 => none
  | n + 1 => if f n then some (match deF f w n with | none => w n | some b => max b (w n)) else deF f w n
def oI (x : Option Nat) : Int32 := match x with
  | none => -1
  | some b => nI b
theorem chF_lt {f : Nat → Bool} {w : Nat → Nat} : ∀ {n b : Nat}, chF f w n = some b → b < n
  | 0, b, h => by cases h
  | n + 1, b, h => by
    unfold chF at h
    cases hc : chF f w n with
    | none =>
      rw [hc] at h
      simp only at h
      split at h
      · cases h; omega
      · cases h
    | some b' =>
      rw [hc] at h
      simp only at h
      have := chF_lt hc
      split at h
      · cases h; omega
      · cases h; omega
theorem deF_le {f : Nat → Bool} {w : Nat → Nat} {m : Nat} (hw : ∀ x, w x ≤ m) : ∀ {n b : Nat}, deF f w n = some b → b ≤ m
  | 0, b, h => by cases h
  | n + 1, b, h => by
    unfold deF at h
    split at h
    · cases hc : deF f w n with
      | none =>
        rw [hc] at h
        cases h
        exact hw n
      | some b' =>
        rw [hc] at h
        have h1 := deF_le hw hc
        have h2 := hw n
        have h : max b' (w n) = b := Option.some.inj h
        omega
    · exact deF_le hw h
theorem nI_m1 {a : Nat} (h : a < 2 ^ 31) : ¬ nI a = -1 := fun e => by
  have := congrArg Int32.toInt e
  rw [nI_toInt h] at this
  have e2 : (-1 : Int32).toInt = -1 := by decide
  omega
section CLS5
variable {g : Ev} {d : Nat} {σ : St} {K : Option Value → St → Prop} {N cap : Nat} {T : Nat → Nat → Bool} {o oi c : Nat → Nat} {P : Nat → Bool}
theorem X_cost {x1 x2 : Int32} (hI : InvX σ N cap T o oi c P) (hbad : ¬ (isIn N x1 ∧ isIn 1000001 x2) → K (some (.int (-2))) σ) (hok : ∀ v w, v < N → w < 1000001 → x1 = nI v → x2 = nI w → ∀ σ', InvX σ' N cap T o oi (va_up c v w) P → K (some (.int (nI (c v)))) σ') : Runs g 0 45 (d + 2) M_X2_cost [.ref (eA g 0), .int x1, .int x2] σ K := by
  obtain ⟨hB, hT, hP⟩ := id hI
  have hN := hB.1
  refine E_X2_cost g (d + 1) _ _ σ K (sp_isLetter hB (fun v hv e => ⟨_, rfl, fun q => absurd q n10, fun _ => ?_⟩) (fun hn => ⟨_, rfl, fun _ => hbad (fun q => hn q.1), fun q => absurd rfl q⟩))
  rcases (nI_cases x2 (n := 1000001) (by omega)).symm with hx2 | ⟨w, hw, e2⟩
  · have bad2 : K (some (.int (-2))) σ := hbad fun ⟨_, w, hw, e2⟩ => hx2 (by rw [e2]; exact nI_rng hw (by omega))
    refine ⟨fun _ => bad2, fun q => ⟨fun q2 => absurd ⟨Int32.not_lt.mp q, ?_⟩ hx2, fun _ => bad2⟩⟩
    have h15 := Int32.le_iff_toInt_le.mp q2
    refine Int32.lt_iff_toInt_lt.mpr ?_
    have e15 : (nI 1000000).toInt = 1000000 := by decide
    have e16 : (nI 1000001).toInt = 1000001 := by decide
    omega
  subst e e2
  refine ⟨fun q => absurd q (nI_pos (by omega)), fun _ => ⟨fun _ => ?_, fun q => absurd (nI_le (by omega) (by omega)) q⟩⟩
  rw [vp_iff (by omega), nI_clamp (by omega), (hB.2.2.2.2.2.2.2.2.2 v (by omega)).1]
  refine ⟨by show v < 12; omega, by show v < 12; omega, hok v w hv hw rfl rfl _ ⟨?_, hT, ?_⟩⟩
  · obtain ⟨a, b, e0, e1, e2, e3, e4, e5, e6, e7⟩ := hB
    refine ⟨a, b, e0, e1, e2, e3, e4, e5, fun k hk => ?_, fun q hq => ?_⟩
    · rw [sI_uIn (by decide)]
      exact e6 k hk
    · rw [sI_uI]
      by_cases c1 : q = v
      · rw [c1, upd_eq, up_eq]
        exact ⟨rfl, by omega⟩
      · rw [upd_ne c1, up_ne c1]
        exact e7 q hq
  · obtain ⟨pt, ps, pl, q⟩ := hP
    exact ⟨pt, ps, pl, q⟩
theorem X_same {x1 x2 : Int32} (hI : InvX σ N cap T o oi c P) (hbad : ¬ (isR x1 ∧ isR x2) → K (some (.int (-2))) σ) (hok : ∀ a b, a < 32 → b < 32 → x1 = nI a → x2 = nI b → ((∀ x, x < 2 ^ N → T a x = T b x) → K (some (.int (nI 1))) σ) ∧ (¬ (∀ x, x < 2 ^ N → T a x = T b x) → K (some (.int (nI 0))) σ)) : Runs g 0 45 (d + 3) M_X2_same [.ref (eA g 0), .int x1, .int x2] σ K := by
  obtain ⟨hB, hT, hP⟩ := id hI
  have hpw := pwN hB.1.1 hB.1.2
  have hN := hB.1
  have hp := hB.2.2.2.2.2.2.2.1
  refine E_X2_same g (d + 2) _ _ σ K (sp_isReg (d := d + 1) (fun a ha e => ⟨_, rfl, fun q => absurd q n10, fun _ => ?_⟩) (fun hn => ⟨_, rfl, fun _ => hbad (fun q => hn q.1), fun q => absurd rfl q⟩))
  refine sp_isReg (d := d + 1) (fun b hb e2 => ⟨_, rfl, fun _ => ?_, fun q => absurd q n10⟩) (fun hn => ⟨_, rfl, fun q => absurd rfl q, fun _ => hbad (fun q => hn q.2)⟩)
  subst e e2
  obtain ⟨k1, k0⟩ := hok a b ha hb rfl rfl
  rw [vp_iff (by omega), vp_iff (by omega), nI_clamp (by omega), nI_clamp (by omega), hB.2.2.1, jshl1 (by omega)]
  have key : (∀ j, j < 2 ^ N → tb (sL σ (11 + a)) (0 + j) = tb (sL σ (11 + b)) (0 + j)) ↔ ∀ x, x < 2 ^ N → T a x = T b x := by
    have ev : ∀ r, r < 32 → ∀ i, i < 2 ^ N → tb (sL σ (11 + r)) (0 + i) = T r (spr o N i) := fun r hr i hi => by
      rw [Nat.zero_add, hT.1 r hr i (by omega)]
      simp [hi]
    constructor
    · intro h x hx
      have := h (pos o N x) (pos_lt x)
      rw [ev a ha _ (pos_lt x), ev b hb _ (pos_lt x), spr_pos hp hx] at this
      exact this
    · intro h i hi
      rw [ev a ha i hi, ev b hb i hi]
      exact h _ (spr_lt hp i)
  refine ⟨by omega, by omega, sp_alike (d := d) (lenJ_t (by omega)) (lenJ_t (by omega)) hN.2 (Nat.dvd_zero _) (Nat.dvd_zero _) (by omega) (by omega) (fun q => ⟨_, rfl, fun z => absurd z n10, fun _ => k1 (key.mp q)⟩) (fun q => ⟨_, rfl, fun _ => k0 (fun z => q (key.mpr z)), fun z => absurd rfl z⟩)⟩
theorem X_tells {x1 x2 : Int32} (hI : InvX σ N cap T o oi c P) (hbad : ¬ (isR x1 ∧ isIn (2 ^ N) x2) → K (some (.int (-2))) σ) (hok : ∀ a x, a < 32 → x < 2 ^ N → x1 = nI a → x2 = nI x → K (some (.int (bI (T a x)))) σ) : Runs g 0 45 (d + 2) M_X2_tells [.ref (eA g 0), .int x1, .int x2] σ K := by
  obtain ⟨hB, hT, hP⟩ := id hI
  have hpw := pwN hB.1.1 hB.1.2
  have hp := hB.2.2.2.2.2.2.2.1
  refine E_X2_tells g (d + 1) _ _ σ K (sp_isReg (fun a ha e => ⟨_, rfl, fun q => absurd q n10, fun _ => ?_⟩) (fun hn => ⟨_, rfl, fun _ => hbad (fun q => hn q.1), fun q => absurd rfl q⟩))
  refine sp_isAss hB (fun x hx e2 => ⟨_, rfl, fun _ => ?_, fun q => absurd q n10⟩) (fun hn => ⟨_, rfl, fun q => absurd rfl q, fun _ => hbad (fun q => hn q.2)⟩)
  subst e e2
  have hpl := pos_lt (o := o) (N := N) x
  have h9 := hok a x ha hx rfl rfl
  rw [vp_iff (by omega), nI_clamp (by omega)]
  refine ⟨by omega, sp_bitOf hB hx ⟨_, rfl, sp_has (lenJ_t (by omega)) (by omega) ⟨_, rfl, ?_⟩⟩⟩
  have ev : tb (sL σ (11 + a)) (pos o N x) = T a x := by
    rw [hT.1 a ha _ (by omega)]
    simp only
    rw [spr_pos hp hx]
    simp [hpl]
  rw [ev, bI_0]
  refine ⟨fun q => ?_, fun q => ?_⟩
  · rw [q] at h9
    exact h9
  · rw [show T a x = true by simpa using q] at h9
    exact h9
theorem X_many {x1 : Int32} (hI : InvX σ N cap T o oi c P) (hbad : ¬ isR x1 → K (some (.int (-2))) σ) (hok : ∀ a, a < 32 → x1 = nI a → K (some (.int (nI (cntB (T a) (2 ^ N))))) σ) : Runs g 0 45 (d + 2) M_X2_many [.ref (eA g 0), .int x1] σ K := by
  obtain ⟨hB, hT, hP⟩ := id hI
  have hpw := pwN hB.1.1 hB.1.2
  have hp := hB.2.2.2.2.2.2.2.1
  refine E_X2_many g (d + 1) _ σ K (sp_isReg (fun a ha e => ⟨_, rfl, fun _ => ?_, fun q => absurd q n10⟩) (fun hn => ⟨_, rfl, fun q => absurd rfl q, fun _ => hbad hn⟩))
  subst e
  have h9 := hok a ha rfl
  have loop : ∀ q, q ≤ 2 ^ (N - 6) → WP g 0 45 (d + 2) M_X2_many 14 [(0, .ref (eA g 0)), (1, .int (nI a)), (2, .int (nI (cntB (tb (sL σ (11 + a))) (64 * q)))), (3, .int (nI q))] [] σ K := by
    refine up_to (P := fun q => WP g 0 45 (d + 2) M_X2_many 14 [(0, .ref (eA g 0)), (1, .int (nI a)), (2, .int (nI (cntB (tb (sL σ (11 + a))) (64 * q)))), (3, .int (nI q))] [] σ K) (2 ^ (N - 6)) ?_ ?_
    · refine R_X2_many_14 g (d + 1) _ _ _ σ K ⟨fun _ => ?_, fun z => ?_⟩
      · have e1 : cntB (tb (sL σ (11 + a))) (64 * 2 ^ (N - 6)) = cntB (T a) (2 ^ N) := by
          obtain ⟨r, hr⟩ : ∃ r, 64 * 2 ^ (N - 6) = 2 ^ N + r := ⟨64 * 2 ^ (N - 6) - 2 ^ N, by omega⟩
          rw [hr, cntB_add, ← cnt_spr hp (T a)]
          have e2 : cntB (fun i => tb (sL σ (11 + a)) (2 ^ N + i)) r = 0 := by
            rw [cntB_congr (f' := fun _ => false)]
            · clear hr
              induction r with
              | zero => rfl
              | succ r ih => exact ih
            · intro i hi
              show tb (sL σ (11 + a)) (2 ^ N + i) = false
              rw [hT.1 a ha _ (by omega), show decide (2 ^ N + i < 2 ^ N) = false by simp, Bool.false_and]
          rw [e2, Nat.add_zero]
          apply cntB_congr
          intro i hi
          rw [hT.1 a ha i (by omega)]
          simp [hi]
        rw [e1]
        exact h9
      · rw [hB.2.2.2.2.1] at z
        exact absurd (nI_le (Nat.le_refl _) (by omega)) z
    · intro q hq ih
      refine R_X2_many_14 g (d + 1) _ _ _ σ K ⟨fun z => ?_, fun _ => ?_⟩
      · rw [hB.2.2.2.2.1] at z
        exact absurd ((nI_leI (by omega) (by omega)).mp z) (by omega)
      · rw [vp_iff (by omega), vp_iff (by omega), nI_clamp (by omega), nI_clamp (by omega), lenJ_t (by omega), nI_1']
        refine ⟨by omega, by omega, sp_bitCount _ ⟨_, rfl, ?_⟩⟩
        rw [nI_add]
        have e : cntB (tb (sL σ (11 + a))) (64 * q) + cntB (bt (sL σ (11 + a) q)) 64 = cntB (tb (sL σ (11 + a))) (64 * (q + 1)) := by
          rw [Nat.mul_add, Nat.mul_one, cntB_add]
          congr 1
          apply cntB_congr
          intro i hi
          rw [tb_at _ hi]
        rw [e]
        exact ih
  exact loop 0 (Nat.zero_le _)
/-- the numbers of the bits, the costs, row by row -/
theorem sp_extend {k m w : Nat} {f : Nat → Int32} (hk : k = 4 ∨ k = 5) (hm : m ≤ 11) (h : ∀ f', (∀ x, x < 2 ^ m → f' x = f x ∧ f' (2 ^ m + x) = f x + nI w) → K none (uIf σ k f')) : Runs g 0 45 (d + 1) M_X2_extend [.ref (eA g k), .int (nI m), .int (nI w)] (uIf σ k f) K := by
  have h2 : 2 ^ m ≤ 2048 := (Nat.pow_le_pow_right (by omega) hm : 2 ^ m ≤ 2 ^ 11)
  have hlen : lenI k = 8192 ∧ k < 45 := by rcases hk with rfl | rfl <;> decide
  refine E_X2_extend g d _ _ _ _ K ?_
  rw [jshl1 (by omega)]
  have loop : ∀ x, x ≤ 2 ^ m → ∀ f', (∀ y, y < 2 ^ m → f' y = f y) → (∀ y, y < x → f' (2 ^ m + y) = f y + nI w) → WP g 0 45 (d + 1) M_X2_extend 7 [(0, .ref (eA g k)), (2, .int (nI w)), (3, .int (nI (2 ^ m))), (4, .int (nI x))] [] (uIf σ k f') K := by
    refine up_to (P := fun x => ∀ f', (∀ y, y < 2 ^ m → f' y = f y) → (∀ y, y < x → f' (2 ^ m + y) = f y + nI w) → WP g 0 45 (d + 1) M_X2_extend 7 [(0, .ref (eA g k)), (2, .int (nI w)), (3, .int (nI (2 ^ m))), (4, .int (nI x))] [] (uIf σ k f') K) (2 ^ m) ?_ ?_
    · intro f' h1 h2
      exact R_X2_extend_7 g d _ _ _ _ _ K ⟨fun _ => h f' fun x hx => ⟨h1 x hx, h2 x hx⟩, fun q => absurd (nI_le (Nat.le_refl _) (by omega)) q⟩
    · intro x hx ih f' h1 h2
      refine R_X2_extend_7 g d _ _ _ _ _ K ⟨fun q => absurd ((nI_leI (by omega) (by omega)).mp q) (by omega), fun _ => ?_⟩
      rw [nI_add, nI_clamp (by omega), nI_clamp (by omega), vp_iff (by omega), vp_iff (by omega), nI_1', uI_f, uIf_uIf, sI_uIf, hlen.1]
      refine ⟨⟨hlen.2, by omega⟩, ⟨hlen.2, by omega⟩, ih _ (fun y hy => ?_) (fun y hy => ?_)⟩
      · rw [upd_ne (by omega)]
        exact h1 y hy
      · by_cases e : y = x
        · rw [e, upd_eq, h1 x hx]
        · rw [upd_ne (by omega)]
          exact h2 y (by omega)
  exact loop 0 (Nat.zero_le _) f (fun _ _ => rfl) (fun y hy => absurd hy (Nat.not_lt_zero _))
theorem sp_listBits (hB : XB σ N cap o oi c) (h : ∀ f, (∀ x, x < 2 ^ N → f x = nI (pos o N x)) → K none (uIf σ 4 f)) : Runs g 0 45 (d + 3) M_X2_listBits [.ref (eA g 0), .ref (eA g 4)] σ K := by
  have hpw := pwN hB.1.1 hB.1.2
  have hN := hB.1
  have hp := hB.2.2.2.2.2.2.2.1
  refine E_X2_listBits g (d + 2) _ σ K ⟨⟨by decide, (vp_iff (by omega)).mpr (by decide)⟩, ?_⟩
  rw [nI_clamp (by omega), uI_f]
  have loop : ∀ m, m ≤ N → ∀ f, (∀ x, x < 2 ^ m → f x = nI (pos o N x)) → WP g 0 45 (d + 3) M_X2_listBits 6 [(0, .ref (eA g 0)), (1, .ref (eA g 4)), (2, .int (nI m))] [] (uIf σ 4 f) K := by
    refine up_to (P := fun m => ∀ f, (∀ x, x < 2 ^ m → f x = nI (pos o N x)) → WP g 0 45 (d + 3) M_X2_listBits 6 [(0, .ref (eA g 0)), (1, .ref (eA g 4)), (2, .int (nI m))] [] (uIf σ 4 f) K) N ?_ ?_
    · intro f hf
      refine R_X2_listBits_6 g (d + 2) _ _ _ K ⟨fun _ => h f hf, fun z => ?_⟩
      rw [sV_uIf, hB.2.2.1] at z
      exact absurd (nI_le (Nat.le_refl _) (by omega)) z
    · intro m hm ih f hf
      have hom := (hp.2 m hm).1
      have hB1 : XB (uIf σ 4 f) N cap o oi c := hB.fr (fun _ _ => rfl) rfl hB.2.2.2.2.2.2.1 (sI_uIfn (by decide)) (sI_uIfn (by decide))
      refine R_X2_listBits_6 g (d + 2) _ _ _ K ⟨fun z => ?_, fun _ => ?_⟩
      · rw [sV_uIf, hB.2.2.1] at z
        exact absurd ((nI_leI (by omega) (by omega)).mp z) (by omega)
      · rw [nI_1']
        refine sp_placeOf hB1 hm ⟨_, rfl, ?_⟩
        rw [jshl1 (by omega)]
        refine sp_extend (Or.inl rfl) (by omega) (fun f' hf' => ⟨rfl, ih f' fun x hx => ?_⟩)
        rw [Nat.pow_succ] at hx
        rcases Nat.lt_or_ge x (2 ^ m) with q | q
        · rw [(hf' x q).1, hf x q]
        · obtain ⟨y, rfl⟩ : ∃ y, x = 2 ^ m + y := ⟨x - 2 ^ m, by omega⟩
          rw [(hf' y (by omega)).2, hf y (by omega), nI_add, pos_add hp hm (by omega)]
  refine loop 0 (Nat.zero_le _) _ (fun x hx => ?_)
  rw [show x = 0 by omega, upd_eq]
  congr 1
  have hz : pos o N 0 = 0 := by
    apply Nat.eq_of_testBit_eq
    intro q
    rw [Nat.zero_testBit]
    by_cases hq : q < N
    · rw [pos_bit' hq, Nat.zero_testBit]
    · exact pos_bit_hi (by omega)
  exact hz.symm
theorem sp_listCosts (hB : XB σ N cap o oi c) (h : ∀ f, (∀ x, x < 2 ^ N → f x = nI (csN c N x)) → K none (uIf σ 5 f)) : Runs g 0 45 (d + 2) M_X2_listCosts [.ref (eA g 0), .ref (eA g 5)] σ K := by
  have hpw := pwN hB.1.1 hB.1.2
  have hN := hB.1
  refine E_X2_listCosts g (d + 1) _ σ K ⟨⟨by decide, (vp_iff (by omega)).mpr (by decide)⟩, ?_⟩
  rw [nI_clamp (by omega), uI_f]
  have loop : ∀ m, m ≤ N → ∀ f, (∀ x, x < 2 ^ m → f x = nI (csN c m x)) → WP g 0 45 (d + 2) M_X2_listCosts 6 [(0, .ref (eA g 0)), (1, .ref (eA g 5)), (2, .int (nI m))] [] (uIf σ 5 f) K := by
    refine up_to (P := fun m => ∀ f, (∀ x, x < 2 ^ m → f x = nI (csN c m x)) → WP g 0 45 (d + 2) M_X2_listCosts 6 [(0, .ref (eA g 0)), (1, .ref (eA g 5)), (2, .int (nI m))] [] (uIf σ 5 f) K) N ?_ ?_
    · intro f hf
      refine R_X2_listCosts_6 g (d + 1) _ _ _ K ⟨fun _ => h f hf, fun z => ?_⟩
      rw [sV_uIf, hB.2.2.1] at z
      exact absurd (nI_le (Nat.le_refl _) (by omega)) z
    · intro m hm ih f hf
      refine R_X2_listCosts_6 g (d + 1) _ _ _ K ⟨fun z => ?_, fun _ => ?_⟩
      · rw [sV_uIf, hB.2.2.1] at z
        exact absurd ((nI_leI (by omega) (by omega)).mp z) (by omega)
      · rw [nI_1', vp_iff (by omega), nI_clamp (by omega), sI_uIfn (by decide), (hB.2.2.2.2.2.2.2.2.2 m (by omega)).1]
        refine ⟨by show m < 12; omega, sp_extend (Or.inr rfl) (by omega) (fun f' hf' => ⟨rfl, ih f' fun x hx => ?_⟩)⟩
        rw [Nat.pow_succ] at hx
        rcases Nat.lt_or_ge x (2 ^ m) with q | q
        · rw [(hf' x q).1, hf x q, csN_low q]
        · obtain ⟨y, rfl⟩ : ∃ y, x = 2 ^ m + y := ⟨x - 2 ^ m, by omega⟩
          rw [(hf' y (by omega)).2, hf y (by omega), nI_add, csN_add (by omega)]
  refine loop 0 (Nat.zero_le _) _ (fun x hx => ?_)
  rw [show x = 0 by omega, upd_eq]
  rfl
end CLS5

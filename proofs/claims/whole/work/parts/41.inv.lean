/-! the most forks -/
theorem Wid.le1 {F : Nat → Nat → Bool} {n a b k w : Nat} (hn : n ≤ 12) (hk : k ≤ n) (hab : b - a ≤ 32) (h : Wid F n a b k w) : w ≤ 32 * 2 ^ k := by
  obtain ⟨fn, a1, a2, -⟩ := h
  exact (most_found (F := F) hn hk hab (fun i hi => (a1 i hi).1) a2).2
theorem enc_split (B : Nat → Bool) (h : Nat) : ∀ m, enc B (h + m) = enc B h + 2 ^ h * enc (fun j => B (h + j)) m
  | 0 => by
    show enc B h = enc B h + 2 ^ h * 0
    omega
  | m + 1 => by
    show enc B (h + m) + (if B (h + m) then 2 ^ (h + m) else 0) = enc B h + 2 ^ h * (enc (fun j => B (h + j)) m + (if B (h + m) then 2 ^ m else 0))
    rw [enc_split B h m, Nat.mul_add, Nat.pow_add]
    split <;> omega
theorem Wid.le2 {F : Nat → Nat → Bool} {n a b k w m : Nat} (hk : k < n) (hm : n - k = m + 1) (h : Wid F n a b k w) : w ≤ 2 ^ 2 ^ m * (2 ^ 2 ^ m - 1) := by
  obtain ⟨fn, a1, a2, -⟩ := h
  have hpow : 2 ^ (n - k) = 2 ^ m + 2 ^ m := by rw [hm, Nat.pow_succ]; omega
  have hm1 : n - k - 1 = m := by omega
  have hH : 0 < 2 ^ 2 ^ m := Nat.two_pow_pos _
  generalize hHe : 2 ^ 2 ^ m = H at *
  have lo : ∀ i, enc (fun j => F (fn i).1 ((fn i).2 + j)) (2 ^ m) < H := fun i => by rw [← hHe]; exact enc_lt _ _
  have hi : ∀ i, enc (fun j => F (fn i).1 ((fn i).2 + (2 ^ m + j))) (2 ^ m) < H := fun i => by rw [← hHe]; exact enc_lt _ _
  have ne : ∀ i, i < w → enc (fun j => F (fn i).1 ((fn i).2 + j)) (2 ^ m) ≠ enc (fun j => F (fn i).1 ((fn i).2 + (2 ^ m + j))) (2 ^ m) := fun i hi e => by
    refine (a1 i hi).2 fun j hj => ?_
    rw [hm1] at hj ⊢
    have := enc_inj e j hj
    rw [this, Nat.add_assoc]
  refine pigeon (fun i => enc (fun j => F (fn i).1 ((fn i).2 + j)) (2 ^ m) * (H - 1) + (if enc (fun j => F (fn i).1 ((fn i).2 + (2 ^ m + j))) (2 ^ m) < enc (fun j => F (fn i).1 ((fn i).2 + j)) (2 ^ m) then enc (fun j => F (fn i).1 ((fn i).2 + (2 ^ m + j))) (2 ^ m) else enc (fun j => F (fn i).1 ((fn i).2 + (2 ^ m + j))) (2 ^ m) - 1)) (fun i hi0 => ?_) (fun i j hi0 hj0 e => ?_)
  · have h1 := lo i
    have h2 := hi i
    have h3 := ne i hi0
    show _ * (H - 1) + _ < H * (H - 1)
    generalize enc (fun j => F (fn i).1 ((fn i).2 + j)) (2 ^ m) = x at *
    generalize enc (fun j => F (fn i).1 ((fn i).2 + (2 ^ m + j))) (2 ^ m) = y at *
    have h4 : (x + 1) * (H - 1) ≤ H * (H - 1) := Nat.mul_le_mul_right _ h1
    rw [Nat.add_mul, Nat.one_mul] at h4
    split <;> omega
  · have h1 := lo i
    have h2 := hi i
    have h3 := ne i hi0
    have g1 := lo j
    have g2 := hi j
    have g3 := ne j hj0
    have e : enc (fun j => F (fn i).1 ((fn i).2 + j)) (2 ^ m) * (H - 1) + (if enc (fun j => F (fn i).1 ((fn i).2 + (2 ^ m + j))) (2 ^ m) < enc (fun j => F (fn i).1 ((fn i).2 + j)) (2 ^ m) then enc (fun j => F (fn i).1 ((fn i).2 + (2 ^ m + j))) (2 ^ m) else enc (fun j => F (fn i).1 ((fn i).2 + (2 ^ m + j))) (2 ^ m) - 1) = enc (fun q => F (fn j).1 ((fn j).2 + q)) (2 ^ m) * (H - 1) + (if enc (fun q => F (fn j).1 ((fn j).2 + (2 ^ m + q))) (2 ^ m) < enc (fun q => F (fn j).1 ((fn j).2 + q)) (2 ^ m) then enc (fun q => F (fn j).1 ((fn j).2 + (2 ^ m + q))) (2 ^ m) else enc (fun q => F (fn j).1 ((fn j).2 + (2 ^ m + q))) (2 ^ m) - 1) := e
    have key : enc (fun q => F (fn i).1 ((fn i).2 + q)) (2 ^ m) = enc (fun q => F (fn j).1 ((fn j).2 + q)) (2 ^ m) ∧ enc (fun q => F (fn i).1 ((fn i).2 + (2 ^ m + q))) (2 ^ m) = enc (fun q => F (fn j).1 ((fn j).2 + (2 ^ m + q))) (2 ^ m) := by
      generalize enc (fun q => F (fn i).1 ((fn i).2 + q)) (2 ^ m) = x at *
      generalize enc (fun q => F (fn i).1 ((fn i).2 + (2 ^ m + q))) (2 ^ m) = y at *
      generalize enc (fun q => F (fn j).1 ((fn j).2 + q)) (2 ^ m) = x' at *
      generalize enc (fun q => F (fn j).1 ((fn j).2 + (2 ^ m + q))) (2 ^ m) = y' at *
      have hr : ∀ u v : Nat, u < H → v < H → u ≠ v → (if v < u then v else v - 1) < H - 1 := fun u v p1 p2 p3 => by split <;> omega
      have r1 := hr x y h1 h2 h3
      have r2 := hr x' y' g1 g2 g3
      have hH1 : 0 < H - 1 := by omega
      have e1 := congrArg (fun z => z / (H - 1)) e
      rw [Nat.mul_comm x, Nat.mul_comm x', Nat.mul_add_div hH1, Nat.mul_add_div hH1, Nat.div_eq_of_lt r1, Nat.div_eq_of_lt r2] at e1
      have ex : x = x' := by omega
      subst ex
      refine ⟨rfl, ?_⟩
      have e2 := Nat.add_left_cancel e
      split at e2 <;> split at e2 <;> omega
    refine a2 i j hi0 hj0 fun q hq => ?_
    rcases Nat.lt_or_ge q (2 ^ m) with c | c
    · exact enc_inj key.1 q c
    · have := enc_inj key.2 (q - 2 ^ m) (by omega)
      rw [show 2 ^ m + (q - 2 ^ m) = q by omega] at this
      exact this
def mfN (n : Nat) : Nat := match n with
  | 0 => 0 | 1 => 2 | 2 => 14 | 3 => 46 | 4 => 110 | 5 => 238 | 6 => 478 | 7 => 734 | 8 => 1246 | 9 => 2270 | 10 => 4318 | 11 => 8414 | _ => 16606
theorem mf_fin : ∀ n : Fin 13, fMF n.1 = nI (mfN n.1) := by decide +kernel
theorem mf_lt : ∀ n : Fin 13, mfN n.1 < 20000 := by decide +kernel
theorem most_forks {F : Nat → Nat → Bool} {n : Nat} {wk : Nat → Nat} (h1 : 1 ≤ n) (hn : n ≤ 12) (h : ∀ k, k < n → Wid F n 0 32 k (wk k)) : sumN wk n ≤ mfN n := by
  have b1 : ∀ k, k < n → wk k ≤ 32 * 2 ^ k := fun k hk => (h k hk).le1 hn (by omega) (by omega)
  have b2 : ∀ k, k < n → n - k = 1 → wk k ≤ 2 := fun k hk e => by
    have := (h k hk).le2 (m := 0) hk e
    simpa using this
  have b3 : ∀ k, k < n → n - k = 2 → wk k ≤ 12 := fun k hk e => by
    have := (h k hk).le2 (m := 1) hk e
    simpa using this
  have b4 : ∀ k, k < n → n - k = 3 → wk k ≤ 240 := fun k hk e => by
    have := (h k hk).le2 (m := 2) hk e
    simpa using this
  clear h
  rcases (show n = 1 ∨ n = 2 ∨ n = 3 ∨ n = 4 ∨ n = 5 ∨ n = 6 ∨ n = 7 ∨ n = 8 ∨ n = 9 ∨ n = 10 ∨ n = 11 ∨ n = 12 by omega) with rfl | rfl | rfl | rfl | rfl | rfl | rfl | rfl | rfl | rfl | rfl | rfl
  · have c0 := b2 0 (by omega) (by omega)
    simp only [sumN, mfN]; omega
  · have c0 := b3 0 (by omega) (by omega); have c1 := b2 1 (by omega) (by omega)
    simp only [sumN, mfN]; omega
  all_goals
    have d0 := b1 0 (by omega)
    have d1 := b1 1 (by omega)
    have d2 := b1 2 (by omega)
    simp only [sumN, mfN]
  · have c1 := b3 1 (by omega) (by omega); have c2 := b2 2 (by omega) (by omega); omega
  · have c1 := b4 1 (by omega) (by omega); have c2 := b3 2 (by omega) (by omega); have c3 := b2 3 (by omega) (by omega); omega
  · have c1 := b4 2 (by omega) (by omega); have c2 := b3 3 (by omega) (by omega); have c3 := b2 4 (by omega) (by omega); omega
  · have d3 := b1 3 (by omega)
    have c1 := b4 3 (by omega) (by omega); have c2 := b3 4 (by omega) (by omega); have c3 := b2 5 (by omega) (by omega); omega
  · have d3 := b1 3 (by omega)
    have c1 := b4 4 (by omega) (by omega); have c2 := b3 5 (by omega) (by omega); have c3 := b2 6 (by omega) (by omega); omega
  · have d3 := b1 3 (by omega); have d4 := b1 4 (by omega)
    have c1 := b4 5 (by omega) (by omega); have c2 := b3 6 (by omega) (by omega); have c3 := b2 7 (by omega) (by omega); omega
  · have d3 := b1 3 (by omega); have d4 := b1 4 (by omega); have d5 := b1 5 (by omega)
    have c1 := b4 6 (by omega) (by omega); have c2 := b3 7 (by omega) (by omega); have c3 := b2 8 (by omega) (by omega); omega
  · have d3 := b1 3 (by omega); have d4 := b1 4 (by omega); have d5 := b1 5 (by omega); have d6 := b1 6 (by omega)
    have c1 := b4 7 (by omega) (by omega); have c2 := b3 8 (by omega) (by omega); have c3 := b2 9 (by omega) (by omega); omega
  · have d3 := b1 3 (by omega); have d4 := b1 4 (by omega); have d5 := b1 5 (by omega); have d6 := b1 6 (by omega); have d7 := b1 7 (by omega)
    have c1 := b4 8 (by omega) (by omega); have c2 := b3 9 (by omega) (by omega); have c3 := b2 10 (by omega) (by omega); omega
  · have d3 := b1 3 (by omega); have d4 := b1 4 (by omega); have d5 := b1 5 (by omega); have d6 := b1 6 (by omega); have d7 := b1 7 (by omega); have d8 := b1 8 (by omega)
    have c1 := b4 9 (by omega) (by omega); have c2 := b3 10 (by omega) (by omega); have c3 := b2 11 (by omega) (by omega); omega
/-! the class's state: N letters, the capacity, what each register tells of each assignment (T), the order (o, oi), the costs, the pointer's function (P) -/
def tabOK (L : Nat → Nat → Int64) (N t : Nat) (f : Nat → Bool) : Prop := ∀ i, i < 64 * 2 ^ (N - 6) → tb (L (11 + t)) i = (decide (i < 2 ^ N) && f i)
def XB (σ : St) (N cap : Nat) (o oi c : Nat → Nat) : Prop :=
  (1 ≤ N ∧ N ≤ 12) ∧ cap ≤ 20000 ∧ sV σ 0 = nI N ∧ sV σ 1 = nI cap ∧ sV σ 2 = nI (2 ^ (N - 6)) ∧ (∀ i, i < 64 → bt (sW σ) i = decide (i < 2 ^ N)) ∧ okR σ ∧ Prm o oi N ∧ (∀ k, k < N → sI σ 2 k = nI (o k)) ∧ ∀ v, v < 12 → sI σ 3 v = nI (c v) ∧ c v ≤ 1000000
def XT (L : Nat → Nat → Int64) (N : Nat) (T : Nat → Nat → Bool) (o : Nat → Nat) : Prop := (∀ r, r < 32 → tabOK L N r (fun i => T r (spr o N i))) ∧ tabOK L N 33 (fun _ => false)
def XP (σ : St) (N : Nat) (o : Nat → Nat) (P : Nat → Bool) : Prop := ∃ pt ps pl, sV σ 3 = nI pt ∧ sV σ 4 = nI ps ∧ sV σ 5 = nI pl ∧ (pt < 32 ∨ pt = 33) ∧ pl ≤ N ∧ ps < 2 ^ N ∧ 2 ^ (N - pl) ∣ ps ∧ ∀ x, x < 2 ^ N → P x = tb (sL σ (11 + pt)) (ps + pos o N x % 2 ^ (N - pl))
def InvX (σ : St) (N cap : Nat) (T : Nat → Nat → Bool) (o oi c : Nat → Nat) (P : Nat → Bool) : Prop := XB σ N cap o oi c ∧ XT (sL σ) N T o ∧ XP σ N o P
def FT (T : Nat → Nat → Bool) (o : Nat → Nat) (N : Nat) : Nat → Nat → Bool := fun r i => T r (spr o N i)
theorem pwN {N : Nat} (h1 : 1 ≤ N) (h : N ≤ 12) : 2 ^ N ≤ 4096 ∧ 2 ≤ 2 ^ N ∧ 64 * 2 ^ (N - 6) ≤ 4096 ∧ 2 ^ N ≤ 64 * 2 ^ (N - 6) ∧ 1 ≤ 2 ^ (N - 6) ∧ 2 ^ (N - 6) ≤ 64 := by
  rcases (show N = 1 ∨ N = 2 ∨ N = 3 ∨ N = 4 ∨ N = 5 ∨ N = 6 ∨ N = 7 ∨ N = 8 ∨ N = 9 ∨ N = 10 ∨ N = 11 ∨ N = 12 by omega) with rfl | rfl | rfl | rfl | rfl | rfl | rfl | rfl | rfl | rfl | rfl | rfl <;> decide
theorem XB.fr {σ σ' : St} {N cap : Nat} {o oi c : Nat → Nat} (h : XB σ N cap o oi c) (hV : ∀ k, k < 3 → sV σ' k = sV σ k) (hW : sW σ' = sW σ) (hR : okR σ') (h2 : sI σ' 2 = sI σ 2) (h3 : sI σ' 3 = sI σ 3) : XB σ' N cap o oi c := by
  obtain ⟨a, b, e0, e1, e2, e3, -, e5, e6, e7⟩ := h
  exact ⟨a, b, by rw [hV 0 (by omega)]; exact e0, by rw [hV 1 (by omega)]; exact e1, by rw [hV 2 (by omega)]; exact e2, by rw [hW]; exact e3, hR, e5, by rw [h2]; exact e6, by rw [h3]; exact e7⟩
theorem XB.W {σ σ' : St} {N cap : Nat} {o oi c : Nat → Nat} (h : XB σ N cap o oi c) (hw : Wfr σ σ') : XB σ' N cap o oi c := h.fr (fun k hk => hw.2.2.2.1 k (by omega) (by omega)) hw.2.1 (hw.2.2.1 h.2.2.2.2.2.2.1) (hw.2.2.2.2 2 (by decide) (by decide) (by decide) (by decide)) (hw.2.2.2.2 3 (by decide) (by decide) (by decide) (by decide))
theorem XP.W {σ σ' : St} {N : Nat} {o : Nat → Nat} {P : Nat → Bool} (h : XP σ N o P) (hw : Wfr σ σ') : XP σ' N o P := by
  obtain ⟨pt, ps, pl, a, b, c, d⟩ := h
  refine ⟨pt, ps, pl, by rw [hw.2.2.2.1 3 (by decide) (by decide)]; exact a, by rw [hw.2.2.2.1 4 (by decide) (by decide)]; exact b, by rw [hw.2.2.2.1 5 (by decide) (by decide)]; exact c, ?_⟩
  rw [hw.1]
  exact d
theorem InvX.W {σ σ' : St} {N cap : Nat} {T : Nat → Nat → Bool} {o oi c : Nat → Nat} {P : Nat → Bool} (h : InvX σ N cap T o oi c P) (hw : Wfr σ σ') : InvX σ' N cap T o oi c P := ⟨h.1.W hw, by rw [hw.1]; exact h.2.1, h.2.2.W hw⟩
/-- a table that is none of the registers' may change -/
theorem XT.spare {L : Nat → Nat → Int64} {N : Nat} {T : Nat → Nat → Bool} {o : Nat → Nat} {f : Nat → Int64} (h : XT L N T o) : XT (va_up L 43 f) N T o := by
  refine ⟨fun r hr i hi => ?_, fun i hi => ?_⟩
  · rw [up_ne (by omega)]
    exact h.1 r hr i hi
  · rw [up_ne (by omega)]
    exact h.2 i hi
theorem XP.spare {σ : St} {N : Nat} {o : Nat → Nat} {P : Nat → Bool} {f : Nat → Int64} (h : XP σ N o P) : XP (uLf σ 43 f) N o P := by
  obtain ⟨pt, ps, pl, a, b, c, d, e1, e2, e3, e4⟩ := h
  refine ⟨pt, ps, pl, a, b, c, d, e1, e2, e3, fun x hx => ?_⟩
  rw [sL_uLfn (by omega)]
  exact e4 x hx
theorem InvX.spare {σ : St} {N cap : Nat} {T : Nat → Nat → Bool} {o oi c : Nat → Nat} {P : Nat → Bool} {f : Nat → Int64} (h : InvX σ N cap T o oi c P) : InvX (uLf σ 43 f) N cap T o oi c P := ⟨h.1, h.2.1.spare, h.2.2.spare⟩

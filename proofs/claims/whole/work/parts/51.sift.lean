theorem Crd.map {α β : Type} {P : α → Prop} {E : α → α → Prop} {P' : β → Prop} {E' : β → β → Prop} {w : Nat} (φ : β → α) (ψ : α → β) (h1 : ∀ a, P a → P' (ψ a)) (h2 : ∀ a, P' a → P (φ a)) (h3 : ∀ a b, P a → P b → E' (ψ a) (ψ b) → E a b) (h4 : ∀ a b, P a → P' b → E a (φ b) → E' (ψ a) b) (h : Crd P E w) : Crd P' E' w := by
  obtain ⟨fn, a1, a2, a3⟩ := h
  refine ⟨fun i => ψ (fn i), fun i hi => h1 _ (a1 i hi), fun i j hi hj e => a2 i j hi hj (h3 _ _ (a1 i hi) (a1 j hj) e), fun b hb => ?_⟩
  obtain ⟨i, hi, e⟩ := a3 (φ b) (h2 b hb)
  exact ⟨i, hi, h4 _ _ (a1 i hi) hb e⟩
/-- digits below or above a block -/
theorem swb_in {s j p q m : Nat} (hs : 2 ^ m ∣ s) (hj : j < 2 ^ m) (hp : p < m) (hq : q < m) : swb (s + j) p q = s + swb j p q := by
  obtain ⟨a, rfl⟩ := hs
  have hl : swb j p q < 2 ^ m := swb_lt hj hp hq
  apply Nat.eq_of_testBit_eq
  intro z
  rw [testBit_swb, Nat.testBit_two_pow_mul_add _ hj, Nat.testBit_two_pow_mul_add _ hj, Nat.testBit_two_pow_mul_add _ hj, Nat.testBit_two_pow_mul_add _ hl, testBit_swb, if_pos hp, if_pos hq]
  by_cases c : z < m
  · rw [if_pos c, if_pos c]
  · rw [if_neg c, if_neg c, if_neg (by omega), if_neg (by omega)]
theorem swb_out {s j p q m : Nat} (hs : 2 ^ m ∣ s) (hj : j < 2 ^ m) (hp : m ≤ p) (hq : m ≤ q) : swb (s + j) p q = swb s p q + j ∧ 2 ^ m ∣ swb s p q := by
  obtain ⟨a, rfl⟩ := hs
  have e0 : swb (2 ^ m * a) p q = 2 ^ m * swb a (p - m) (q - m) := by
    apply Nat.eq_of_testBit_eq
    intro z
    rw [testBit_swb, Nat.testBit_two_pow_mul, Nat.testBit_two_pow_mul, Nat.testBit_two_pow_mul, Nat.testBit_two_pow_mul, testBit_swb]
    by_cases c : m ≤ z
    · by_cases c1 : z = q
      · rw [if_pos c1, if_pos (by omega)]
        simp [hp, c]
      · rw [if_neg c1, if_neg (show ¬ z - m = q - m by omega)]
        by_cases c2 : z = p
        · rw [if_pos c2, if_pos (by omega)]
          simp [hq, c]
        · rw [if_neg c2, if_neg (by omega)]
    · rw [if_neg (by omega), if_neg (by omega)]
      simp [c]
  refine ⟨?_, by rw [e0]; exact ⟨_, rfl⟩⟩
  rw [e0]
  apply Nat.eq_of_testBit_eq
  intro z
  rw [testBit_swb, Nat.testBit_two_pow_mul_add _ hj, Nat.testBit_two_pow_mul_add _ hj, Nat.testBit_two_pow_mul_add _ hj, Nat.testBit_two_pow_mul_add _ hj, testBit_swb, if_neg (show ¬ p < m by omega), if_neg (show ¬ q < m by omega)]
  by_cases c : z < m
  · rw [if_pos c, if_pos c, if_neg (by omega), if_neg (by omega)]
  · rw [if_neg c, if_neg c]
    by_cases c1 : z = q
    · rw [if_pos c1, if_pos (by omega)]
    · rw [if_neg c1, if_neg (show ¬ z - m = q - m by omega)]
      by_cases c2 : z = p
      · rw [if_pos c2, if_pos (by omega)]
      · rw [if_neg c2, if_neg (by omega)]
/-- two levels change: the widths of the others stay -/
theorem wid_swb {F F' : Nat → Nat → Bool} {n a b q k w : Nat} (hk : k + 1 < n) (hq : q < n) (hne : q ≠ k ∧ q ≠ k + 1) (hF : ∀ r i, a ≤ r → r < b → i < 2 ^ n → F' r i = F r (swb i (n - 1 - k) (n - 1 - (k + 1)))) (h : Wid F n a b q w) : Wid F' n a b q w := by
  have hpow : 2 ^ (n - q) = 2 * 2 ^ (n - q - 1) := by rw [← Nat.pow_succ']; congr 1; omega
  have hp0 := Nat.two_pow_pos (n - q - 1)
  have up : ∀ z : Nat × Nat, lev n q a b z → z.2 + 2 ^ (n - q) ≤ 2 ^ n := fun z hz => align_lt (m := 0) hz.2.2.2 hz.2.2.1 (Nat.sub_le n q)
  rcases Nat.lt_or_ge q k with hlt | hge
  · -- inside the parts
    have ev : ∀ z : Nat × Nat, lev n q a b z → ∀ j, j < 2 ^ (n - q) → F' z.1 (z.2 + j) = F z.1 (z.2 + swb j (n - 1 - k) (n - 1 - (k + 1))) := fun z hz j hj => by
      have := up z hz
      rw [hF _ _ hz.1 hz.2.1 (by omega), swb_in hz.2.2.2 hj (by omega) (by omega)]
    have hh : ∀ j, j < 2 ^ (n - q - 1) → swb j (n - 1 - k) (n - 1 - (k + 1)) < 2 ^ (n - q - 1) ∧ swb (2 ^ (n - q - 1) + j) (n - 1 - k) (n - 1 - (k + 1)) = 2 ^ (n - q - 1) + swb j (n - 1 - k) (n - 1 - (k + 1)) := fun j hj => ⟨swb_lt hj (by omega) (by omega), swb_in (Nat.dvd_refl _) hj (by omega) (by omega)⟩
    have he : ∀ z : Nat × Nat, lev n q a b z → (ess F n q z ↔ ess F' n q z) := fun z hz => by
      unfold ess
      refine not_congr ⟨fun hA j hj => ?_, fun hA j hj => ?_⟩
      · obtain ⟨s1, s2⟩ := hh j hj
        rw [ev z hz j (by omega), Nat.add_assoc, ev z hz _ (by omega), s2, ← Nat.add_assoc]
        exact hA _ s1
      · obtain ⟨s1, s2⟩ := hh j hj
        have := hA _ s1
        obtain ⟨s3, s4⟩ := hh _ s1
        rw [ev z hz _ (by omega), Nat.add_assoc, ev z hz _ (by omega), s4, swb_swb, ← Nat.add_assoc] at this
        exact this
    have eE : ∀ z z' : Nat × Nat, lev n q a b z → lev n q a b z' → (eqF F' (n - q) z z' ↔ eqF F (n - q) z z') := fun z z' hz hz' => by
      constructor
      · intro hA j hj
        have hl : swb j (n - 1 - k) (n - 1 - (k + 1)) < 2 ^ (n - q) := swb_lt hj (by omega) (by omega)
        have := hA _ hl
        rw [ev z hz _ hl, ev z' hz' _ hl, swb_swb] at this
        exact this
      · intro hA j hj
        have hl : swb j (n - 1 - k) (n - 1 - (k + 1)) < 2 ^ (n - q) := swb_lt hj (by omega) (by omega)
        rw [ev z hz _ hj, ev z' hz' _ hj]
        exact hA _ hl
    exact Crd.map (fun z => z) (fun z => z) (fun z hz => ⟨hz.1, (he z hz.1).mp hz.2⟩) (fun z hz => ⟨hz.1, (he z hz.1).mpr hz.2⟩) (fun z z' hz hz' e => (eE z z' hz.1 hz'.1).mp e) (fun z z' hz hz' e => (eE z z' hz.1 hz'.1).mpr e) h
  · -- above the parts
    have hq2 : k + 2 ≤ q := by omega
    have ev : ∀ z : Nat × Nat, lev n q a b z → ∀ j, j < 2 ^ (n - q) → F' z.1 (z.2 + j) = F z.1 (swb z.2 (n - 1 - k) (n - 1 - (k + 1)) + j) := fun z hz j hj => by
      have := up z hz
      rw [hF _ _ hz.1 hz.2.1 (by omega), (swb_out hz.2.2.2 hj (by omega) (by omega)).1]
    have hlv : ∀ z : Nat × Nat, lev n q a b z → lev n q a b (z.1, swb z.2 (n - 1 - k) (n - 1 - (k + 1))) := fun z hz => ⟨hz.1, hz.2.1, swb_lt hz.2.2.1 (by omega) (by omega), (swb_out (j := 0) hz.2.2.2 (by omega) (by omega) (by omega)).2⟩
    have he : ∀ z : Nat × Nat, lev n q a b z → (ess F n q (z.1, swb z.2 (n - 1 - k) (n - 1 - (k + 1))) ↔ ess F' n q z) := fun z hz => by
      unfold ess
      refine not_congr ⟨fun hA j hj => ?_, fun hA j hj => ?_⟩
      · rw [ev z hz j (by omega), Nat.add_assoc, ev z hz _ (by omega), ← Nat.add_assoc]
        exact hA j hj
      · have := hA j hj
        rw [ev z hz j (by omega), Nat.add_assoc, ev z hz _ (by omega), ← Nat.add_assoc] at this
        exact this
    have back : ∀ z : Nat × Nat, ((z.1, swb (swb z.2 (n - 1 - k) (n - 1 - (k + 1))) (n - 1 - k) (n - 1 - (k + 1))) : Nat × Nat) = z := fun z => by rw [swb_swb]
    refine Crd.map (fun z => (z.1, swb z.2 (n - 1 - k) (n - 1 - (k + 1)))) (fun z => (z.1, swb z.2 (n - 1 - k) (n - 1 - (k + 1)))) (fun z hz => ⟨hlv z hz.1, ?_⟩) (fun z hz => ⟨hlv z hz.1, (he z hz.1).mpr hz.2⟩) (fun z z' hz hz' e j hj => ?_) (fun z z' hz hz' e j hj => ?_) h
    · have := (he _ (hlv z hz.1)).mp
      simp only [back] at this
      exact this hz.2
    · have := e j hj
      rw [ev _ (hlv z hz.1) j hj, ev _ (hlv z' hz'.1) j hj] at this
      simp only [swb_swb] at this
      exact this
    · have := e j hj
      rw [ev _ (hlv z hz.1) j hj, ev z' hz'.1 j hj]
      simp only [swb_swb]
      exact this
theorem sum_two {f h : Nat → Nat} {m : Nat} : ∀ {N : Nat}, m + 1 < N → (∀ q, q < N → q ≠ m → q ≠ m + 1 → f q = h q) → sumN f N + (h m + h (m + 1)) = sumN h N + (f m + f (m + 1)) := by
  intro N hm hq
  obtain ⟨r, rfl⟩ : ∃ r, N = m + 2 + r := ⟨N - (m + 2), by omega⟩
  have base : sumN f (m + 2) + (h m + h (m + 1)) = sumN h (m + 2) + (f m + f (m + 1)) := by
    have e := sumN_congr (f := f) (f' := h) (n := m) (fun q hq' => hq q (by omega) (by omega) (by omega))
    show (sumN f m + f m) + f (m + 1) + (h m + h (m + 1)) = (sumN h m + h m) + h (m + 1) + (f m + f (m + 1))
    omega
  clear hm
  induction r with
  | zero => exact base
  | succ r ih =>
    have e := hq (m + 2 + r) (by omega) (by omega) (by omega)
    have := ih (fun q h1 h2 h3 => hq q (by omega) h2 h3)
    show sumN f (m + 2 + r) + f (m + 2 + r) + (h m + h (m + 1)) = sumN h (m + 2 + r) + h (m + 2 + r) + (f m + f (m + 1))
    omega
/-- the order with the letter of level L at another level -/
def rmO (o : Nat → Nat) (L : Nat) : Nat → Nat := fun j => if j < L then o j else o (j + 1)
def insO (o : Nat → Nat) (L m : Nat) : Nat → Nat := fun j => if j < m then rmO o L j else if j = m then o L else rmO o L (j - 1)
theorem insO_self (o : Nat → Nat) (L : Nat) : insO o L L = o := by
  funext j
  unfold insO rmO
  by_cases c1 : j < L
  · rw [if_pos c1, if_pos c1]
  · rw [if_neg c1]
    by_cases c2 : j = L
    · rw [if_pos c2, c2]
    · rw [if_neg c2, if_neg (by omega), show j - 1 + 1 = j by omega]
theorem insO_up (o : Nat → Nat) (L m : Nat) : osw (insO o L (m + 1)) m = insO o L m := by
  funext j
  unfold osw insO
  by_cases c1 : j = m
  · rw [if_pos c1, if_neg (by omega), if_pos rfl, if_neg (by omega), if_pos c1]
  · rw [if_neg c1]
    by_cases c2 : j = m + 1
    · rw [if_pos c2, if_pos (by omega), if_neg (by omega), if_neg (by omega), c2, Nat.add_sub_cancel]
    · rw [if_neg c2]
      by_cases c3 : j < m
      · rw [if_pos (by omega), if_pos c3]
      · rw [if_neg (by omega), if_neg c2, if_neg c3, if_neg c1]
theorem insO_dn (o : Nat → Nat) (L m : Nat) : osw (insO o L m) m = insO o L (m + 1) := by
  rw [← insO_up o L m, osw_osw]
def bst (F : Nat → Nat) : Nat → Nat
  | 0 => 0
  | k + 1 => if F (k + 1) < F (bst F k) then k + 1 else bst F k
theorem bst_le (F : Nat → Nat) : ∀ k, bst F k ≤ k
  | 0 => Nat.le_refl _
  | k + 1 => by
    have := bst_le F k
    show (if F (k + 1) < F (bst F k) then k + 1 else bst F k) ≤ k + 1
    split <;> omega
theorem bst_congr {F F' : Nat → Nat} : ∀ {k : Nat}, (∀ m, m ≤ k → F m = F' m) → bst F k = bst F' k
  | 0, _ => rfl
  | k + 1, h => by
    have ih := bst_congr (k := k) (fun m hm => h m (by omega))
    have hb := bst_le F' k
    show (if F (k + 1) < F (bst F k) then k + 1 else bst F k) = (if F' (k + 1) < F' (bst F' k) then k + 1 else bst F' k)
    rw [ih, h (k + 1) (Nat.le_refl _), h (bst F' k) (by omega)]

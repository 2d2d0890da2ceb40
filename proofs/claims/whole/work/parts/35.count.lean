/-! counting up to a likeness -/
theorem pigeon {m N : Nat} (f : Nat → Nat) (h1 : ∀ i, i < m → f i < N) (h2 : ∀ i j, i < m → j < m → f i = f j → i = j) : m ≤ N := by
  have nd : ((List.range m).map f).Nodup := by
    rw [List.nodup_iff_pairwise_ne, List.pairwise_map]
    refine List.Pairwise.imp_of_mem ?_ (List.nodup_iff_pairwise_ne.mp List.nodup_range)
    intro a b ha hb hab e
    exact hab (h2 a b (List.mem_range.mp ha) (List.mem_range.mp hb) e)
  have := List.Nodup.length_le_of_subset (l₂ := List.range N) nd (fun x hx => by
    obtain ⟨q, hq, rfl⟩ := List.mem_map.mp hx
    exact List.mem_range.mpr (h1 q (List.mem_range.mp hq)))
  rw [List.length_map, List.length_range, List.length_range] at this
  exact this
def Crd {α : Type} (P : α → Prop) (E : α → α → Prop) (w : Nat) : Prop := ∃ fn : Nat → α, (∀ i, i < w → P (fn i)) ∧ (∀ i j, i < w → j < w → E (fn i) (fn j) → i = j) ∧ ∀ a, P a → ∃ i, i < w ∧ E (fn i) a
theorem Crd.le {α : Type} {P : α → Prop} {E : α → α → Prop} {w w' : Nat} (hs : ∀ a b, E a b → E b a) (ht : ∀ a b c, E a b → E b c → E a c) (h : Crd P E w) (h' : Crd P E w') : w ≤ w' := by
  obtain ⟨fn, a1, a2, a3⟩ := h
  obtain ⟨fn', b1, b2, b3⟩ := h'
  have ch : ∀ i, ∃ j, i < w → j < w' ∧ E (fn' j) (fn i) := fun i => by
    by_cases hi : i < w
    · obtain ⟨j, hj, hE⟩ := b3 _ (a1 i hi)
      exact ⟨j, fun _ => ⟨hj, hE⟩⟩
    · exact ⟨0, fun q => absurd q hi⟩
  refine pigeon (fun i => (ch i).choose) (fun i hi => ((ch i).choose_spec hi).1) (fun i j hi hj e => a2 i j hi hj ?_)
  have q1 := ((ch i).choose_spec hi).2
  have q2 := ((ch j).choose_spec hj).2
  have e : (ch i).choose = (ch j).choose := e
  rw [e] at q1
  exact ht _ _ _ (hs _ _ q1) q2
theorem Crd.eq {α : Type} {P : α → Prop} {E : α → α → Prop} {w w' : Nat} (hs : ∀ a b, E a b → E b a) (ht : ∀ a b c, E a b → E b c → E a c) (h : Crd P E w) (h' : Crd P E w') : w = w' := Nat.le_antisymm (h.le hs ht h') (h'.le hs ht h)
/-- a family of functions F (by number) of 2 ^ n bits; a part is a number and a start -/
def eqF (F : Nat → Nat → Bool) (e : Nat) (z z' : Nat × Nat) : Prop := ∀ j, j < 2 ^ e → F z.1 (z.2 + j) = F z'.1 (z'.2 + j)
def lev (n k a b : Nat) (z : Nat × Nat) : Prop := a ≤ z.1 ∧ z.1 < b ∧ z.2 < 2 ^ n ∧ 2 ^ (n - k) ∣ z.2
def ess (F : Nat → Nat → Bool) (n k : Nat) (z : Nat × Nat) : Prop := ¬ ∀ j, j < 2 ^ (n - k - 1) → F z.1 (z.2 + j) = F z.1 (z.2 + 2 ^ (n - k - 1) + j)
def Wid (F : Nat → Nat → Bool) (n a b k w : Nat) : Prop := Crd (fun z => lev n k a b z ∧ ess F n k z) (eqF F (n - k)) w
theorem eqF.sy {F : Nat → Nat → Bool} {e : Nat} (z z' : Nat × Nat) (h : eqF F e z z') : eqF F e z' z := fun j hj => (h j hj).symm
theorem eqF.tr {F : Nat → Nat → Bool} {e : Nat} (z z' z'' : Nat × Nat) (h : eqF F e z z') (h' : eqF F e z' z'') : eqF F e z z'' := fun j hj => (h j hj).trans (h' j hj)
theorem Wid.eq {F : Nat → Nat → Bool} {n a b k w w' : Nat} (h : Wid F n a b k w) (h' : Wid F n a b k w') : w = w' := Crd.eq eqF.sy eqF.tr h h'
theorem Wid.congr {F F' : Nat → Nat → Bool} {n a b k w : Nat} (hk : k < n) (hF : ∀ r i, a ≤ r → r < b → i < 2 ^ n → F r i = F' r i) (h : Wid F n a b k w) : Wid F' n a b k w := by
  have hpow : 2 ^ (n - k) = 2 * 2 ^ (n - k - 1) := by rw [← Nat.pow_succ']; congr 1; omega
  have al : ∀ z : Nat × Nat, lev n k a b z → ∀ j, j < 2 ^ (n - k) → F z.1 (z.2 + j) = F' z.1 (z.2 + j) := fun z hz j hj => by
    have := align_lt (m := 0) hz.2.2.2 hz.2.2.1 (Nat.sub_le n k)
    exact hF _ _ hz.1 hz.2.1 (by omega)
  have he : ∀ z : Nat × Nat, lev n k a b z → (ess F n k z ↔ ess F' n k z) := fun z hz => by
    unfold ess
    refine not_congr ⟨fun h j hj => ?_, fun h j hj => ?_⟩
    · have := h j hj
      rw [al z hz j (by omega), Nat.add_assoc, al z hz _ (by omega), ← Nat.add_assoc] at this
      exact this
    · rw [al z hz j (by omega), Nat.add_assoc, al z hz _ (by omega), ← Nat.add_assoc]
      exact h j hj
  obtain ⟨fn, a1, a2, a3⟩ := h
  refine ⟨fn, fun i hi => ⟨(a1 i hi).1, (he _ (a1 i hi).1).mp (a1 i hi).2⟩, fun i j hi hj hE => a2 i j hi hj fun q hq => ?_, fun z hz => ?_⟩
  · rw [al _ (a1 i hi).1 q hq, al _ (a1 j hj).1 q hq]
    exact hE q hq
  · obtain ⟨i, hi, hE⟩ := a3 z ⟨hz.1, (he z hz.1).mpr hz.2⟩
    refine ⟨i, hi, fun q hq => ?_⟩
    rw [← al _ (a1 i hi).1 q hq, ← al z hz.1 q hq]
    exact hE q hq
/-- bits as a number -/
def enc (B : Nat → Bool) : Nat → Nat
  | 0 => 0
  | m + 1 => enc B m + if B m then 2 ^ m else 0
theorem enc_lt (B : Nat → Bool) : ∀ m, enc B m < 2 ^ m
  | 0 => Nat.zero_lt_one
  | m + 1 => by
    have := enc_lt B m
    show enc B m + (if B m then 2 ^ m else 0) < 2 ^ (m + 1)
    rw [Nat.pow_succ]
    split <;> omega
theorem enc_inj {B B' : Nat → Bool} : ∀ {m : Nat}, enc B m = enc B' m → ∀ j, j < m → B j = B' j
  | 0, _, j, hj => absurd hj (Nat.not_lt_zero _)
  | m + 1, h, j, hj => by
    have l1 := enc_lt B m
    have l2 := enc_lt B' m
    have h : enc B m + (if B m then 2 ^ m else 0) = enc B' m + (if B' m then 2 ^ m else 0) := h
    have hb : B m = B' m := by
      cases h1 : B m <;> cases h2 : B' m <;> simp [h1, h2] at h ⊢ <;> omega
    rcases (show j = m ∨ j < m by omega) with rfl | hj
    · exact hb
    · rw [hb] at h
      exact enc_inj (by omega) j hj
/-- no more than 8192 parts at a level -/
theorem most_found {F : Nat → Nat → Bool} {n k a b m : Nat} {fn : Nat → Nat × Nat} (hn : n ≤ 12) (hk : k ≤ n) (hab : b - a ≤ 32) (h1 : ∀ i, i < m → lev n k a b (fn i)) (h2 : ∀ i j, i < m → j < m → eqF F (n - k) (fn i) (fn j) → i = j) : m ≤ 8192 ∧ m ≤ 32 * 2 ^ k := by
  have nm : m ≤ 32 * 2 ^ k := by
    refine pigeon (fun i => ((fn i).1 - a) * 2 ^ k + (fn i).2 / 2 ^ (n - k)) (fun i hi => ?_) (fun i j hi hj e => h2 i j hi hj ?_)
    · obtain ⟨q1, q2, q3, q4⟩ := h1 i hi
      have : (fn i).2 / 2 ^ (n - k) < 2 ^ k := by
        apply Nat.div_lt_of_lt_mul
        rw [← Nat.pow_add, show n - k + k = n by omega]
        exact q3
      have h3 : ((fn i).1 - a + 1) * 2 ^ k ≤ 32 * 2 ^ k := Nat.mul_le_mul_right _ (by omega)
      rw [Nat.add_mul, Nat.one_mul] at h3
      show ((fn i).1 - a) * 2 ^ k + (fn i).2 / 2 ^ (n - k) < 32 * 2 ^ k
      omega
    · obtain ⟨q1, q2, q3, q4⟩ := h1 i hi
      obtain ⟨p1, p2, p3, p4⟩ := h1 j hj
      have l1 : (fn i).2 / 2 ^ (n - k) < 2 ^ k := by
        apply Nat.div_lt_of_lt_mul
        rw [← Nat.pow_add, show n - k + k = n by omega]
        exact q3
      have l2 : (fn j).2 / 2 ^ (n - k) < 2 ^ k := by
        apply Nat.div_lt_of_lt_mul
        rw [← Nat.pow_add, show n - k + k = n by omega]
        exact p3
      have e : ((fn i).1 - a) * 2 ^ k + (fn i).2 / 2 ^ (n - k) = ((fn j).1 - a) * 2 ^ k + (fn j).2 / 2 ^ (n - k) := e
      have e1 := congrArg (fun z => z / 2 ^ k) e
      have e2 := congrArg (fun z => z % 2 ^ k) e
      simp only [Nat.mul_add_mod_self_right, Nat.mod_eq_of_lt l1, Nat.mod_eq_of_lt l2] at e2
      have hp := Nat.two_pow_pos k
      have dv : ∀ x y : Nat, y < 2 ^ k → (x * 2 ^ k + y) / 2 ^ k = x := fun x y hy => by rw [Nat.add_comm, Nat.add_mul_div_right _ _ hp, Nat.div_eq_of_lt hy, Nat.zero_add]
      simp only [dv _ _ l1, dv _ _ l2] at e1
      have e3 : (fn i).2 = (fn j).2 := by
        rw [← Nat.mul_div_cancel' q4, ← Nat.mul_div_cancel' p4, e2]
      have e4 : (fn i).1 = (fn j).1 := by omega
      intro q _
      rw [e3, e4]
  refine ⟨?_, nm⟩
  by_cases h8 : k ≤ 8
  · have : 32 * 2 ^ k ≤ 32 * 2 ^ 8 := Nat.mul_le_mul_left _ (Nat.pow_le_pow_right (by omega) h8)
    omega
  · have : m ≤ 2 ^ 2 ^ (n - k) := pigeon (fun i => enc (fun j => F (fn i).1 ((fn i).2 + j)) (2 ^ (n - k))) (fun i _ => enc_lt _ _) (fun i j hi hj e => h2 i j hi hj fun q hq => enc_inj e q hq)
    have h3 : 2 ^ (n - k) ≤ 2 ^ 3 := Nat.pow_le_pow_right (by omega) (by omega)
    have h4 : 2 ^ 2 ^ (n - k) ≤ 2 ^ 8 := Nat.pow_le_pow_right (by omega) h3
    omega

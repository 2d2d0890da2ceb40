/-! the order of letters: positions and assignments -/
def orN (f : Nat → Nat) : Nat → Nat
  | 0 => 0
  | n + 1 => orN f n ||| f n
theorem orN_bit {f : Nat → Nat} {q : Nat} : ∀ {n : Nat}, (orN f n).testBit q = true ↔ ∃ k, k < n ∧ (f k).testBit q = true
  | 0 => by
    show (0 : Nat).testBit q = true ↔ _
    simp
  | n + 1 => by
    show (orN f n ||| f n).testBit q = true ↔ _
    rw [Nat.testBit_or, Bool.or_eq_true, orN_bit (n := n)]
    constructor
    · rintro (⟨k, h1, h2⟩ | h)
      · exact ⟨k, by omega, h2⟩
      · exact ⟨n, by omega, h⟩
    · rintro ⟨k, h1, h2⟩
      rcases (show k < n ∨ k = n by omega) with h | rfl
      · exact Or.inl ⟨k, h, h2⟩
      · exact Or.inr h2
/-- o: letters by level, oi: levels by letter -/
def Prm (o oi : Nat → Nat) (N : Nat) : Prop := (∀ k, k < N → o k < N ∧ oi (o k) = k) ∧ ∀ v, v < N → oi v < N ∧ o (oi v) = v
def sprF (o : Nat → Nat) (N i : Nat) : Nat → Nat := fun k => if i.testBit (N - 1 - k) then 2 ^ o k else 0
def spr (o : Nat → Nat) (N i : Nat) : Nat := orN (sprF o N i) N
def posF (o : Nat → Nat) (N x : Nat) : Nat → Nat := fun k => if x.testBit (o k) then 2 ^ (N - 1 - k) else 0
def pos (o : Nat → Nat) (N x : Nat) : Nat := orN (posF o N x) N
theorem ite_pow_bit {b : Bool} {p q : Nat} : (if b then 2 ^ p else 0 : Nat).testBit q = (b && decide (p = q)) := by
  cases b
  · simp
  · simp [Nat.testBit_two_pow]
section PRM
variable {o oi : Nat → Nat} {N : Nat}
theorem spr_bit (h : Prm o oi N) {i v : Nat} (hv : v < N) : (spr o N i).testBit v = i.testBit (N - 1 - oi v) := by
  rw [Bool.eq_iff_iff]
  unfold spr
  rw [orN_bit]
  constructor
  · rintro ⟨k, hk, h2⟩
    unfold sprF at h2
    rw [ite_pow_bit] at h2
    simp only [Bool.and_eq_true, decide_eq_true_eq] at h2
    rw [← h2.2, (h.1 k hk).2]
    exact h2.1
  · intro h2
    refine ⟨oi v, (h.2 v hv).1, ?_⟩
    unfold sprF
    rw [ite_pow_bit, h2, (h.2 v hv).2]
    simp
theorem spr_bit_hi (h : Prm o oi N) {i v : Nat} (hv : N ≤ v) : (spr o N i).testBit v = false := by
  rw [Bool.eq_false_iff, ne_eq]
  unfold spr
  rw [orN_bit]
  rintro ⟨k, hk, h2⟩
  unfold sprF at h2
  rw [ite_pow_bit] at h2
  simp only [Bool.and_eq_true, decide_eq_true_eq] at h2
  have := (h.1 k hk).1
  omega
theorem spr_lt (h : Prm o oi N) (i : Nat) : spr o N i < 2 ^ N := Nat.lt_pow_two_of_testBit _ fun q hq => spr_bit_hi h hq
theorem pos_bit {x k : Nat} (hk : k < N) : (pos o N x).testBit (N - 1 - k) = x.testBit (o k) := by
  rw [Bool.eq_iff_iff]
  unfold pos
  rw [orN_bit]
  constructor
  · rintro ⟨k', hk', h2⟩
    unfold posF at h2
    rw [ite_pow_bit] at h2
    simp only [Bool.and_eq_true, decide_eq_true_eq] at h2
    rw [show k = k' by omega]
    exact h2.1
  · intro h2
    refine ⟨k, hk, ?_⟩
    unfold posF
    rw [ite_pow_bit, h2]
    simp
theorem pos_bit' {x p : Nat} (hp : p < N) : (pos o N x).testBit p = x.testBit (o (N - 1 - p)) := by
  have := pos_bit (o := o) (N := N) (x := x) (k := N - 1 - p) (by omega)
  rw [show N - 1 - (N - 1 - p) = p by omega] at this
  exact this
theorem pos_bit_hi {x q : Nat} (hq : N ≤ q) : (pos o N x).testBit q = false := by
  rw [Bool.eq_false_iff, ne_eq]
  unfold pos
  rw [orN_bit]
  rintro ⟨k, hk, h2⟩
  unfold posF at h2
  rw [ite_pow_bit] at h2
  simp only [Bool.and_eq_true, decide_eq_true_eq] at h2
  omega
theorem pos_lt (x : Nat) : pos o N x < 2 ^ N := Nat.lt_pow_two_of_testBit _ fun q hq => pos_bit_hi hq
theorem bit_hi {x N q : Nat} (h : x < 2 ^ N) (hq : N ≤ q) : x.testBit q = false := Nat.testBit_lt_two_pow (Nat.lt_of_lt_of_le h (Nat.pow_le_pow_right (by omega) hq))
theorem spr_pos (h : Prm o oi N) {x : Nat} (hx : x < 2 ^ N) : spr o N (pos o N x) = x := by
  apply Nat.eq_of_testBit_eq
  intro q
  by_cases hq : q < N
  · rw [spr_bit h hq, pos_bit (h.2 q hq).1, (h.2 q hq).2]
  · rw [spr_bit_hi h (by omega), bit_hi hx (by omega)]
theorem pos_spr (h : Prm o oi N) {i : Nat} (hi : i < 2 ^ N) : pos o N (spr o N i) = i := by
  apply Nat.eq_of_testBit_eq
  intro q
  by_cases hq : q < N
  · rw [pos_bit' hq, spr_bit h (h.1 _ (by omega)).1, (h.1 _ (by omega)).2, show N - 1 - (N - 1 - q) = q by omega]
  · rw [pos_bit_hi (by omega), bit_hi hi (by omega)]
theorem spr_inj (h : Prm o oi N) {i j : Nat} (hi : i < 2 ^ N) (hj : j < 2 ^ N) (e : spr o N i = spr o N j) : i = j := by
  rw [← pos_spr h hi, ← pos_spr h hj, e]
theorem pos_inj (h : Prm o oi N) {x y : Nat} (hi : x < 2 ^ N) (hj : y < 2 ^ N) (e : pos o N x = pos o N y) : x = y := by
  rw [← spr_pos h hi, ← spr_pos h hj, e]
/-- to fix a letter -/
theorem spr_sbt (h : Prm o oi N) {i v : Nat} {b : Bool} (hv : v < N) : spr o N (sbt i (N - 1 - oi v) b) = sbt (spr o N i) v b := by
  have ho := (h.2 v hv).1
  apply Nat.eq_of_testBit_eq
  intro q
  rw [testBit_sbt]
  by_cases hq : q < N
  · rw [spr_bit h hq, testBit_sbt, spr_bit h hq]
    by_cases e : q = v
    · subst e
      rw [if_pos rfl, if_pos rfl]
    · have h1 := (h.2 q hq)
      have h2 := (h.2 v hv)
      rw [if_neg e, if_neg (fun e2 => e (by rw [← h1.2, ← h2.2, show oi q = oi v by omega]))]
  · rw [spr_bit_hi h (by omega), if_neg (by omega), spr_bit_hi h (by omega)]
theorem pos_sbt (h : Prm o oi N) {x v : Nat} {b : Bool} (hv : v < N) (hx : x < 2 ^ N) : pos o N (sbt x v b) = sbt (pos o N x) (N - 1 - oi v) b := by
  have ho := (h.2 v hv).1
  have := spr_sbt h (i := pos o N x) (b := b) hv
  rw [spr_pos h hx] at this
  rw [← this, pos_spr h (sbt_lt (pos_lt x) (by omega))]
theorem spr_swb (h : Prm o oi N) {i u v : Nat} (hu : u < N) (hv : v < N) : spr o N (swb i (N - 1 - oi u) (N - 1 - oi v)) = swb (spr o N i) u v := by
  unfold swb
  rw [spr_sbt h hv, spr_sbt h hu, spr_bit h hv, spr_bit h hu]
/-- two levels change -/
def osw (o : Nat → Nat) (k : Nat) : Nat → Nat := fun j => if j = k then o (k + 1) else if j = k + 1 then o k else o j
def oisw (oi : Nat → Nat) (k : Nat) : Nat → Nat := fun v => if oi v = k then k + 1 else if oi v = k + 1 then k else oi v
theorem Prm.sw (h : Prm o oi N) {k : Nat} (hk : k + 1 < N) : Prm (osw o k) (oisw oi k) N := by
  refine ⟨fun j hj => ?_, fun v hv => ?_⟩
  · unfold osw oisw
    by_cases c1 : j = k
    · rw [if_pos c1, (h.1 (k + 1) hk).2, if_neg (by omega), if_pos rfl]
      exact ⟨(h.1 (k + 1) hk).1, c1.symm⟩
    · rw [if_neg c1]
      by_cases c2 : j = k + 1
      · rw [if_pos c2, (h.1 k (by omega)).2, if_pos rfl]
        exact ⟨(h.1 k (by omega)).1, c2.symm⟩
      · rw [if_neg c2, (h.1 j hj).2, if_neg c1, if_neg c2]
        exact ⟨(h.1 j hj).1, rfl⟩
  · obtain ⟨h1, h2⟩ := h.2 v hv
    unfold osw oisw
    by_cases c1 : oi v = k
    · rw [if_pos c1, if_neg (by omega), if_pos rfl]
      exact ⟨hk, by rw [← c1, h2]⟩
    · rw [if_neg c1]
      by_cases c2 : oi v = k + 1
      · rw [if_pos c2, if_pos rfl]
        exact ⟨by omega, by rw [← c2, h2]⟩
      · rw [if_neg c2, if_neg c1, if_neg c2]
        exact ⟨h1, h2⟩
theorem spr_osw (h : Prm o oi N) {i k : Nat} (hk : k + 1 < N) : spr (osw o k) N i = spr o N (swb i (N - 1 - k) (N - 1 - (k + 1))) := by
  apply Nat.eq_of_testBit_eq
  intro q
  by_cases hq : q < N
  · obtain ⟨h1, h2⟩ := h.2 q hq
    rw [spr_bit (h.sw hk) hq, spr_bit h hq, testBit_swb]
    unfold oisw
    by_cases c1 : oi q = k
    · rw [if_pos c1, if_neg (by omega), if_pos (by omega)]
    · rw [if_neg c1]
      by_cases c2 : oi q = k + 1
      · rw [if_pos c2, if_pos (by omega)]
      · rw [if_neg c2, if_neg (by omega), if_neg (by omega)]
  · rw [spr_bit_hi (h.sw hk) (by omega), spr_bit_hi h (by omega)]
theorem osw_osw (o : Nat → Nat) (k : Nat) : osw (osw o k) k = o := by
  funext j
  unfold osw
  by_cases c1 : j = k
  · rw [if_pos c1, if_neg (by omega), if_pos rfl, c1]
  · rw [if_neg c1]
    by_cases c2 : j = k + 1
    · rw [if_pos c2, if_pos rfl, c2]
    · rw [if_neg c2, if_neg c1, if_neg c2]
theorem Prm.id (N : Nat) : Prm (fun k => k) (fun k => k) N := ⟨fun _ h => ⟨h, rfl⟩, fun _ h => ⟨h, rfl⟩⟩
end PRM

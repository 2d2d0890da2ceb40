/-! the nearest, prefix by prefix -/
def exA (A : Nat → Bool) (s m : Nat) : Bool := (List.range m).any (fun q => A (s + q))
theorem exA_iff {A : Nat → Bool} {s m : Nat} : exA A s m = true ↔ ∃ q, q < m ∧ A (s + q) = true := by
  unfold exA
  rw [List.any_eq_true]
  constructor
  · rintro ⟨q, h1, h2⟩
    exact ⟨q, List.mem_range.mp h1, h2⟩
  · rintro ⟨q, h1, h2⟩
    exact ⟨q, List.mem_range.mpr h1, h2⟩
theorem exA_split {A : Nat → Bool} {s m : Nat} : exA A s (m + m) = (exA A s m || exA A (s + m) m) := by
  rw [Bool.eq_iff_iff, Bool.or_eq_true, exA_iff, exA_iff, exA_iff]
  constructor
  · rintro ⟨q, h1, h2⟩
    rcases Nat.lt_or_ge q m with h | h
    · exact Or.inl ⟨q, h, h2⟩
    · exact Or.inr ⟨q - m, by omega, by rw [show s + m + (q - m) = s + q by omega]; exact h2⟩
  · rintro (⟨q, h1, h2⟩ | ⟨q, h1, h2⟩)
    · exact ⟨q, by omega, h2⟩
    · exact ⟨m + q, by omega, by rw [← Nat.add_assoc]; exact h2⟩
theorem exA_congr {A A' : Nat → Bool} {s m : Nat} (h : ∀ q, q < m → A (s + q) = A' (s + q)) : exA A s m = exA A' s m := by
  rw [Bool.eq_iff_iff, exA_iff, exA_iff]
  constructor <;> rintro ⟨q, h1, h2⟩
  · exact ⟨q, h1, by rw [← h q h1]; exact h2⟩
  · exact ⟨q, h1, by rw [h q h1]; exact h2⟩
def flp (x : Nat) : Nat := if x % 2 = 0 then x + 1 else x - 1
theorem xor_1 (x : Nat) : x ^^^ 1 = flp x := by
  unfold flp
  apply Nat.eq_of_testBit_eq
  intro q
  rw [Nat.testBit_xor]
  cases q with
  | zero =>
    by_cases h : x % 2 = 0
    · rw [if_pos h]
      simp only [Nat.testBit_zero]
      rw [show (x + 1) % 2 = 1 by omega, h]
      rfl
    · rw [if_neg h]
      simp only [Nat.testBit_zero]
      rw [show (x - 1) % 2 = 0 by omega, show x % 2 = 1 by omega]
      rfl
  | succ q =>
    rw [Nat.testBit_succ, Nat.testBit_succ, Nat.testBit_succ]
    by_cases h : x % 2 = 0
    · rw [if_pos h, show (x + 1) / 2 = x / 2 by omega]
      simp
    · rw [if_neg h, show (x - 1) / 2 = x / 2 by omega]
      simp
def npr (A : Nat → Bool) (N : Nat) : Nat → Nat → Nat
  | 0, _ => 0
  | k + 1, p => if exA A ((2 * npr A N k (p / 2) + p % 2) * 2 ^ (N - 1 - k)) (2 ^ (N - 1 - k)) then 2 * npr A N k (p / 2) + p % 2 else flp (2 * npr A N k (p / 2) + p % 2)
theorem npr_lt {A : Nat → Bool} {N : Nat} : ∀ k p, npr A N k p < 2 ^ k
  | 0, _ => Nat.zero_lt_one
  | k + 1, p => by
    have := npr_lt (A := A) (N := N) k (p / 2)
    show (if exA A ((2 * npr A N k (p / 2) + p % 2) * 2 ^ (N - 1 - k)) (2 ^ (N - 1 - k)) then 2 * npr A N k (p / 2) + p % 2 else flp (2 * npr A N k (p / 2) + p % 2)) < 2 ^ (k + 1)
    rw [Nat.pow_succ]
    split
    · omega
    · unfold flp
      split <;> omega
theorem npr_congr {A A' : Nat → Bool} {N : Nat} (h : ∀ i, i < 2 ^ N → A i = A' i) : ∀ k p, k ≤ N → npr A N k p = npr A' N k p
  | 0, _, _ => rfl
  | k + 1, p, hk => by
    have ih := npr_congr h k (p / 2) (by omega)
    show (if exA A ((2 * npr A N k (p / 2) + p % 2) * 2 ^ (N - 1 - k)) (2 ^ (N - 1 - k)) then 2 * npr A N k (p / 2) + p % 2 else flp (2 * npr A N k (p / 2) + p % 2)) = (if exA A' ((2 * npr A' N k (p / 2) + p % 2) * 2 ^ (N - 1 - k)) (2 ^ (N - 1 - k)) then 2 * npr A' N k (p / 2) + p % 2 else flp (2 * npr A' N k (p / 2) + p % 2))
    rw [ih, exA_congr (A' := A')]
    intro q hq
    apply h
    have h1 := npr_lt (A := A') (N := N) k (p / 2)
    have h2 : (2 * npr A' N k (p / 2) + p % 2 + 1) * 2 ^ (N - 1 - k) ≤ 2 ^ (k + 1) * 2 ^ (N - 1 - k) := Nat.mul_le_mul_right _ (by rw [Nat.pow_succ]; omega)
    rw [Nat.add_mul, Nat.one_mul, ← Nat.pow_add, show k + 1 + (N - 1 - k) = N by omega] at h2
    omega
theorem pre_of (e : Nat) (h : 1 ≤ e) : ∃ k p, e = 2 ^ k + p ∧ p < 2 ^ k := by
  refine ⟨e.log2, e - 2 ^ e.log2, ?_, ?_⟩
  · have := Nat.log2_self_le (n := e) (by omega)
    omega
  · have := Nat.log2_self_le (n := e) (by omega)
    have h2 := Nat.lt_log2_self (n := e)
    rw [Nat.pow_succ] at h2
    omega
theorem bI_or (a b : Bool) : bI a ||| bI b = bI (a || b) := by cases a <;> cases b <;> decide
section CLS4
variable {g : Ev} {d : Nat} {σ : St} {K : Option Value → St → Prop} {N cap : Nat} {T : Nat → Nat → Bool} {o oi c : Nat → Nat} {P : Nat → Bool}
theorem sp_isAll {j : Nat} {w : Int64} (hB : XB σ N cap o oi c) (hj : j < 32) (h1 : (∀ q, q < 2 ^ (N - 6) → sL σ (11 + j) q = w) → K (some (.int (nI 1))) σ) (h0 : ¬ (∀ q, q < 2 ^ (N - 6) → sL σ (11 + j) q = w) → K (some (.int (nI 0))) σ) : Runs g 0 45 (d + 1) M_X2_isAll [.ref (eA g 0), .int (nI j), .long w] σ K := by
  have hpw := pwN hB.1.1 hB.1.2
  refine E_X2_isAll g d _ _ σ K ?_
  have loop : ∀ q, q ≤ 2 ^ (N - 6) → (∀ q', q' < q → sL σ (11 + j) q' = w) → WP g 0 45 (d + 1) M_X2_isAll 3 [(0, .ref (eA g 0)), (1, .int (nI j)), (2, .long w), (4, .int (nI q))] [] σ K := by
    refine up_to (P := fun q => (∀ q', q' < q → sL σ (11 + j) q' = w) → WP g 0 45 (d + 1) M_X2_isAll 3 [(0, .ref (eA g 0)), (1, .int (nI j)), (2, .long w), (4, .int (nI q))] [] σ K) (2 ^ (N - 6)) ?_ ?_
    · intro hq
      refine R_X2_isAll_3 g d _ _ _ σ K ⟨fun _ => h1 hq, fun z => ?_⟩
      rw [hB.2.2.2.2.1] at z
      exact absurd (nI_le (Nat.le_refl _) (by omega)) z
    · intro q hq ih hall
      refine R_X2_isAll_3 g d _ _ _ σ K ⟨fun z => ?_, fun _ => ?_⟩
      · rw [hB.2.2.2.2.1] at z
        exact absurd ((nI_leI (by omega) (by omega)).mp z) (by omega)
      · rw [vp_iff (by omega), vp_iff (by omega), nI_clamp (by omega), nI_clamp (by omega), lenJ_t (by omega), cmp_0, nI_1']
        refine ⟨by omega, by omega, fun e => ih fun q' hq' => ?_, fun e => h0 fun hh => e (hh q hq)⟩
        rcases (show q' < q ∨ q' = q by omega) with hlt | rfl
        · exact hall q' hlt
        · exact e
  exact loop 0 (Nat.zero_le _) (fun q hq => absurd hq (Nat.not_lt_zero _))
theorem all_no {j : Nat} (hB : XB σ N cap o oi c) (hT : XT (sL σ) N T o) (hj : j < 32) : (∀ q, q < 2 ^ (N - 6) → sL σ (11 + j) q = 0) ↔ ∀ x, x < 2 ^ N → T j x = false := by
  have hpw := pwN hB.1.1 hB.1.2
  have hp := hB.2.2.2.2.2.2.2.1
  constructor
  · intro h x hx
    have hl := pos_lt (o := o) (N := N) x
    have := hT.1 j hj (pos o N x) (by omega)
    simp only at this
    rw [spr_pos hp hx] at this
    unfold tb at this
    rw [h _ (by omega), bt_0] at this
    simpa [hl] using this.symm
  · intro h q hq
    apply bt_ext
    intro b hb
    rw [tab_bit hT hj hq hb, h _ (spr_lt hp _), Bool.and_false, bt_0]
/-- findNearest: the row 5 holds the nearest of each prefix -/
theorem sp_findNearest {k1 : Nat} {A : Nat → Bool} (hB : XB σ N cap o oi c) (hk : lenJ k1 = 64) (hA : ∀ i, i < 2 ^ N → tb (sL σ k1) i = A i)
    (h : ∀ f4 f5, (∀ i, i < 2 ^ N → f5 (2 ^ N + i) = nI (2 ^ N + npr A N N i)) → K none (uIf (uIf σ 4 f4) 5 f5)) : Runs g 0 45 (d + 2) M_X2_findNearest [.ref (eA g 0), .ref (eA g k1), .ref (eA g 4), .ref (eA g 5)] σ K := by
  have hpw := pwN hB.1.1 hB.1.2
  have hN := hB.1
  refine E_X2_findNearest g (d + 1) _ _ _ σ K ?_
  rw [hB.2.2.1, jshl1 (by omega)]
  -- third stage
  have st3 : ∀ e, e ≤ 2 * 2 ^ N → ∀ f4 f5 : Nat → Int32, 2 ≤ e → (∀ k p, k ≤ N → p < 2 ^ k → f4 (2 ^ k + p) = bI (exA A (p * 2 ^ (N - k)) (2 ^ (N - k)))) → (∀ k p, k ≤ N → p < 2 ^ k → 2 ^ k + p < e → f5 (2 ^ k + p) = nI (2 ^ k + npr A N k p)) → WP g 0 45 (d + 2) M_X2_findNearest 89 [(2, .ref (eA g 4)), (3, .ref (eA g 5)), (4, .int (nI (2 ^ N))), (5, .int (nI e))] [] (uIf (uIf σ 4 f4) 5 f5) K := by
    refine up_to (P := fun e => ∀ f4 f5 : Nat → Int32, 2 ≤ e → (∀ k p, k ≤ N → p < 2 ^ k → f4 (2 ^ k + p) = bI (exA A (p * 2 ^ (N - k)) (2 ^ (N - k)))) → (∀ k p, k ≤ N → p < 2 ^ k → 2 ^ k + p < e → f5 (2 ^ k + p) = nI (2 ^ k + npr A N k p)) → WP g 0 45 (d + 2) M_X2_findNearest 89 [(2, .ref (eA g 4)), (3, .ref (eA g 5)), (4, .int (nI (2 ^ N))), (5, .int (nI e))] [] (uIf (uIf σ 4 f4) 5 f5) K) (2 * 2 ^ N) ?_ ?_
    · intro f4 f5 he h4 h5
      refine R_X2_findNearest_89 g (d + 1) _ _ _ _ _ K ⟨fun _ => h f4 f5 fun i hi => h5 N i (Nat.le_refl _) hi (by omega), fun q => ?_⟩
      rw [pk_mul] at q
      exact absurd (nI_le (Nat.le_refl _) (by omega)) q
    · intro e he ih f4 f5 he2 h4 h5
      obtain ⟨k, p, rfl, hp⟩ := pre_of e (by omega)
      have hkN : k ≤ N := by
        rcases Nat.lt_or_ge N k with q | q
        · have : 2 ^ (N + 1) ≤ 2 ^ k := Nat.pow_le_pow_right (by omega) q
          rw [Nat.pow_succ] at this
          omega
        · exact q
      obtain ⟨k, rfl⟩ : ∃ k', k = k' + 1 := ⟨k - 1, by
        rcases Nat.eq_zero_or_pos k with q | q
        · rw [q] at he2 hp
          omega
        · omega⟩
      have hps : 2 ^ (k + 1) = 2 * 2 ^ k := Nat.pow_succ'
      have hpk := Nat.two_pow_pos k
      have hpar : (2 ^ (k + 1) + p) / 2 ^ 1 = 2 ^ k + p / 2 := by omega
      have hpl := npr_lt (A := A) (N := N) k (p / 2)
      have hkN2 : 2 ^ (k + 1) ≤ 2 ^ N := Nat.pow_le_pow_right (by omega) hkN
      have h5p := h5 k (p / 2) (by omega) (by omega) (by omega)
      have hw : 2 * npr A N k (p / 2) + p % 2 < 2 ^ (k + 1) := by omega
      have h4w := h4 (k + 1) (2 * npr A N k (p / 2) + p % 2) hkN hw
      rw [show N - (k + 1) = N - 1 - k by omega] at h4w
      have hand : nI (2 ^ (k + 1) + p) &&& nI 1 = nI (p % 2) := by
        rw [nI_and, Nat.and_one_is_mod]
        congr 1
        omega
      refine R_X2_findNearest_89 g (d + 1) _ _ _ _ _ K ⟨fun q => ?_, fun _ => ?_⟩
      · rw [pk_mul] at q
        exact absurd ((nI_leI (by omega) (by omega)).mp q) (by omega)
      · rw [jshr_nI (by omega) (by omega), hpar, nI_clamp (by omega), sI_uIf, h5p, hand, pk_mul, nI_add, sI_uIfn (show (4 : Nat) ≠ 5 by decide), sI_uIf, show 2 * (2 ^ k + npr A N k (p / 2)) + p % 2 = 2 ^ (k + 1) + (2 * npr A N k (p / 2) + p % 2) by omega, nI_clamp (by omega), h4w, vp_iff (by omega), vp_iff (by omega), vp_iff (by omega), nI_clamp (by omega), bI_0, nI_1', uI_f, uI_f, sI_uIf, uIf_uIf, uIf_uIf, nI_xor, xor_1]
        have hstep : ∀ f5' : Nat → Int32, f5' = upd f5 (2 ^ (k + 1) + p) (nI (2 ^ (k + 1) + npr A N (k + 1) p)) → WP g 0 45 (d + 2) M_X2_findNearest 89 [(2, .ref (eA g 4)), (3, .ref (eA g 5)), (4, .int (nI (2 ^ N))), (5, .int (nI (2 ^ (k + 1) + p + 1)))] [] (uIf (uIf σ 4 f4) 5 f5') K := by
          intro f5' e5
          refine ih f4 f5' (by omega) h4 (fun k2 p2 hk2 hp2 hlt => ?_)
          rw [e5]
          by_cases e9 : 2 ^ k2 + p2 = 2 ^ (k + 1) + p
          · have hk9 : k2 = k + 1 := by
              rcases Nat.lt_trichotomy k2 (k + 1) with q | q | q
              · have : 2 ^ (k2 + 1) ≤ 2 ^ (k + 1) := Nat.pow_le_pow_right (by omega) q
                rw [Nat.pow_succ] at this
                omega
              · exact q
              · have : 2 ^ (k + 1 + 1) ≤ 2 ^ k2 := Nat.pow_le_pow_right (by omega) q
                rw [Nat.pow_succ] at this
                omega
            subst hk9
            rw [show p2 = p by omega, upd_eq]
          · rw [upd_ne e9]
            exact h5 k2 p2 hk2 hp2 (by omega)
        have hl4 : 2 ^ (k + 1) + (2 * npr A N k (p / 2) + p % 2) < lenI 4 := by show _ < 8192; omega
        refine ⟨⟨by decide, by show _ < 8192; omega⟩, ⟨by decide, hl4⟩, fun q => ⟨⟨by decide, by show _ < 8192; omega⟩, hstep _ ?_⟩, fun q => ⟨⟨by decide, by show _ < 8192; omega⟩, hstep _ ?_⟩⟩
        · congr 2
          show flp (2 ^ (k + 1) + (2 * npr A N k (p / 2) + p % 2)) = 2 ^ (k + 1) + (if exA A ((2 * npr A N k (p / 2) + p % 2) * 2 ^ (N - 1 - k)) (2 ^ (N - 1 - k)) then _ else _)
          rw [q]
          simp only [Bool.false_eq_true, if_false]
          unfold flp
          split <;> split <;> omega
        · congr 2
          show 2 ^ (k + 1) + (2 * npr A N k (p / 2) + p % 2) = 2 ^ (k + 1) + (if exA A ((2 * npr A N k (p / 2) + p % 2) * 2 ^ (N - 1 - k)) (2 ^ (N - 1 - k)) then _ else _)
          rw [if_pos (by simpa using q)]
  -- second stage
  have st2 : ∀ m, ∀ e, e = m → e < 2 ^ N → ∀ f4 : Nat → Int32, (∀ k p, k ≤ N → p < 2 ^ k → e < 2 ^ k + p → f4 (2 ^ k + p) = bI (exA A (p * 2 ^ (N - k)) (2 ^ (N - k)))) → WP g 0 45 (d + 2) M_X2_findNearest 51 [(2, .ref (eA g 4)), (3, .ref (eA g 5)), (4, .int (nI (2 ^ N))), (5, .int (nI e))] [] (uIf σ 4 f4) K := by
    intro m
    induction m with
    | zero =>
      rintro e rfl he f4 h4
      refine R_X2_findNearest_51 g (d + 1) _ _ _ _ _ K ⟨fun _ => ⟨⟨by decide, (vp_iff (by omega)).mpr (by decide)⟩, ?_⟩, fun q => absurd (nI_lt (by omega) (by omega)) q⟩
      rw [uI_f, nI_clamp (by omega)]
      refine st3 2 (by omega) f4 _ (Nat.le_refl _) (fun k p hk hp => h4 k p hk hp (by have := Nat.two_pow_pos k; omega)) (fun k p hk hp hlt => ?_)
      have hk0 : k = 0 := by
        rcases Nat.eq_zero_or_pos k with q | q
        · exact q
        · have : 2 ^ 1 ≤ 2 ^ k := Nat.pow_le_pow_right (by omega) q
          omega
      subst hk0
      rw [show p = 0 by omega, show 2 ^ 0 + 0 = 1 from rfl, upd_eq]
      rfl
    | succ m ih =>
      rintro e rfl he f4 h4
      refine R_X2_findNearest_51 g (d + 1) _ _ _ _ _ K ⟨fun q => absurd ((nI_ltI (by omega) (by omega)).mp q) (by omega), fun _ => ?_⟩
      rw [pk_mul, nI_1', sI_uIf, nI_clamp (by omega), nI_clamp (by omega), nI_clamp (by omega), vp_iff (by omega), vp_iff (by omega), vp_iff (by omega), pk_m1, uI_f, uIf_uIf, sI_uIf]
      refine ⟨⟨by decide, by show _ < 8192; omega⟩, ⟨by decide, by show _ < 8192; omega⟩, ⟨by decide, by show _ < 8192; omega⟩, ih m rfl (by omega) _ (fun k p hk hp hlt => ?_)⟩
      by_cases e9 : 2 ^ k + p = m + 1
      · have hkN : k < N := by
          rcases Nat.lt_or_ge k N with q | q
          · exact q
          · have : 2 ^ N ≤ 2 ^ k := Nat.pow_le_pow_right (by omega) q
            omega
        have hps : 2 ^ (k + 1) = 2 * 2 ^ k := Nat.pow_succ'
        have a1 := h4 (k + 1) (2 * p) hkN (by omega) (by omega)
        have a2 := h4 (k + 1) (2 * p + 1) hkN (by omega) (by omega)
        rw [e9, upd_eq, show 2 * (m + 1) = 2 ^ (k + 1) + 2 * p by omega, Nat.add_assoc, a1, a2, bI_or]
        congr 1
        have hpow : 2 ^ (N - k) = 2 ^ (N - (k + 1)) + 2 ^ (N - (k + 1)) := by
          rw [show N - k = N - (k + 1) + 1 by omega, Nat.pow_succ]
          omega
        rw [hpow, exA_split]
        have m1 : 2 * p * 2 ^ (N - (k + 1)) = p * (2 ^ (N - (k + 1)) + 2 ^ (N - (k + 1))) := by rw [Nat.mul_add, Nat.mul_assoc]; omega
        rw [Nat.add_mul, Nat.one_mul, m1]
      · rw [upd_ne e9]
        exact h4 k p hk hp (by omega)
  -- first stage
  have st1 : ∀ i, i ≤ 2 ^ N → ∀ f4 : Nat → Int32, (∀ q, q < i → f4 (2 ^ N + q) = bI (A q)) → WP g 0 45 (d + 2) M_X2_findNearest 11 [(1, .ref (eA g k1)), (2, .ref (eA g 4)), (3, .ref (eA g 5)), (4, .int (nI (2 ^ N))), (5, .int (nI i))] [] (uIf σ 4 f4) K := by
    refine up_to (P := fun i => ∀ f4 : Nat → Int32, (∀ q, q < i → f4 (2 ^ N + q) = bI (A q)) → WP g 0 45 (d + 2) M_X2_findNearest 11 [(1, .ref (eA g k1)), (2, .ref (eA g 4)), (3, .ref (eA g 5)), (4, .int (nI (2 ^ N))), (5, .int (nI i))] [] (uIf σ 4 f4) K) (2 ^ N) ?_ ?_
    · intro f4 h4
      refine R_X2_findNearest_11 g (d + 1) _ _ _ _ _ _ K ⟨fun _ => ?_, fun q => absurd (nI_le (Nat.le_refl _) (by omega)) q⟩
      rw [pk_sub (by omega)]
      refine st2 (2 ^ N - 1) _ rfl (by omega) f4 (fun k p hk hp hlt => ?_)
      have hkN : k = N := by
        rcases Nat.lt_or_ge k N with q | q
        · have : 2 ^ (k + 1) ≤ 2 ^ N := Nat.pow_le_pow_right (by omega) q
          rw [Nat.pow_succ] at this
          omega
        · omega
      subst hkN
      rw [h4 p hp]
      congr 1
      rw [Nat.sub_self, Nat.pow_zero, Nat.mul_one]
      unfold exA
      simp
    · intro i hi ih f4 h4
      refine R_X2_findNearest_11 g (d + 1) _ _ _ _ _ _ K ⟨fun q => absurd ((nI_leI (by omega) (by omega)).mp q) (by omega), fun _ => sp_has hk (by omega) ⟨_, rfl, ?_⟩⟩
      rw [sL_uIf, hA i hi, bI_0, nI_add, nI_clamp (by omega), vp_iff (by omega), nI_1', uI_f, uI_f, uIf_uIf, uIf_uIf, sI_uIf]
      have hstep : ∀ v : Int32, v = bI (A i) → WP g 0 45 (d + 2) M_X2_findNearest 11 [(1, .ref (eA g k1)), (2, .ref (eA g 4)), (3, .ref (eA g 5)), (4, .int (nI (2 ^ N))), (5, .int (nI (i + 1)))] [] (uIf σ 4 (upd f4 (2 ^ N + i) v)) K := by
        intro v hv
        refine ih _ fun q hq => ?_
        by_cases e9 : q = i
        · rw [e9, upd_eq, hv]
        · rw [upd_ne (by omega)]
          exact h4 q (by omega)
      refine ⟨fun q => ⟨⟨by decide, by show _ < 8192; omega⟩, hstep _ ?_⟩, fun q => ⟨⟨by decide, by show _ < 8192; omega⟩, hstep _ ?_⟩⟩
      · rw [q]; rfl
      · rw [show A i = true by simpa using q]; rfl
  have := st1 0 (Nat.zero_le _) (sI σ 4) (fun q hq => absurd hq (Nat.not_lt_zero _))
  rw [uIf_self] at this
  exact this
theorem InvX.scr {k : Nat} {f : Nat → Int32} (hk : k = 4 ∨ k = 5) (h : InvX σ N cap T o oi c P) : InvX (uIf σ k f) N cap T o oi c P := by
  refine ⟨h.1.fr (fun _ _ => rfl) rfl h.1.2.2.2.2.2.2.1 (sI_uIfn (by omega)) (sI_uIfn (by omega)), h.2.1, ?_⟩
  obtain ⟨pt, ps, pl, q⟩ := h.2.2
  exact ⟨pt, ps, pl, q⟩
theorem X_near {x1 x2 x3 : Int32} (hI : InvX σ N cap T o oi c P) (hbad : ¬ (isR x1 ∧ isR x2 ∧ isR x3) → K (some (.int (-2))) σ)
    (hno : ∀ j a e, j < 32 → a < 32 → e < 32 → x1 = nI j → x2 = nI a → x3 = nI e → (∀ x, x < 2 ^ N → T e x = false) → K (some (.int (-3))) σ)
    (hok : ∀ j a e, j < 32 → a < 32 → e < 32 → x1 = nI j → x2 = nI a → x3 = nI e → ¬ (∀ x, x < 2 ^ N → T e x = false) → KP N cap T o oi c P j (fun x => T a (spr o N (npr (fun i => T e (spr o N i)) N N (pos o N x)))) K) : Runs g 0 45 (d + 7) M_X2_near [.ref (eA g 0), .int x1, .int x2, .int x3] σ K := by
  obtain ⟨hB, hT, hP⟩ := id hI
  have hpw := pwN hB.1.1 hB.1.2
  have hN := hB.1
  have hp := hB.2.2.2.2.2.2.2.1
  refine E_X2_near g (d + 6) _ _ _ σ K (sp_isReg (d := d + 5) (fun j hj e1 => ⟨_, rfl, fun q => absurd q n10, fun _ => ?_⟩) (fun hn => ⟨_, rfl, fun _ => hbad (fun q => hn q.1), fun q => absurd rfl q⟩))
  refine sp_isReg (d := d + 5) (fun a ha e2 => ⟨_, rfl, fun q => absurd q n10, fun _ => ?_⟩) (fun hn => ⟨_, rfl, fun _ => hbad (fun q => hn q.2.1), fun q => absurd rfl q⟩)
  refine sp_isReg (d := d + 5) (fun e he e3 => ⟨_, rfl, fun _ => ?_, fun q => absurd q n10⟩) (fun hn => ⟨_, rfl, fun q => absurd rfl q, fun _ => hbad (fun q => hn q.2.2)⟩)
  subst e1 e2 e3
  refine sp_isAll (d := d + 5) hB he (fun hall => ⟨_, rfl, fun q => absurd q n10, fun _ => hno j a e hj ha he rfl rfl rfl ((all_no hB hT he).mp hall)⟩) (fun hall => ⟨_, rfl, fun _ => ?_, fun q => absurd rfl q⟩)
  have hK := hok j a e hj ha he rfl rfl rfl (fun q => hall ((all_no hB hT he).mpr q))
  rw [vp_iff (by omega), nI_clamp (by omega)]
  refine ⟨by omega, sp_findNearest (d := d + 4) (A := fun i => T e (spr o N i)) hB (lenJ_t (by omega)) (fun i hi => ?_) (fun f4 f5 h5 => ⟨rfl, vp32, ?_⟩)⟩
  · rw [hT.1 e he i (by omega)]
    simp [hi]
  have hI2 : InvX (uIf (uIf σ 4 f4) 5 f5) N cap T o oi c P := (hI.scr (Or.inl rfl)).scr (Or.inr rfl)
  have eV : ∀ k, sV (uIf (uIf σ 4 f4) 5 f5) k = sV σ k := fun _ => rfl
  rw [cy43, eV, eV, hB.2.2.2.2.1, hB.2.2.1, jshl1 (by omega)]
  refine sp_fillLr (d := d + 4) rfl (by omega) (fun f hf _ => ⟨rfl, ?_⟩)
  generalize hσ2 : uIf (uIf σ 4 f4) 5 f5 = σ2 at *
  have hT2 := hI2.2.1
  have e5 : sI σ2 5 = f5 := by rw [← hσ2]; exact sI_uIf
  have loop : ∀ i, i ≤ 2 ^ N → ∀ f, (∀ q, q < 64 * 2 ^ (N - 6) → tb f q = (decide (q < i) && T a (spr o N (npr (fun i => T e (spr o N i)) N N q)))) → WP g 0 45 (d + 7) M_X2_near 85 [(0, .ref (eA g 0)), (1, .int (nI j)), (2, .int (nI a)), (4, .int (nI (2 ^ N))), (5, .ref (eA g 43)), (6, .int (nI i))] [] (uLf σ2 43 f) K := by
    refine up_to (P := fun i => ∀ f, (∀ q, q < 64 * 2 ^ (N - 6) → tb f q = (decide (q < i) && T a (spr o N (npr (fun i => T e (spr o N i)) N N q)))) → WP g 0 45 (d + 7) M_X2_near 85 [(0, .ref (eA g 0)), (1, .int (nI j)), (2, .int (nI a)), (4, .int (nI (2 ^ N))), (5, .ref (eA g 43)), (6, .int (nI i))] [] (uLf σ2 43 f) K) (2 ^ N) ?_ ?_
    · intro f hf
      refine R_X2_near_85 g (d + 6) _ _ _ _ _ _ K ⟨fun _ => sp_keepP hI2 hj f (fun q hq z hz => ?_) hK, fun q => absurd (nI_le (Nat.le_refl _) (by omega)) q⟩
      rw [← tb_at _ hz, hf _ (by omega)]
      by_cases hlt : 64 * q + z < 2 ^ N
      · rw [pos_spr hp hlt]
      · simp [hlt]
    · intro i hi ih f hf
      have hnl := npr_lt (A := fun i => T e (spr o N i)) (N := N) N i
      refine R_X2_near_85 g (d + 6) _ _ _ _ _ _ K ⟨fun q => absurd ((nI_leI (by omega) (by omega)).mp q) (by omega), fun _ => ?_⟩
      rw [vp_iff (by omega), nI_clamp (by omega), nI_add, vp_iff (by omega), nI_clamp (by omega), sI_uLf, e5, h5 i hi, pk_sub (by omega), show 2 ^ N + npr (fun i => T e (spr o N i)) N N i - 2 ^ N = npr (fun i => T e (spr o N i)) N N i by omega, nI_1']
      refine ⟨by omega, by show _ < 8192; omega, sp_has (d := d + 5) (lenJ_t (by omega)) (by omega) ⟨_, rfl, ?_⟩⟩
      rw [sL_uLfn (by omega), hT2.1 a ha _ (by omega), bI_0]
      refine ⟨fun q => ih f fun z hz => ?_, fun q => sp_mark (d := d + 5) rfl (by omega) (fun f2 hf2 => ⟨rfl, ?_⟩)⟩
      · rw [hf z hz]
        by_cases e9 : z = i
        · subst e9
          simp only [hnl, decide_true, Bool.true_and] at q
          rw [q]
          simp
        · have : decide (z < i) = decide (z < i + 1) := by rw [decide_eq_decide]; omega
          rw [this]
      · rw [uLf_uLf]
        refine ih f2 fun z hz => ?_
        rw [hf2 z, sL_uLf, hf z hz]
        by_cases e9 : z = i
        · subst e9
          simp only [hnl, decide_true, Bool.true_and] at q
          rw [show T a (spr o N (npr (fun i => T e (spr o N i)) N N z)) = true by simpa using q]
          simp
        · have : decide (z < i) = decide (z < i + 1) := by rw [decide_eq_decide]; omega
          rw [this]
          simp [e9]
  refine loop 0 (Nat.zero_le _) f (fun q hq => ?_)
  unfold tb
  rw [hf _ (by omega), bt_0]
  simp
end CLS4

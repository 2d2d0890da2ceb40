theorem uI_is {σ : St} {k i : Nat} {x : Int32} : uI σ k i x = (va_up σ.1 k (upd (sI σ k) i x), σ.2) := rfl
/-- an int array as a whole -/
def uIf (σ : St) (k : Nat) (f : Nat → Int32) : St := (va_up σ.1 k f, σ.2)
theorem uI_f {σ : St} {k i : Nat} {x : Int32} : uI σ k i x = uIf σ k (upd (sI σ k) i x) := rfl
theorem uIf_uIf {σ : St} {k : Nat} {f f' : Nat → Int32} : uIf (uIf σ k f) k f' = uIf σ k f' := by
  unfold uIf
  rw [bx_uu]
theorem uIf_self {σ : St} {k : Nat} : uIf σ k (sI σ k) = σ := by
  obtain ⟨a, c⟩ := σ
  unfold uIf sI
  congr 1
  funext j
  by_cases h : j = k
  · subst h; exact up_eq
  · exact up_ne h
theorem sI_uIf {σ : St} {k : Nat} {f : Nat → Int32} : sI (uIf σ k f) k = f := up_eq
theorem sI_uIfn {σ : St} {k k' : Nat} {f : Nat → Int32} (h : k' ≠ k) : sI (uIf σ k f) k' = sI σ k' := up_ne h
theorem sV_uIf {σ : St} {k : Nat} {f : Nat → Int32} : sV (uIf σ k f) = sV σ := rfl
theorem sL_uIf {σ : St} {k : Nat} {f : Nat → Int32} : sL (uIf σ k f) = sL σ := rfl
theorem sW_uIf {σ : St} {k : Nat} {f : Nat → Int32} : sW (uIf σ k f) = sW σ := rfl
theorem sR_uIf {σ : St} {k : Nat} {f : Nat → Int32} : sR (uIf σ k f) = sR σ := rfl
theorem align_lt {s e m n : Nat} (h : 2 ^ e ∣ s) (hs : s < 2 ^ n) (he : e ≤ n) : s + 2 ^ e ≤ 2 ^ n := by
  obtain ⟨a, rfl⟩ := h
  obtain ⟨k, rfl⟩ : ∃ k, n = e + k := ⟨n - e, by omega⟩
  rw [Nat.pow_add] at hs ⊢
  have h1 : a < 2 ^ k := Nat.lt_of_mul_lt_mul_left hs
  have h2 : 2 ^ e * (a + 1) ≤ 2 ^ e * 2 ^ k := Nat.mul_le_mul_left _ h1
  rw [Nat.mul_add, Nat.mul_one] at h2
  exact h2
theorem align_mod {s e : Nat} (h : 2 ^ e ∣ s) (he : e ≤ 6) : s % 64 + 2 ^ e ≤ 64 := by
  have hd : 2 ^ e ∣ s % 64 := by
    rw [Nat.dvd_mod_iff (show 2 ^ e ∣ 64 from (Nat.pow_dvd_pow 2 he : 2 ^ e ∣ 2 ^ 6))]
    exact h
  exact align_lt (m := 0) (n := 6) hd (Nat.mod_lt _ (by omega)) he
section BITS3
variable {g : Ev} {d : Nat} {σ : St} {K : Option Value → St → Prop}
theorem sp_joinedWord {a b : Int64} {t : Nat} (ht : t < 16) (h : ∀ w, (∀ i, i < 64 → bt w i = t.testBit ((if bt a i then 1 else 0) + (if bt b i then 2 else 0))) → K (some (.long w)) σ) : Runs g 0 45 (d + 1) M_X0_joinedWord [.long a, .long b, .int (nI t)] σ K := by
  have tb1 : ∀ r, (nI t &&& nI (2 ^ r) = nI 0) ↔ t.testBit r = false := fun r => and_bit (by omega)
  have c3 : ∀ w3 : Int64, (∀ i, i < 64 → bt w3 i = ((t.testBit 0 && (!bt a i && !bt b i)) || (t.testBit 1 && (bt a i && !bt b i)) || (t.testBit 2 && (!bt a i && bt b i)))) → WP g 0 45 (d + 1) M_X0_joinedWord 64 [(0, .long a), (2, .long b), (4, .int (nI t)), (5, .long w3)] [] σ K := by
    intro w3 h3
    refine R_X0_joinedWord_64 g d _ _ _ _ σ K ⟨fun c => ?_, fun c => ?_⟩
    · refine R_X0_joinedWord_80 g d _ σ K (h _ fun i hi => ?_)
      have c := (tb1 3).mp c
      rw [h3 i hi]
      cases bt a i <;> cases bt b i <;> simp [c]
    · refine R_X0_joinedWord_80 g d _ σ K (h _ fun i hi => ?_)
      have c : t.testBit 3 = true := by
        have := mt (tb1 3).mpr c
        simpa using this
      rw [bt_or, bt_and, h3 i hi]
      cases bt a i <;> cases bt b i <;> simp [c]
  have c2 : ∀ w2 : Int64, (∀ i, i < 64 → bt w2 i = ((t.testBit 0 && (!bt a i && !bt b i)) || (t.testBit 1 && (bt a i && !bt b i)))) → WP g 0 45 (d + 1) M_X0_joinedWord 45 [(0, .long a), (2, .long b), (4, .int (nI t)), (5, .long w2)] [] σ K := by
    intro w3 h3
    refine R_X0_joinedWord_45 g d _ _ _ _ σ K ⟨fun c => c3 _ fun i hi => ?_, fun c => c3 _ fun i hi => ?_⟩
    · have c := (tb1 2).mp c
      rw [h3 i hi, c]
      simp
    · have c : t.testBit 2 = true := by
        have := mt (tb1 2).mpr c
        simpa using this
      rw [bt_or, bt_and, bt_not hi, h3 i hi, c]
      simp
  have c1 : ∀ w1 : Int64, (∀ i, i < 64 → bt w1 i = (t.testBit 0 && (!bt a i && !bt b i))) → WP g 0 45 (d + 1) M_X0_joinedWord 26 [(0, .long a), (2, .long b), (4, .int (nI t)), (5, .long w1)] [] σ K := by
    intro w3 h3
    refine R_X0_joinedWord_26 g d _ _ _ _ σ K ⟨fun c => c2 _ fun i hi => ?_, fun c => c2 _ fun i hi => ?_⟩
    · have c := (tb1 1).mp c
      rw [h3 i hi, c]
      simp
    · have c : t.testBit 1 = true := by
        have := mt (tb1 1).mpr c
        simpa using this
      rw [bt_or, bt_and, bt_not hi, h3 i hi, c]
      simp
  refine E_X0_joinedWord g d _ _ _ σ K ⟨fun c => c1 _ fun i hi => ?_, fun c => c1 _ fun i hi => ?_⟩
  · have c := (tb1 0).mp c
    rw [bt_0, c]
    simp
  · have c : t.testBit 0 = true := by
      have := mt (tb1 0).mpr c
      simpa using this
    rw [bt_or, bt_0, bt_and, bt_not hi, bt_not hi, c]
    simp
theorem sp_mark {k i : Nat} (hk : lenJ k = 64) (hi : i < 4096) (h : ∀ f, (∀ j, tb f j = (decide (j = i) || tb (sL σ k) j)) → K none (uLf σ k f)) : Runs g 0 45 (d + 1) M_X0_mark [.ref (eA g k), .int (nI i)] σ K := by
  refine E_X0_mark g d _ _ σ K ?_
  rw [jshr_nI (by omega) (by omega), and63, hk, vp_iff (by omega), nI_clamp (by omega), uL_is]
  refine ⟨by omega, by omega, h _ fun j => ?_⟩
  obtain ⟨a, b, rfl, hb⟩ := split64 j
  rw [tb_at _ hb, tb_at _ hb]
  by_cases e : a = i / 2 ^ 6
  · subst e
    rw [updL_eq, bt_or, bt_shl (by omega), bt_1, Bool.or_comm]
    by_cases h1 : b = i % 64
    · have : 64 * (i / 2 ^ 6) + b = i := by omega
      simp [h1, this, show (i % 64 < 64) by omega]
      omega
    · have : ¬ 64 * (i / 2 ^ 6) + b = i := by omega
      simp [this]
      intro _ _ q
      omega
  · rw [updL_ne e]
    have : ¬ 64 * a + b = i := by omega
    simp [this]
theorem sp_alike {k0 k2 s0 s2 e : Nat} (hk0 : lenJ k0 = 64) (hk2 : lenJ k2 = 64) (he : e ≤ 12) (a0 : 2 ^ e ∣ s0) (a2 : 2 ^ e ∣ s2) (b0 : s0 < 4096) (b2 : s2 < 4096) (ht : (∀ j, j < 2 ^ e → tb (sL σ k0) (s0 + j) = tb (sL σ k2) (s2 + j)) → K (some (.int (nI 1))) σ) (hf : ¬ (∀ j, j < 2 ^ e → tb (sL σ k0) (s0 + j) = tb (sL σ k2) (s2 + j)) → K (some (.int (nI 0))) σ) : Runs g 0 45 (d + 2) M_X0_alike [.ref (eA g k0), .int (nI s0), .ref (eA g k2), .int (nI s2), .int (nI (2 ^ e))] σ K := by
  have h12 : 2 ^ e ≤ 4096 := (Nat.pow_le_pow_right (by omega) he : 2 ^ e ≤ 2 ^ 12)
  have l0 : s0 + 2 ^ e ≤ 4096 := align_lt (m := 0) (n := 12) a0 b0 he
  have l2 : s2 + 2 ^ e ≤ 4096 := align_lt (m := 0) (n := 12) a2 b2 he
  refine E_X0_alike g (d + 1) _ _ _ _ _ σ K ?_
  rw [nI_leI (by omega) (by omega)]
  refine ⟨fun c => ?_, fun c => ?_⟩
  · have h6 : 6 ≤ e := by
      rcases Nat.lt_or_ge e 6 with q | q
      · have : 2 ^ e < 2 ^ 6 := Nat.pow_lt_pow_right (by omega) q
        omega
      · exact q
    have d64 : 64 ∣ 2 ^ e := (Nat.pow_dvd_pow 2 h6 : 2 ^ 6 ∣ 2 ^ e)
    have m0 : s0 = 64 * (s0 / 64) := (Nat.mul_div_cancel' (Nat.dvd_trans d64 a0)).symm
    have m2 : s2 = 64 * (s2 / 64) := (Nat.mul_div_cancel' (Nat.dvd_trans d64 a2)).symm
    have me : 2 ^ e = 64 * (2 ^ e / 64) := (Nat.mul_div_cancel' d64).symm
    rw [jshr_nI (by omega) (by omega), jshr_nI (by omega) (by omega), jshr_nI (by omega) (by omega)]
    rw [show (2 : Nat) ^ 6 = 64 from rfl]
    generalize hA : s0 / 64 = A at *
    generalize hB : s2 / 64 = B at *
    generalize hC : 2 ^ e / 64 = C at *
    have loop : ∀ n, n ≤ C → (∀ j, j < n → sL σ k0 (A + j) = sL σ k2 (B + j)) → WP g 0 45 (d + 2) M_X0_alike 53 [(0, .ref (eA g k0)), (2, .ref (eA g k2)), (5, .int (nI A)), (6, .int (nI B)), (7, .int (nI C)), (8, .int (nI n))] [] σ K := by
      intro n hn
      refine up_to (P := fun n => (∀ j, j < n → sL σ k0 (A + j) = sL σ k2 (B + j)) → WP g 0 45 (d + 2) M_X0_alike 53 [(0, .ref (eA g k0)), (2, .ref (eA g k2)), (5, .int (nI A)), (6, .int (nI B)), (7, .int (nI C)), (8, .int (nI n))] [] σ K) C ?_ ?_ n hn
      · intro hq
        refine R_X0_alike_53 g (d + 1) _ _ _ _ _ _ σ K ⟨fun _ => ht fun j hj => ?_, fun c => absurd (nI_le (Nat.le_refl _) (by omega)) c⟩
        obtain ⟨a, b, rfl, hb⟩ := split64 j
        rw [m0, m2, show 64 * A + (64 * a + b) = 64 * (A + a) + b by omega, show 64 * B + (64 * a + b) = 64 * (B + a) + b by omega, tb_at _ hb, tb_at _ hb, hq a (by omega)]
      · intro n hn ih hq
        refine R_X0_alike_53 g (d + 1) _ _ _ _ _ _ σ K ⟨fun c => absurd ((nI_leI (by omega) (by omega)).mp c) (by omega), fun _ => ?_⟩
        rw [nI_add, nI_add, hk0, hk2, vp_iff (by omega), vp_iff (by omega), nI_clamp (by omega), nI_clamp (by omega), cmp_0, nI_1']
        refine ⟨by omega, by omega, fun q => ih fun j hj => ?_, fun q => hf fun hall => q (bt_ext fun b hb => ?_)⟩
        · rcases (show j < n ∨ j = n by omega) with h1 | rfl
          · exact hq j h1
          · exact q
        · have := hall (64 * n + b) (by omega)
          rw [m0, m2, show 64 * A + (64 * n + b) = 64 * (A + n) + b by omega, show 64 * B + (64 * n + b) = 64 * (B + n) + b by omega, tb_at _ hb, tb_at _ hb] at this
          exact this
    exact loop 0 (Nat.zero_le _) (fun j hj => absurd hj (Nat.not_lt_zero _))
  · have h6 : e ≤ 6 := by
      rcases Nat.lt_or_ge 6 e with q | q
      · have : 2 ^ 6 ≤ 2 ^ e := Nat.pow_le_pow_right (by omega) (by omega)
        omega
      · exact q
    have n0 := align_mod a0 h6
    have n2 := align_mod a2 h6
    refine sp_shortPart hk0 b0 (by omega) (fun w0 hw0 => ⟨w0, rfl, sp_shortPart hk2 b2 (by omega) (fun w2 hw2 => ⟨w2, rfl, ?_⟩)⟩)
    rw [cmp_0]
    have eq : w0 = w2 ↔ ∀ j, j < 2 ^ e → tb (sL σ k0) (s0 + j) = tb (sL σ k2) (s2 + j) := by
      have t0 : ∀ j, j < 2 ^ e → tb (sL σ k0) (s0 + j) = bt w0 j := fun j hj => by
        rw [hw0 j (by omega), show s0 + j = 64 * (s0 / 64) + (j + s0 % 64) by omega, tb_at _ (by omega)]
        simp [hj]
      have t2 : ∀ j, j < 2 ^ e → tb (sL σ k2) (s2 + j) = bt w2 j := fun j hj => by
        rw [hw2 j (by omega), show s2 + j = 64 * (s2 / 64) + (j + s2 % 64) by omega, tb_at _ (by omega)]
        simp [hj]
      constructor
      · rintro rfl j hj
        rw [t0 j hj, t2 j hj]
      · intro hall
        apply bt_ext
        intro b hb
        by_cases hbe : b < 2 ^ e
        · rw [← t0 b hbe, ← t2 b hbe, hall b hbe]
        · rw [hw0 b hb, hw2 b hb]
          simp [hbe]
    rw [eq]
    exact ⟨hf, ht⟩
theorem sp_hash {k s e : Nat} (hk : lenJ k = 64) (he : e ≤ 12) (a : 2 ^ e ∣ s) (b : s < 4096) (h : ∀ v, K (some (.int v)) σ) : Runs g 0 45 (d + 2) M_X0_hash [.ref (eA g k), .int (nI s), .int (nI (2 ^ e))] σ K := by
  have h12 : 2 ^ e ≤ 4096 := (Nat.pow_le_pow_right (by omega) he : 2 ^ e ≤ 2 ^ 12)
  have l0 : s + 2 ^ e ≤ 4096 := align_lt (m := 0) (n := 12) a b he
  refine E_X0_hash g (d + 1) _ _ _ σ K ?_
  rw [nI_leI (by omega) (by omega)]
  refine ⟨fun c => ?_, fun c => ?_⟩
  · rw [jshr_nI (by omega) (by omega), jshr_nI (by omega) (by omega)]
    have loop : ∀ n, n ≤ 2 ^ e / 2 ^ 6 → ∀ w, WP g 0 45 (d + 2) M_X0_hash 38 [(0, .ref (eA g k)), (3, .int (nI (s / 2 ^ 6))), (4, .int (nI (2 ^ e / 2 ^ 6))), (5, .long w), (7, .int (nI n))] [] σ K := by
      refine up_to (P := fun n => ∀ w, WP g 0 45 (d + 2) M_X0_hash 38 [(0, .ref (eA g k)), (3, .int (nI (s / 2 ^ 6))), (4, .int (nI (2 ^ e / 2 ^ 6))), (5, .long w), (7, .int (nI n))] [] σ K) (2 ^ e / 2 ^ 6) ?_ ?_
      · intro w
        exact R_X0_hash_38 g (d + 1) _ _ _ _ _ σ K ⟨fun _ => h _, fun c => absurd (nI_le (Nat.le_refl _) (by omega)) c⟩
      · intro n hn ih w
        refine R_X0_hash_38 g (d + 1) _ _ _ _ _ σ K ⟨fun c => absurd ((nI_leI (by omega) (by omega)).mp c) (by omega), fun _ => ?_⟩
        rw [nI_add, hk, vp_iff (by omega), nI_1']
        exact ⟨by omega, ih _⟩
    exact loop 0 (Nat.zero_le _) _
  · exact sp_shortPart hk b (by omega) (fun w _ => ⟨w, rfl, h _⟩)
theorem sp_range {a b c : Nat} (hc : c < 2 ^ 31) (h1 : a ≤ b) (h2 : b ≤ c) (h : K none σ) : Runs g 0 45 (d + 1) M_J7_rangeCheck_23922 [.int (nI c), .int (nI a), .int (nI b)] σ K := by
  refine E_J7_rangeCheck_23922 g d _ _ _ σ K ?_
  rw [nI_leI (by omega) (by omega), nI_leI (by omega) (by omega), nI_leI (by omega) (by omega)]
  exact ⟨fun _ => ⟨fun _ => ⟨fun _ => h, fun q => q h2⟩, fun q => q (Nat.zero_le _)⟩, fun q => q h1⟩
/-- fill(long[], x) -/
theorem sp_fillL {k : Nat} {x : Int64} (hk : lenJ k = 64) (h : ∀ f, (∀ j, j < 64 → f j = x) → K none (uLf σ k f)) : Runs g 0 45 (d + 1) M_J7_fill_d0a16 [.ref (eA g k), .long x] σ K := by
  refine E_J7_fill_d0a16 g d _ _ σ K ⟨by omega, ?_⟩
  rw [hk]
  have loop : ∀ n, n ≤ 64 → ∀ f, (∀ j, j < n → f j = x) → WP g 0 45 (d + 1) M_J7_fill_d0a16 6 [(0, .ref (eA g k)), (1, .long x), (3, .int (nI n)), (4, .int (nI 64))] [] (uLf σ k f) K := by
    refine up_to (P := fun n => ∀ f, (∀ j, j < n → f j = x) → WP g 0 45 (d + 1) M_J7_fill_d0a16 6 [(0, .ref (eA g k)), (1, .long x), (3, .int (nI n)), (4, .int (nI 64))] [] (uLf σ k f) K) 64 ?_ ?_
    · intro f hf
      exact R_J7_fill_d0a16_6 g d _ _ _ _ _ K ⟨fun _ => h f hf, fun c => absurd (nI_le (Nat.le_refl _) (by omega)) c⟩
    · intro n hn ih f hf
      refine R_J7_fill_d0a16_6 g d _ _ _ _ _ K ⟨fun c => absurd ((nI_leI (by omega) (by omega)).mp c) (by omega), fun _ => ?_⟩
      rw [hk, vp_iff (by omega), nI_1', nI_clamp (by omega), uL_is, uLf_uLf, sL_uLf]
      refine ⟨hn, ih _ fun j hj => ?_⟩
      by_cases e : j = n
      · subst e; exact updL_eq
      · rw [updL_ne e]; exact hf j (by omega)
  have := loop 0 (Nat.zero_le _) (sL σ k) (fun j hj => absurd hj (Nat.not_lt_zero _))
  rw [uLf_self] at this
  exact this
/-- fill(long[], 0, n, x) -/
theorem sp_fillLr {k n : Nat} {x : Int64} (hk : lenJ k = 64) (hn : n ≤ 64) (h : ∀ f, (∀ j, j < n → f j = x) → (∀ j, n ≤ j → f j = sL σ k j) → K none (uLf σ k f)) : Runs g 0 45 (d + 2) M_J7_fill_bad5a [.ref (eA g k), .int (nI 0), .int (nI n), .long x] σ K := by
  refine E_J7_fill_bad5a g (d + 1) _ _ _ _ σ K ⟨by omega, ?_⟩
  rw [hk]
  refine sp_range (by omega) (Nat.zero_le _) hn ⟨rfl, ?_⟩
  have loop : ∀ i, i ≤ n → ∀ f, (∀ j, j < i → f j = x) → (∀ j, n ≤ j → f j = sL σ k j) → WP g 0 45 (d + 2) M_J7_fill_bad5a 10 [(0, .ref (eA g k)), (2, .int (nI n)), (3, .long x), (5, .int (nI i))] [] (uLf σ k f) K := by
    refine up_to (P := fun i => ∀ f, (∀ j, j < i → f j = x) → (∀ j, n ≤ j → f j = sL σ k j) → WP g 0 45 (d + 2) M_J7_fill_bad5a 10 [(0, .ref (eA g k)), (2, .int (nI n)), (3, .long x), (5, .int (nI i))] [] (uLf σ k f) K) n ?_ ?_
    · intro f hf hf2
      exact R_J7_fill_bad5a_10 g (d + 1) _ _ _ _ _ K ⟨fun _ => h f hf hf2, fun c => absurd (nI_le (Nat.le_refl _) (by omega)) c⟩
    · intro i hi ih f hf hf2
      refine R_J7_fill_bad5a_10 g (d + 1) _ _ _ _ _ K ⟨fun c => absurd ((nI_leI (by omega) (by omega)).mp c) (by omega), fun _ => ?_⟩
      rw [hk, vp_iff (by omega), nI_1', nI_clamp (by omega), uL_is, uLf_uLf, sL_uLf]
      refine ⟨by omega, ih _ (fun j hj => ?_) (fun j hj => ?_)⟩
      · by_cases e : j = i
        · subst e; exact updL_eq
        · rw [updL_ne e]; exact hf j (by omega)
      · rw [updL_ne (by omega)]; exact hf2 j hj
  have := loop 0 (Nat.zero_le _) (sL σ k) (fun j hj => absurd hj (Nat.not_lt_zero _)) (fun _ _ => rfl)
  rw [uLf_self] at this
  exact this
/-- fill(int[], 0, n, x) -/
theorem sp_fillIr {k n : Nat} {x : Int32} (hk : k < 45) (hn0 : 0 < lenI k) (hL : lenI k ≤ 16384) (hn : n ≤ lenI k) (h : ∀ f, (∀ j, j < n → f j = x) → K none (uIf σ k f)) : Runs g 0 45 (d + 2) M_J7_fill_fda19 [.ref (eA g k), .int (nI 0), .int (nI n), .int x] σ K := by
  refine E_J7_fill_fda19 g (d + 1) _ _ _ _ σ K ⟨⟨hk, hn0⟩, ?_⟩
  refine sp_range (by omega) (Nat.zero_le _) hn ⟨rfl, ?_⟩
  have loop : ∀ i, i ≤ n → ∀ f, (∀ j, j < i → f j = x) → WP g 0 45 (d + 2) M_J7_fill_fda19 10 [(0, .ref (eA g k)), (2, .int (nI n)), (3, .int x), (4, .int (nI i))] [] (uIf σ k f) K := by
    refine up_to (P := fun i => ∀ f, (∀ j, j < i → f j = x) → WP g 0 45 (d + 2) M_J7_fill_fda19 10 [(0, .ref (eA g k)), (2, .int (nI n)), (3, .int x), (4, .int (nI i))] [] (uIf σ k f) K) n ?_ ?_
    · intro f hf
      exact R_J7_fill_fda19_10 g (d + 1) _ _ _ _ _ K ⟨fun _ => h f hf, fun c => absurd (nI_le (Nat.le_refl _) (by omega)) c⟩
    · intro i hi ih f hf
      refine R_J7_fill_fda19_10 g (d + 1) _ _ _ _ _ K ⟨fun c => absurd ((nI_leI (by omega) (by omega)).mp c) (by omega), fun _ => ?_⟩
      rw [vp_iff (by omega), nI_1', nI_clamp (by omega), uI_f, uIf_uIf, sI_uIf]
      refine ⟨⟨hk, by omega⟩, ih _ fun j hj => ?_⟩
      by_cases e : j = i
      · subst e; exact upd_eq
      · rw [upd_ne e]; exact hf j (by omega)
  have := loop 0 (Nat.zero_le _) (sI σ k) (fun j hj => absurd hj (Nat.not_lt_zero _))
  rw [uIf_self] at this
  exact this
end BITS3

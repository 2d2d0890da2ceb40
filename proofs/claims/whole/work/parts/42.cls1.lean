theorem cy43 : 11 + (nI 32).toNatClampNeg = 43 := by decide
section CLS1
variable {g : Ev} {d : Nat} {σ : St} {K : Option Value → St → Prop} {N cap : Nat} {T : Nat → Nat → Bool} {o oi c : Nat → Nat} {P : Nat → Bool}
theorem rng_cases {x : Int32} {n : Nat} (hn : n < 2 ^ 31) (h1 : ∀ j, j < n → x = nI j → K (some (.int (nI 1))) σ) (h0 : (¬ ∃ j, j < n ∧ x = nI j) → K (some (.int (nI 0))) σ) : ((x < nI 0 → K (some (.int (nI 0))) σ) ∧ (¬ x < nI 0 → ((nI n ≤ x → K (some (.int (nI 0))) σ) ∧ (¬ nI n ≤ x → K (some (.int (nI 1))) σ)))) := by
  rcases nI_cases x hn with ⟨j, hj, rfl⟩ | hx
  · refine ⟨fun q => absurd q (nI_pos (by omega)), fun _ => ⟨fun q => absurd ((nI_leI (by omega) (by omega)).mp q) (by omega), fun _ => h1 j hj rfl⟩⟩
  · have hn' : ¬ ∃ j, j < n ∧ x = nI j := fun ⟨j, hj, e⟩ => hx (by rw [e]; exact nI_rng hj hn)
    refine ⟨fun _ => h0 hn', fun q => ⟨fun _ => h0 hn', fun q2 => absurd ⟨Int32.not_lt.mp q, Int32.not_le.mp q2⟩ hx⟩⟩
theorem sp_isReg {x : Int32} (h1 : ∀ j, j < 32 → x = nI j → K (some (.int (nI 1))) σ) (h0 : (¬ ∃ j, j < 32 ∧ x = nI j) → K (some (.int (nI 0))) σ) : Runs g 0 45 (d + 1) M_X2_isRegister [.int x] σ K :=
  E_X2_isRegister g d _ σ K (rng_cases (by omega) h1 h0)
theorem sp_isLetter {x : Int32} (hB : XB σ N cap o oi c) (h1 : ∀ j, j < N → x = nI j → K (some (.int (nI 1))) σ) (h0 : (¬ ∃ j, j < N ∧ x = nI j) → K (some (.int (nI 0))) σ) : Runs g 0 45 (d + 1) M_X2_isLetter [.ref (eA g 0), .int x] σ K := by
  refine E_X2_isLetter g d _ σ K ?_
  rw [hB.2.2.1]
  exact rng_cases (by have := hB.1; omega) h1 h0
theorem sp_isLevel {x : Int32} (hB : XB σ N cap o oi c) (h1 : ∀ j, j < N → x = nI j → K (some (.int (nI 1))) σ) (h0 : (¬ ∃ j, j < N ∧ x = nI j) → K (some (.int (nI 0))) σ) : Runs g 0 45 (d + 1) M_X2_isLevel [.ref (eA g 0), .int x] σ K := by
  refine E_X2_isLevel g d _ σ K ?_
  rw [hB.2.2.1]
  exact rng_cases (by have := hB.1; omega) h1 h0
theorem sp_isAss {x : Int32} (hB : XB σ N cap o oi c) (h1 : ∀ j, j < 2 ^ N → x = nI j → K (some (.int (nI 1))) σ) (h0 : (¬ ∃ j, j < 2 ^ N ∧ x = nI j) → K (some (.int (nI 0))) σ) : Runs g 0 45 (d + 1) M_X2_isAssignment [.ref (eA g 0), .int x] σ K := by
  refine E_X2_isAssignment g d _ σ K ?_
  rw [hB.2.2.1, jshl1 (by have := hB.1; omega)]
  exact rng_cases (by have := pwN hB.1.1 hB.1.2; omega) h1 h0
theorem sp_levelOf {v : Nat} (hB : XB σ N cap o oi c) (hv : v < N) (h : K (some (.int (nI (oi v)))) σ) : Runs g 0 45 (d + 1) M_X2_levelOf [.ref (eA g 0), .int (nI v)] σ K := by
  obtain ⟨⟨n1, n2⟩, -, v0, -, -, -, -, hp, ho, -⟩ := hB
  obtain ⟨p1, p2⟩ := hp.2 v hv
  refine E_X2_levelOf g d _ σ K ?_
  have loop : ∀ k, k ≤ N → ∀ f, (oi v < k → f = oi v) → WP g 0 45 (d + 1) M_X2_levelOf 4 [(0, .ref (eA g 0)), (1, .int (nI v)), (2, .int (nI f)), (3, .int (nI k))] [] σ K := by
    refine up_to (P := fun k => ∀ f, (oi v < k → f = oi v) → WP g 0 45 (d + 1) M_X2_levelOf 4 [(0, .ref (eA g 0)), (1, .int (nI v)), (2, .int (nI f)), (3, .int (nI k))] [] σ K) N ?_ ?_
    · intro f hf
      refine R_X2_levelOf_4 g d _ _ _ σ K ⟨fun _ => ?_, fun q => ?_⟩
      · rw [hf p1]
        exact h
      · rw [v0] at q
        exact absurd (nI_le (Nat.le_refl _) (by omega)) q
    · intro k hk ih f hf
      refine R_X2_levelOf_4 g d _ _ _ σ K ⟨fun q => ?_, fun q => ?_⟩
      · rw [v0] at q
        exact absurd ((nI_leI (by omega) (by omega)).mp q) (by omega)
      · have hok := (hp.1 k hk)
        rw [vp_iff (by omega), nI_clamp (by omega), ho k hk, nI_eq (by omega) (by omega), nI_1']
        refine ⟨by show k < 12; omega, fun q => ih f fun hlt => hf ?_, fun q => ih k fun hlt => ?_⟩
        · have : oi v ≠ k := fun e => q (by rw [← e, p2])
          omega
        · rw [← q, hok.2]
  exact loop 0 (Nat.zero_le _) 0 (fun q => absurd q (Nat.not_lt_zero _))
theorem sp_placeAt {k : Nat} (hB : XB σ N cap o oi c) (hk : k < N) (h : K (some (.int (nI (N - 1 - k)))) σ) : Runs g 0 45 (d + 1) M_X2_placeAt [.ref (eA g 0), .int (nI k)] σ K := by
  refine E_X2_placeAt g d _ σ K ?_
  rw [hB.2.2.1, pk_sub (by omega), pk_sub (by omega)]
  exact h
theorem sp_placeOf {v : Nat} (hB : XB σ N cap o oi c) (hv : v < N) (h : K (some (.int (nI (N - 1 - oi v)))) σ) : Runs g 0 45 (d + 2) M_X2_placeOf [.ref (eA g 0), .int (nI v)] σ K :=
  E_X2_placeOf g (d + 1) _ σ K (sp_levelOf hB hv ⟨_, rfl, sp_placeAt hB (hB.2.2.2.2.2.2.2.1.2 v hv).1 ⟨_, rfl, h⟩⟩)
theorem bit_and1 {a s : Nat} (ha : a < 2 ^ 31) (hs : s < 32) : jshr (nI a) (nI s) &&& nI 1 = nI (a.testBit s).toNat := by
  rw [jshr_nI ha hs, nI_and]
  congr 1
  rw [Nat.and_one_is_mod, Nat.testBit_eq_decide_div_mod_eq]
  rcases Nat.mod_two_eq_zero_or_one (a / 2 ^ s) with h | h <;> simp [h]
theorem sp_bitOf {x : Nat} (hB : XB σ N cap o oi c) (hx : x < 2 ^ N) (h : K (some (.int (nI (pos o N x)))) σ) : Runs g 0 45 (d + 1) M_X2_bitOf [.ref (eA g 0), .int (nI x)] σ K := by
  have hpw := pwN hB.1.1 hB.1.2
  obtain ⟨⟨n1, n2⟩, -, v0, -, -, -, -, hp, ho, -⟩ := hB
  have hpl := pos_lt (o := o) (N := N) x
  refine E_X2_bitOf g d _ σ K ?_
  have loop : ∀ k, k ≤ N → WP g 0 45 (d + 1) M_X2_bitOf 4 [(0, .ref (eA g 0)), (1, .int (nI x)), (2, .int (nI (pos o N x / 2 ^ (N - k)))), (3, .int (nI k))] [] σ K := by
    refine up_to (P := fun k => WP g 0 45 (d + 1) M_X2_bitOf 4 [(0, .ref (eA g 0)), (1, .int (nI x)), (2, .int (nI (pos o N x / 2 ^ (N - k)))), (3, .int (nI k))] [] σ K) N ?_ ?_
    · refine R_X2_bitOf_4 g d _ _ _ σ K ⟨fun _ => ?_, fun q => ?_⟩
      · rw [Nat.sub_self, Nat.pow_zero, Nat.div_one]
        exact h
      · rw [v0] at q
        exact absurd (nI_le (Nat.le_refl _) (by omega)) q
    · intro k hk ih
      refine R_X2_bitOf_4 g d _ _ _ σ K ⟨fun q => ?_, fun q => ?_⟩
      · rw [v0] at q
        exact absurd ((nI_leI (by omega) (by omega)).mp q) (by omega)
      · have hok := (hp.1 k hk)
        rw [vp_iff (by omega), nI_clamp (by omega), ho k hk, bit_and1 (by omega) (by omega), pk_mul, nI_add, nI_1']
        refine ⟨by show k < 12; omega, ?_⟩
        have e : 2 * (pos o N x / 2 ^ (N - k)) + (x.testBit (o k)).toNat = pos o N x / 2 ^ (N - (k + 1)) := by
          rw [← pos_bit (o := o) (x := x) hk, Nat.testBit_eq_decide_div_mod_eq, show N - 1 - k = N - (k + 1) by omega, show N - k = N - (k + 1) + 1 by omega, Nat.pow_succ, ← Nat.div_div_eq_div_mul]
          rcases Nat.mod_two_eq_zero_or_one (pos o N x / 2 ^ (N - (k + 1))) with h | h <;> simp [h] <;> omega
        rw [e]
        exact ih
  have := loop 0 (Nat.zero_le _)
  rw [Nat.sub_zero, Nat.div_eq_of_lt hpl] at this
  exact this
theorem sp_pointAt {t : Nat} (h : K none (uV (uV (uV σ 3 (nI t)) 4 (nI 0)) 5 (nI 0))) : Runs g 0 45 (d + 1) M_X2_pointAt [.ref (eA g 0), .int (nI t)] σ K := E_X2_pointAt g d _ σ K h
theorem sp_rest (h : K none (uV (uV (uV σ 3 (nI 33)) 4 (nI 0)) 5 (nI 0))) : Runs g 0 45 (d + 2) M_X2_restPointer [.ref (eA g 0)] σ K := E_X2_restPointer g (d + 1) σ K (sp_pointAt ⟨rfl, h⟩)
theorem XB.pt {x : Int32} {y : Int32} {z : Int32} (h : XB σ N cap o oi c) : XB (uV (uV (uV σ 3 x) 4 y) 5 z) N cap o oi c := h.fr (fun k hk => by rw [sV_uVn (by omega), sV_uVn (by omega), sV_uVn (by omega)]) rfl h.2.2.2.2.2.2.1 rfl rfl
/-- behind restPointer -/
theorem InvX.rest (hB : XB σ N cap o oi c) (hT : XT (sL σ) N T o) : InvX (uV (uV (uV σ 3 (nI 33)) 4 (nI 0)) 5 (nI 0)) N cap T o oi c (fun _ => false) := by
  have hpw := pwN hB.1.1 hB.1.2
  refine ⟨hB.pt, hT, 33, 0, 0, ?_, ?_, ?_, Or.inr rfl, Nat.zero_le _, Nat.two_pow_pos _, Nat.dvd_zero _, fun x hx => ?_⟩
  · rw [sV_uVn (by decide), sV_uVn (by decide), sV_uV]
  · rw [sV_uVn (by decide), sV_uV]
  · rw [sV_uV]
  · have := pos_lt (o := o) (N := N) x
    rw [Nat.sub_zero, Nat.mod_eq_of_lt this]
    have e := hT.2 (0 + pos o N x) (by omega)
    rw [Bool.and_false] at e
    exact e.symm
theorem sp_copyToSpare {j : Nat} (hB : XB σ N cap o oi c) (hj : j < 32) (h : ∀ f, (∀ i, i < 64 * 2 ^ (N - 6) → tb f i = tb (sL σ (11 + j)) i) → K none (uLf σ 43 f)) : Runs g 0 45 (d + 1) M_X2_copyToSpare [.ref (eA g 0), .int (nI j)] σ K := by
  have hpw := pwN hB.1.1 hB.1.2
  refine E_X2_copyToSpare g d _ σ K ?_
  rw [hB.2.2.2.2.1, vp_iff (by omega), vp_iff (by omega), nI_clamp (by omega), nI_clamp (by omega), nI_clamp (by omega), nI_clamp (by omega), lenJ_t (by omega), lenJ_t (by omega)]
  refine ⟨by omega, by omega, ⟨by omega, by omega, by decide, by decide, nI_pos (by omega), by omega, by omega⟩, h _ fun i hi => ?_⟩
  obtain ⟨a, b, rfl, hb⟩ := split64 i
  rw [tb_at _ hb, tb_at _ hb, pk_cpy_in (by omega) (by omega)]
  congr 2
  omega
/-- behind a table's copy into register j -/
theorem XT.put {L : Nat → Nat → Int64} {j : Nat} {h : Nat → Bool} {f : Nat → Int64} (hj : j < 32) (hT : XT L N T o) (hf : ∀ i, i < 64 * 2 ^ (N - 6) → tb f i = (decide (i < 2 ^ N) && h (spr o N i))) : XT (va_up L (11 + j) f) N (va_up T j h) o := by
  refine ⟨fun r hr i hi => ?_, fun i hi => ?_⟩
  · by_cases e : r = j
    · subst e
      rw [up_eq, up_eq]
      exact hf i hi
    · rw [up_ne (by omega), up_ne e]
      exact hT.1 r hr i hi
  · rw [up_ne (by omega)]
    exact hT.2 i hi
theorem tabF_FT {L : Nat → Nat → Int64} {tt : Nat → Nat} {T' : Nat → Nat → Bool} {a b k w : Nat} (h1 : 1 ≤ N) (hN : N ≤ 12) (hk : k < N) (hT : ∀ r, a ≤ r → r < b → tabOK L N (tt r) (fun i => T' r (spr o N i))) (hw : Wid (tabF L tt) N a b k w) : Wid (FT T' o N) N a b k w := by
  have hpw := pwN h1 hN
  refine hw.congr hk (fun r i q1 q2 hi => ?_)
  have := hT r q1 q2 i (by omega)
  unfold tabF FT
  rw [this]
  simp [hi]
/-- keep: the spare table becomes register j's, if there is room -/
theorem sp_keep {j : Nat} {h : Nat → Bool} (hI : InvX σ N cap T o oi c P) (hj : j < 32) (hsp : tabOK (sL σ) N 32 (fun i => h (spr o N i)))
    (hA : ∀ σ', InvX σ' N cap (va_up T j h) o oi c (fun _ => false) → (∀ wk, (∀ k, k < N → Wid (FT (va_up T j h) o N) N 0 32 k (wk k)) → sumN wk N ≤ cap) → K (some (.int (nI 0))) σ')
    (hBd : ∀ σ', InvX σ' N cap T o oi c P → (∀ wk, (∀ k, k < N → Wid (FT (va_up T j h) o N) N 0 32 k (wk k)) → cap < sumN wk N) → K (some (.int (-8))) σ') :
    Runs g 0 45 (d + 6) M_X2_keep [.ref (eA g 0), .int (nI j)] σ K := by
  obtain ⟨hB, hT, hP⟩ := id hI
  have hpw := pwN hB.1.1 hB.1.2
  have hN := hB.1
  have hcap := hB.2.1
  have put : ∀ σ1 : St, XB σ1 N cap o oi c → sL σ1 = sL σ → (∀ wk, (∀ k, k < N → Wid (FT (va_up T j h) o N) N 0 32 k (wk k)) → sumN wk N ≤ cap) → ∀ f, (∀ i, i < 64 * 2 ^ (N - 6) → tb f i = tb (sL σ 43) i) → Runs g 0 45 (d + 5) M_X2_restPointer [.ref (eA g 0)] (uLf σ1 (11 + j) f) (fun r1 σ1 => r1 = none ∧ K (some (.int (nI 0))) σ1) := by
    intro σ1 hB1 hL1 hle f hf
    refine sp_rest (d := d + 3) ⟨rfl, hA _ (InvX.rest hB1 ?_) hle⟩
    show XT (va_up (sL σ1) (11 + j) f) N (va_up T j h) o
    rw [hL1]
    exact hT.put hj (fun i hi => by rw [hf i hi]; exact hsp i hi)
  have cpy : ∀ σ1 : St, sL σ1 = sL σ → ∀ i, i < 64 * 2 ^ (N - 6) → tb (va_cpy (sL σ1 43) (sL σ1 (11 + j)) 0 0 (2 ^ (N - 6))) i = tb (sL σ 43) i := by
    intro σ1 hL1 i hi
    obtain ⟨a, b, rfl, hb⟩ := split64 i
    rw [tb_at _ hb, tb_at _ hb, hL1, pk_cpy_in (by omega) (by omega)]
    congr 2
    omega
  refine E_X2_keep g (d + 5) _ σ K ?_
  have mf := mf_fin ⟨N, by omega⟩
  have ml := mf_lt ⟨N, by omega⟩
  simp only at mf ml
  rw [hB.2.2.1, hB.2.2.2.1, hB.2.2.2.2.1, vp_iff (by omega), vp_iff (by omega), vp_iff (by omega), nI_clamp (n := N) (by omega), nI_clamp (n := 0) (by omega), nI_clamp (n := 2 ^ (N - 6)) (by omega), nI_clamp (n := j) (by omega), cy43, mf, nI_leI (by omega) (by omega), show lenJ 43 = 64 from rfl, lenJ_t (show j < 34 by omega)]
  have hwd : ∀ (wk : Nat → Nat) (tt : Nat → Nat), (∀ r, 0 ≤ r → r < 32 → tt r = if nI r = nI j then 32 else r) → (∀ k, k < N → Wid (tabF (sL σ) tt) N 0 32 k (wk k) ∧ wk k ≤ 8192) → ∀ k, k < N → Wid (FT (va_up T j h) o N) N 0 32 k (wk k) := by
    intro wk tt htt hw k hk
    refine tabF_FT hN.1 hN.2 hk (fun r q1 q2 => ?_) (hw k hk).1
    rw [htt r q1 q2]
    by_cases e : r = j
    · subst e
      rw [if_pos rfl, up_eq]
      exact hsp
    · rw [if_neg (fun q => e (nI_inj (by omega) (by omega) q)), up_ne e]
      exact hT.1 r q2
  refine ⟨by omega, fun cc => ⟨by omega, by omega, ⟨by omega, by omega, by decide, by decide, nI_pos (by omega), by omega, by omega⟩, ?_⟩, fun cc => ?_⟩
  · exact put σ hB rfl (fun wk hwk => Nat.le_trans (most_forks hN.1 hN.2 hwk) cc) _ (cpy σ rfl)
  · refine sp_forksOf (tt := fun r => if nI r = nI j then 32 else r) (b := 32) (by omega) (by omega) hN.1 hN.2 hB.2.2.2.2.2.2.1 (fun r _ _ => rfl) (fun σ' wk hw h7 hwk => ⟨_, rfl, ?_⟩)
    have hB' := hB.W hw
    have hs := sumN_le (f := wk) (m := 8192) (n := N) (fun k hk => (hwk k hk).2)
    have hs2 : N * 8192 ≤ 12 * 8192 := Nat.mul_le_mul_right _ hN.2
    rw [hB'.2.2.2.1, hB'.2.2.2.2.1, nI_clamp (n := 2 ^ (N - 6)) (by omega), nI_leI (by omega) (by omega)]
    have hwk' := hwd wk _ (fun r _ _ => rfl) hwk
    have huni : ∀ wk', (∀ k, k < N → Wid (FT (va_up T j h) o N) N 0 32 k (wk' k)) → sumN wk' N = sumN wk N := fun wk' h' => sumN_congr (fun k hk => (h' k hk).eq (hwk' k hk))
    refine ⟨fun cc => ⟨by omega, by omega, ⟨by omega, by omega, by decide, by decide, nI_pos (by omega), by omega, by omega⟩, ?_⟩, fun cc => ?_⟩
    · exact put σ' hB' hw.1 (fun wk' h' => by rw [huni wk' h']; exact cc) _ (cpy σ' hw.1)
    · exact hBd σ' (hI.W hw) (fun wk' h' => by rw [huni wk' h']; omega)
/-- the forks of the registers from a to b -/
theorem sp_forksAll (hI : InvX σ N cap T o oi c P) (h : ∀ σ' wk, Wfr σ σ' → (∀ k, k < N → sI σ' 7 k = nI (wk k)) → (∀ k, k < N → Wid (FT T o N) N 0 32 k (wk k) ∧ wk k ≤ 8192) → K (some (.int (nI (sumN wk N)))) σ') : Runs g 0 45 (d + 6) M_X2_forksOfAll [.ref (eA g 0)] σ K := by
  obtain ⟨hB, hT, hP⟩ := id hI
  refine E_X2_forksOfAll g (d + 5) σ K ?_
  rw [hB.2.2.1]
  refine sp_forksOf (tt := fun r => r) (b := 32) (by omega) (by omega) hB.1.1 hB.1.2 hB.2.2.2.2.2.2.1 (fun r _ hr => ?_) (fun σ' wk hw h7 hwk => ⟨_, rfl, h σ' wk hw h7 (fun k hk => ⟨tabF_FT hB.1.1 hB.1.2 hk (fun r _ hr => hT.1 r hr) (hwk k hk).1, (hwk k hk).2⟩)⟩)
  rw [if_neg]
  intro e
  have := congrArg Int32.toInt e
  rw [nI_toInt (by omega)] at this
  have e2 : (-1 : Int32).toInt = -1 := by decide
  omega
theorem sp_forksOne {j : Nat} (hI : InvX σ N cap T o oi c P) (hj : j < 32) (h : ∀ σ' wk, Wfr σ σ' → (∀ k, k < N → sI σ' 7 k = nI (wk k)) → (∀ k, k < N → Wid (FT T o N) N j (j + 1) k (wk k) ∧ wk k ≤ 8192) → K (some (.int (nI (sumN wk N)))) σ') : Runs g 0 45 (d + 6) M_X2_forksOfOne [.ref (eA g 0), .int (nI j)] σ K := by
  obtain ⟨hB, hT, hP⟩ := id hI
  refine E_X2_forksOfOne g (d + 5) _ σ K ?_
  rw [hB.2.2.1]
  refine sp_forksOf (tt := fun r => r) (a := j) (b := j + 1) (by omega) (by omega) hB.1.1 hB.1.2 hB.2.2.2.2.2.2.1 (fun r _ hr => ?_) (fun σ' wk hw h7 hwk => ⟨_, rfl, h σ' wk hw h7 (fun k hk => ⟨tabF_FT hB.1.1 hB.1.2 hk (fun r _ hr => hT.1 r (by omega)) (hwk k hk).1, (hwk k hk).2⟩)⟩)
  rw [if_neg]
  intro e
  have := congrArg Int32.toInt e
  rw [nI_toInt (by omega)] at this
  have e2 : (-1 : Int32).toInt = -1 := by decide
  omega
end CLS1

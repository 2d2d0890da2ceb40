theorem nI_adj {A A' x y : Nat} (hA : A < 2 ^ 30) (hA' : A' < 2 ^ 30) (hx : x < 2 ^ 30) (hy : y < 2 ^ 30) (h : A' + y = A + x) : nI A + (nI x - nI y) = nI A' := by
  apply Int32.toBitVec_inj.mp
  rw [Int32.toBitVec_add, Int32.toBitVec_sub, nI_tb, nI_tb, nI_tb, nI_tb]
  apply BitVec.eq_of_toNat_eq
  simp only [BitVec.toNat_add, BitVec.toNat_sub, BitVec.toNat_ofNat]
  omega
section CLS9
variable {g : Ev} {d : Nat} {σ : St} {K : Option Value → St → Prop} {N cap : Nat} {T : Nat → Nat → Bool} {o oi c : Nat → Nat} {P : Nat → Bool}
theorem FT_osw {k : Nat} (hp : Prm o oi N) (hk : k + 1 < N) (r i : Nat) : FT T (osw o k) N r i = FT T o N r (swb i (N - 1 - k) (N - 1 - (k + 1))) := by
  unfold FT
  rw [spr_osw hp hk]
/-- the list's parts through a turn of levels inside them -/
theorem list_turn {σ σ' : St} {q k fc : Nat} {fn : Nat → Nat × Nat} (h1 : 1 ≤ N) (hN : N ≤ 12) (hf : Tfr σ σ' N k) (hk : k + 1 < N) (hq : q ≤ k) (hS : SL σ (N - q) fc fn) (hL : LV (sL σ) (fun r => r) 0 32 N q fc fn) : SL σ' (N - q) fc fn ∧ LV (sL σ') (fun r => r) 0 32 N q fc fn := by
  have hpw := pwN h1 hN
  have hup : ∀ s, s < 2 ^ N → 2 ^ (N - q) ∣ s → s + 2 ^ (N - q) ≤ 2 ^ N := fun s h1 h2 => align_lt (m := 0) h2 h1 (Nat.sub_le N q)
  have ev : ∀ r s, r < 32 → s < 2 ^ N → 2 ^ (N - q) ∣ s → ∀ j, j < 2 ^ (N - q) → tb (sL σ' (11 + r)) (s + j) = tb (sL σ (11 + r)) (s + swb j (N - 1 - k) (N - 1 - (k + 1))) := fun r s hr hs hd j hj => by
    have := hup s hs hd
    rw [hf.2.2.2.2.2 r hr _ (by omega), swb_in hd hj (by omega) (by omega)]
  have eE : ∀ r r' s s', r < 32 → r' < 32 → s < 2 ^ N → s' < 2 ^ N → 2 ^ (N - q) ∣ s → 2 ^ (N - q) ∣ s' → (eqP (sL σ' (11 + r)) (sL σ' (11 + r')) s s' (N - q) ↔ eqP (sL σ (11 + r)) (sL σ (11 + r')) s s' (N - q)) := fun r r' s s' hr hr' hs hs' hd hd' => by
    constructor
    · intro hA j hj
      have hl : swb j (N - 1 - k) (N - 1 - (k + 1)) < 2 ^ (N - q) := swb_lt hj (by omega) (by omega)
      have := hA _ hl
      rw [ev r s hr hs hd _ hl, ev r' s' hr' hs' hd' _ hl, swb_swb] at this
      exact this
    · intro hA j hj
      have hl : swb j (N - 1 - k) (N - 1 - (k + 1)) < 2 ^ (N - q) := swb_lt hj (by omega) (by omega)
      rw [ev r s hr hs hd _ hj, ev r' s' hr' hs' hd' _ hj]
      exact hA _ hl
  obtain ⟨a1, a2, a3, a4, a5, a6⟩ := hS
  have nmr : ∀ i, i < fc → (fn i).1 < 32 ∧ (fn i).2 < 2 ^ N ∧ 2 ^ (N - q) ∣ (fn i).2 := fun i hi => by
    obtain ⟨r, q1, q2, q3, q4, q5⟩ := hL.1 i hi
    have q3 : (fn i).1 = r := q3
    exact ⟨by omega, q4, q5⟩
  have hne2 : sR σ 1 ≠ 2 := by rcases a3 with ⟨-, r⟩ | ⟨-, r⟩ <;> rw [r] <;> decide
  refine ⟨⟨by rw [hf.1]; exact a1, a2, by unfold okR; rw [hf.2.2.1]; exact a3, fun i hi => by rw [hf.2.2.1, hf.2.2.2.1 _ hne2]; exact a4 i hi, a5, fun i j hi hj e => a6 i j hi hj ?_⟩, hL.1, fun r s q1 q2 q3 q4 => ?_⟩
  · obtain ⟨x1, x2, x3⟩ := nmr i hi
    obtain ⟨y1, y2, y3⟩ := nmr j hj
    exact (eE _ _ _ _ x1 y1 x2 y2 x3 y3).mp e
  · obtain ⟨i, hi, e⟩ := hL.2 r s q1 q2 q3 q4
    obtain ⟨x1, x2, x3⟩ := nmr i hi
    exact ⟨i, hi, (eE _ _ _ _ x1 q2 x2 q3 x3 q4).mpr e⟩
theorem tt_id (r : Nat) (hr : r < 32) : r = if nI r = -1 then 32 else r := by
  rw [if_neg (nI_m1 (by omega))]
theorem sp_best {L : Nat} {wk0 : Nat → Nat} (hB : XB σ N cap (insO o L 0) oi c) (hT : XT (sL σ) N T (insO o L 0)) (h7 : ∀ k, k < N → sI σ 7 k = nI (wk0 k)) (hwk0 : ∀ k, k < N → Wid (FT T (insO o L 0) N) N 0 32 k (wk0 k) ∧ wk0 k ≤ 8192)
    (h : ∀ σ' oi' F, XB σ' N cap (insO o L (N - 1)) oi' c → XT (sL σ') N T (insO o L (N - 1)) → (∀ z, z ≠ 6 → z ≠ 7 → sV σ' z = sV σ z) → (∀ m, m < N → ∀ wk, (∀ q, q < N → Wid (FT T (insO o L m) N) N 0 32 q (wk q)) → sumN wk N = F m) → K (some (.int (nI (bst F (N - 1))))) σ') :
    Runs g 0 45 (d + 7) M_X2_bestLevelGoingDown [.ref (eA g 0), .int (nI (sumN wk0 N))] σ K := by
  have hN := hB.1
  have hpw := pwN hN.1 hN.2
  refine E_X2_bestLevelGoingDown g (d + 6) _ σ K ?_
  rw [vp_iff (by omega), nI_clamp (by omega), h7 0 (by omega), hB.2.2.1]
  refine ⟨by decide, sp_list (d := d + 2) (b := 32) (tt := fun r => r) (by omega) (by omega) hN.1 hN.2 hB.2.2.2.2.2.2.1 (fun r _ hr => tt_id r hr) (fun σ2 c2 fc fn hv2 hS2 hL2 => ⟨rfl, ?_⟩)⟩
  have bnd : ∀ wk : Nat → Nat, (∀ q, q < N → wk q ≤ 8192) → sumN wk N ≤ 98304 := fun wk hb => by
    have h1 := sumN_le (f := wk) (m := 8192) (n := N) hb
    have h2 : N * 8192 ≤ 12 * 8192 := Nat.mul_le_mul_right _ hN.2
    omega
  have bW : ∀ (F : Nat → Nat → Bool) q w, q < N → Wid F N 0 32 q w → w ≤ 8192 := fun F q w hq hw => by
    obtain ⟨fn', a1, a2, -⟩ := hw
    exact (most_found (F := F) hN.2 (by omega) (by omega) (fun i hi => (a1 i hi).1) a2).1
  have loop : ∀ k, k ≤ N → 1 ≤ k → ∀ (σ3 : St) (oi3 : Nat → Nat) (fc : Nat) (fn : Nat → Nat × Nat) (Wf : Nat → Nat → Nat), XB σ3 N cap (insO o L (k - 1)) oi3 c → XT (sL σ3) N T (insO o L (k - 1)) → SL σ3 (N - (k - 1)) fc fn → LV (sL σ3) (fun r => r) 0 32 N (k - 1) fc fn → (∀ z, z ≠ 6 → z ≠ 7 → sV σ3 z = sV σ z) → (∀ q, q < N → sI σ3 7 q = nI (Wf 0 q)) → (∀ m, m < k → ∀ q, q < N → Wid (FT T (insO o L m) N) N 0 32 q (Wf m q)) → (∀ q, k ≤ q → q < N → Wf (k - 1) q = Wf 0 q) →
      WP g 0 45 (d + 7) M_X2_bestLevelGoingDown 40 [(0, .ref (eA g 0)), (2, .int (nI (sumN (Wf (k - 1)) N))), (3, .int (nI (sumN (Wf (bst (fun m => sumN (Wf m) N) (k - 1))) N))), (4, .int (nI (bst (fun m => sumN (Wf m) N) (k - 1)))), (5, .int (nI (Wf (k - 1) (k - 1)))), (6, .int (nI k))] [] σ3 K := by
    refine up_to (P := fun k => 1 ≤ k → ∀ (σ3 : St) (oi3 : Nat → Nat) (fc : Nat) (fn : Nat → Nat × Nat) (Wf : Nat → Nat → Nat), XB σ3 N cap (insO o L (k - 1)) oi3 c → XT (sL σ3) N T (insO o L (k - 1)) → SL σ3 (N - (k - 1)) fc fn → LV (sL σ3) (fun r => r) 0 32 N (k - 1) fc fn → (∀ z, z ≠ 6 → z ≠ 7 → sV σ3 z = sV σ z) → (∀ q, q < N → sI σ3 7 q = nI (Wf 0 q)) → (∀ m, m < k → ∀ q, q < N → Wid (FT T (insO o L m) N) N 0 32 q (Wf m q)) → (∀ q, k ≤ q → q < N → Wf (k - 1) q = Wf 0 q) →
      WP g 0 45 (d + 7) M_X2_bestLevelGoingDown 40 [(0, .ref (eA g 0)), (2, .int (nI (sumN (Wf (k - 1)) N))), (3, .int (nI (sumN (Wf (bst (fun m => sumN (Wf m) N) (k - 1))) N))), (4, .int (nI (bst (fun m => sumN (Wf m) N) (k - 1)))), (5, .int (nI (Wf (k - 1) (k - 1)))), (6, .int (nI k))] [] σ3 K) N ?_ ?_
    · intro _ σ3 oi3 fc fn Wf hB3 hT3 hS3 hL3 hV3 h73 hWf hlo
      refine R_X2_bestLevelGoingDown_40 g (d + 6) _ _ _ _ _ σ3 K ⟨fun _ => h σ3 oi3 (fun m => sumN (Wf m) N) hB3 hT3 hV3 (fun m hm wk hwk => sumN_congr (fun q hq => (hwk q hq).eq (hWf m hm q hq))), fun z => ?_⟩
      rw [hB3.2.2.1] at z
      exact absurd (nI_le (Nat.le_refl _) (by omega)) z
    · intro k hk ih hk1 σ3 oi3 fc fn Wf hB3 hT3 hS3 hL3 hV3 h73 hWf hlo
      have hp3 := hB3.2.2.2.2.2.2.2.1
      obtain ⟨m, rfl⟩ : ∃ m, k = m + 1 := ⟨k - 1, by omega⟩
      simp only [Nat.add_sub_cancel] at *
      refine R_X2_bestLevelGoingDown_40 g (d + 6) _ _ _ _ _ σ3 K ⟨fun z => ?_, fun _ => ?_⟩
      · rw [hB3.2.2.1] at z
        exact absurd ((nI_leI (by omega) (by omega)).mp z) (by omega)
      · rw [vp_iff (by omega), nI_clamp (by omega), h73 (m + 1) hk, pk_sub (by omega), Nat.add_sub_cancel]
        refine ⟨by show m + 1 < 12; omega, sp_turn (d := d + 3) hB3 hT3 hk (fun σ4 hf4 hB4 hT4 => ⟨rfl, sp_placeAt (d := d + 5) hB4 (by omega) ⟨_, rfl, ?_⟩⟩)⟩
        rw [insO_dn] at hB4 hT4
        obtain ⟨hS4, hL4⟩ := list_turn hN.1 hN.2 hf4 hk (Nat.le_refl _) hS3 hL3
        rw [jshl1 (by omega), show N - 1 - m = N - (m + 1) by omega]
        refine sp_cut (d := d + 2) hS4 hL4 hN.2 (by omega) (by omega) (fun σ5 c5 fc5 fn5 B hv5 hS5 hL5 hWB hB8 => ⟨_, rfl, ?_⟩)
        have hB5 := hB4.W hv5.W
        refine sp_placeAt (d := d + 5) hB5 hk ⟨_, rfl, ?_⟩
        rw [jshl1 (by omega), show N - 1 - (m + 1) = N - (m + 1 + 1) by omega]
        rw [← hv5.1] at hL5
        refine sp_forksListed (d := d + 3) hS5.SL hL5 hN.2 hk (fun C hWC hC8 => ⟨_, rfl, ?_⟩)
        rw [hv5.1] at hL5 hWC
        have hT5 : XT (sL σ5) N T (insO o L (m + 1)) := by rw [hv5.1]; exact hT4
        have hWB' : Wid (FT T (insO o L (m + 1)) N) N 0 32 m B := tabF_FT hN.1 hN.2 (by omega) (fun r _ hr => hT4.1 r hr) hWB
        have hWC' : Wid (FT T (insO o L (m + 1)) N) N 0 32 (m + 1) C := tabF_FT hN.1 hN.2 hk (fun r _ hr => hT4.1 r hr) hWC
        -- the widths with the letter one level lower
        have hnew : ∀ q, q < N → Wid (FT T (insO o L (m + 1)) N) N 0 32 q (va_up (va_up (Wf m) m B) (m + 1) C q) := fun q hq => by
          by_cases c1 : q = m + 1
          · rw [c1, up_eq]; exact hWC'
          · rw [up_ne c1]
            by_cases c2 : q = m
            · rw [c2, up_eq]; exact hWB'
            · rw [up_ne c2]
              refine wid_swb (k := m) hk hq ⟨c2, c1⟩ (fun r i _ _ _ => ?_) (hWf m (by omega) q hq)
              rw [← insO_dn]
              exact FT_osw hp3 hk r i
        generalize hWn : va_up (va_up (Wf m) m B) (m + 1) C = Wn at hnew
        have hWm : Wn m = B := by rw [← hWn, up_ne (by omega), up_eq]
        have hWm1 : Wn (m + 1) = C := by rw [← hWn, up_eq]
        have hWo : ∀ q, q ≠ m → q ≠ m + 1 → Wn q = Wf m q := fun q h1 h2 => by rw [← hWn, up_ne h2, up_ne h1]
        have hsum := sum_two (f := Wf m) (h := Wn) (m := m) (N := N) hk (fun q _ h1 h2 => (hWo q h1 h2).symm)
        rw [hWm, hWm1] at hsum
        have s1 := bnd (Wf m) (fun q hq => bW _ q _ hq (hWf m (by omega) q hq))
        have s2 := bnd Wn (fun q hq => bW _ q _ hq (hnew q hq))
        have w1 := bW _ m _ (by omega) (hWf m (by omega) m (by omega))
        have w2 := bW _ (m + 1) _ hk (hWf m (by omega) (m + 1) hk)
        have e0 : Wf m (m + 1) = Wf 0 (m + 1) := hlo (m + 1) (Nat.le_refl _) hk
        rw [nI_add, nI_add, ← e0, nI_adj (A' := sumN Wn N) (by omega) (by omega) (by omega) (by omega) (by omega), nI_1']
        have hbst : bst (fun m => sumN (Wf m) N) m ≤ m := bst_le _ _
        have sb := bnd (Wf (bst (fun m => sumN (Wf m) N) m)) (fun q hq => bW _ q _ hq (hWf _ (by omega) q hq))
        rw [nI_leI (by omega) (by omega)]
        have eqF' : ∀ q, q ≤ m → va_up Wf (m + 1) Wn q = Wf q := fun q hq => up_ne (by omega)
        have bst' : bst (fun q => sumN (va_up Wf (m + 1) Wn q) N) m = bst (fun q => sumN (Wf q) N) m := bst_congr (fun q hq => by rw [eqF' q hq])
        have stp : bst (fun q => sumN (va_up Wf (m + 1) Wn q) N) (m + 1) = if sumN Wn N < sumN (Wf (bst (fun q => sumN (Wf q) N) m)) N then m + 1 else bst (fun q => sumN (Wf q) N) m := by
          show (if sumN (va_up Wf (m + 1) Wn (m + 1)) N < sumN (va_up Wf (m + 1) Wn (bst (fun q => sumN (va_up Wf (m + 1) Wn q) N) m)) N then m + 1 else bst (fun q => sumN (va_up Wf (m + 1) Wn q) N) m) = _
          rw [bst', up_eq, eqF' _ hbst]
        have ih' := ih (by omega) σ5 _ fc5 fn5 (va_up Wf (m + 1) Wn) hB5 hT5 hS5.SL (by rw [hv5.1]; exact hL5) (fun z h6 h7 => by rw [hv5.2.2.2.1 z h6 h7, hf4.1]; exact hV3 z h6 h7) (fun q hq => by
          rw [eqF' 0 (by omega), hv5.2.2.2.2 7 (by decide) (by decide) (by decide), hf4.2.2.2.1 7 (by decide)]
          exact h73 q hq) (fun q hq z hz => by
          by_cases c1 : q = m + 1
          · rw [c1, up_eq]; exact hnew z hz
          · rw [up_ne c1]; exact hWf q (by omega) z hz) (fun q hq1 hq2 => by
          rw [up_eq, eqF' 0 (by omega), hWo q (by omega) (by omega)]
          exact hlo q (by omega) hq2)
        rw [up_eq, hWm1, stp] at ih'
        refine ⟨fun z => ?_, fun z => ?_⟩
        · rw [if_neg (by omega), eqF' _ hbst] at ih'
          exact ih'
        · rw [if_pos (by omega), up_eq] at ih'
          exact ih'
  have := loop 1 hN.1 (Nat.le_refl _) σ2 oi fc fn (fun _ => wk0) (hB.W hv2.W) (by rw [hv2.1]; exact hT) hS2.SL (by rw [hv2.1]; exact hL2) (fun z h6 h7 => by rw [hv2.2.2.2.1 z h6 h7]) (fun q hq => by
    rw [hv2.2.2.2.2 7 (by decide) (by decide) (by decide)]
    exact h7 q hq) (fun m hm q hq => by
    rw [show m = 0 by omega]
    exact (hwk0 q hq).1) (fun q _ _ => rfl)
  exact this
theorem X_sift {x1 : Int32} (hI : InvX σ N cap T o oi c P) (hbad : ¬ isIn N x1 → K (some (.int (-2))) σ)
    (hok : ∀ v F, v < N → x1 = nI v → (∀ m, m < N → ∀ wk, (∀ q, q < N → Wid (FT T (insO o (oi v) m) N) N 0 32 q (wk q)) → sumN wk N = F m) → ∀ σ' oi', InvX σ' N cap T (insO o (oi v) (bst F (N - 1))) oi' c (fun _ => false) → K (some (.int (nI (bst F (N - 1))))) σ') : Runs g 0 45 (d + 8) M_X2_sift [.ref (eA g 0), .int x1] σ K := by
  obtain ⟨hB, hT, hP⟩ := id hI
  have hN := hB.1
  refine E_X2_sift g (d + 7) _ σ K (sp_isLetter (d := d + 6) hB (fun v hv e => ⟨_, rfl, fun _ => ?_, fun q => absurd q n10⟩) (fun hn => ⟨_, rfl, fun q => absurd rfl q, fun _ => hbad hn⟩))
  subst e
  have hov := (hB.2.2.2.2.2.2.2.1.2 v hv).1
  refine sp_levelOf (d := d + 6) hB hv ⟨_, rfl, ?_⟩
  -- up to the top
  have st2 : ∀ F, (∀ m, m < N → ∀ wk, (∀ q, q < N → Wid (FT T (insO o (oi v) m) N) N 0 32 q (wk q)) → sumN wk N = F m) → ∀ j, bst F (N - 1) + j < N → ∀ σ2 oi2, XB σ2 N cap (insO o (oi v) (bst F (N - 1) + j)) oi2 c → XT (sL σ2) N T (insO o (oi v) (bst F (N - 1) + j)) → WP g 0 45 (d + 8) M_X2_sift 50 [(0, .ref (eA g 0)), (2, .int (nI (bst F (N - 1)))), (3, .int (nI (bst F (N - 1) + j) + (-1)))] [] σ2 K := by
    intro F hF j
    induction j with
    | zero =>
      intro hj σ2 oi2 hB2 hT2
      refine R_X2_sift_50 g (d + 7) _ _ σ2 K ⟨fun _ => sp_rest (d := d + 5) ⟨rfl, hok v F hv rfl hF _ oi2 (InvX.rest hB2 hT2)⟩, fun z => absurd ?_ z⟩
      refine Int32.lt_iff_toInt_lt.mpr ?_
      rw [Nat.add_zero, nI_toInt (by omega)]
      rcases Nat.eq_zero_or_pos (bst F (N - 1)) with h0 | h0
      · rw [h0]; decide
      · obtain ⟨b, hb⟩ : ∃ b, bst F (N - 1) = b + 1 := ⟨bst F (N - 1) - 1, by omega⟩
        rw [hb, pk_m1, nI_toInt (by omega)]
        omega
    | succ j ihj =>
      intro hj σ2 oi2 hB2 hT2
      rw [← Nat.add_assoc, pk_m1]
      refine R_X2_sift_50 g (d + 7) _ _ σ2 K ⟨fun z => absurd ((nI_ltI (by omega) (by omega)).mp z) (by omega), fun _ => ?_⟩
      refine sp_turn (d := d + 4) hB2 hT2 (by omega) (fun σ3 hf3 hB3 hT3 => ⟨rfl, ?_⟩)
      rw [← Nat.add_assoc, insO_up] at hB3 hT3
      exact ihj (by omega) σ3 _ hB3 hT3
  have st1 : ∀ k, k < N → ∀ σ2 oi2 P2, InvX σ2 N cap T (insO o (oi v) k) oi2 c P2 → WP g 0 45 (d + 8) M_X2_sift 19 [(0, .ref (eA g 0)), (2, .int (nI k - nI 1))] [] σ2 K := by
    intro k
    induction k with
    | zero =>
      intro hk σ2 oi2 P2 hI2
      refine R_X2_sift_19 g (d + 7) _ σ2 K ⟨fun _ => sp_forksAll (d := d + 1) hI2 (fun σa wk0 hwa h7a hwka => ⟨_, rfl, sp_best (hI2.1.W hwa) (by rw [hwa.1]; exact hI2.2.1) h7a hwka (fun σ3 oi3 F hB3 hT3 _ hF => ⟨_, rfl, ?_⟩)⟩), fun z => absurd (show nI 0 - nI 1 < nI 0 by decide) z⟩
      have hb := bst_le F (N - 1)
      rw [hB3.2.2.1]
      have := st2 F hF (N - 1 - bst F (N - 1)) (by omega) σ3 oi3 (by rw [show bst F (N - 1) + (N - 1 - bst F (N - 1)) = N - 1 by omega]; exact hB3) (by rw [show bst F (N - 1) + (N - 1 - bst F (N - 1)) = N - 1 by omega]; exact hT3)
      rw [show bst F (N - 1) + (N - 1 - bst F (N - 1)) = N - 1 by omega] at this
      rw [show nI N - nI 2 = nI (N - 1) + (-1) by
        rcases (show N = 1 ∨ 2 ≤ N by omega) with h1 | h1
        · rw [h1]; decide
        · rw [pk_sub h1, show N - 1 = (N - 2) + 1 by omega, pk_m1]]
      exact this
    | succ k ihk =>
      intro hk σ2 oi2 P2 hI2
      rw [pk_sub (by omega), Nat.add_sub_cancel]
      refine R_X2_sift_19 g (d + 7) _ σ2 K ⟨fun z => absurd z (nI_pos (by omega)), fun _ => ?_⟩
      refine sp_turn (d := d + 4) hI2.1 hI2.2.1 (by omega) (fun σ3 hf3 hB3 hT3 => ⟨rfl, ?_⟩)
      rw [insO_up] at hB3 hT3
      obtain ⟨P3, hP3⟩ := hI2.2.2.any (σ' := σ3) (o' := insO o (oi v) k) hf3.1
      have := ihk (by omega) σ3 _ P3 ⟨hB3, hT3, hP3⟩
      rw [show nI k + (-1) = nI k - nI 1 by
        have : ∀ x : Int32, x + (-1) = x - nI 1 := fun x => by
          rw [Int32.sub_eq_add_neg]
          rfl
        exact this _]
      exact this
  exact st1 (oi v) hov σ oi P (by rw [insO_self]; exact hI)
end CLS9

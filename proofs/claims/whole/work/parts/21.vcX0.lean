set_option maxRecDepth 100000 in
set_option maxHeartbeats 4000000 in
theorem E_X0_has (g : Ev) (d : Nat) (k0 : Nat) (x1 : Int32) (σ : St) (K : Option Value → St → Prop) (h : vp_in (jshr x1 (nI 6)) (lenJ k0) ∧ (((lg_cmp ((jlushr (sL σ k0 (jshr x1 (nI 6)).toNatClampNeg) (x1 &&& (nI 63))) &&& 1) 0) = nI 0 → K (some (.int (nI 0))) σ) ∧ (¬ (lg_cmp ((jlushr (sL σ k0 (jshr x1 (nI 6)).toNatClampNeg) (x1 &&& (nI 63))) &&& 1) 0) = nI 0 → K (some (.int (nI 1))) σ))) : Runs g 0 45 (d + 1) M_X0_has [.ref (eA g k0), .int x1] σ K := by
  refine Runs.of (by decide) (Nat.le_of_ble_eq_true rfl) ?_
  show WP g 0 45 (d + 1) M_X0_has 0 [(0, .ref (eA g k0)), (1, .int x1)] [] σ K
  refine wp_aload_n 0 dX0_has_0 rfl rfl ?_
  refine wp_iload_n 1 dX0_has_1 rfl rfl ?_
  refine wp_bipush (nI 6) dX0_has_2 (by decide) ?_
  refine wp_ishr dX0_has_4 ?_
  refine wp_lald (Nat.zero_le _) (lenJ_hi h.1) dX0_has_5 h.1 ?_
  replace h := h.2
  refine wp_iload_n 1 dX0_has_6 rfl rfl ?_
  refine wp_bipush (nI 63) dX0_has_7 (by decide) ?_
  refine wp_iand dX0_has_9 ?_
  refine wp_lushr dX0_has_10 ?_
  refine wp_lconst 1 dX0_has_11 (by decide) ?_
  refine wp_land dX0_has_12 ?_
  refine wp_lconst 0 dX0_has_13 (by decide) ?_
  refine wp_lcmp dX0_has_14 ?_
  refine wp_if_eq 22 dX0_has_15 (by decide) (fun c => ?_) (fun c => ?_)
  · replace h := h.1 c
    refine wp_iconst (nI 0) dX0_has_22 (by decide) ?_
    exact wp_zret rfl rfl dX0_has_23 h
  · replace h := h.2 c
    refine wp_iconst (nI 1) dX0_has_18 (by decide) ?_
    refine wp_goto 23 dX0_has_19 (by decide) ?_
    exact wp_zret rfl rfl dX0_has_23 h
set_option maxRecDepth 100000 in
set_option maxHeartbeats 4000000 in
theorem E_X0_mark (g : Ev) (d : Nat) (k0 : Nat) (x1 : Int32) (σ : St) (K : Option Value → St → Prop) (h : vp_in (jshr x1 (nI 6)) (lenJ k0) ∧ vp_in (jshr x1 (nI 6)) (lenJ k0) ∧ K none (uL σ k0 (jshr x1 (nI 6)).toNatClampNeg ((sL σ k0 (jshr x1 (nI 6)).toNatClampNeg) ||| (jlshl 1 (x1 &&& (nI 63)))))) : Runs g 0 45 (d + 1) M_X0_mark [.ref (eA g k0), .int x1] σ K := by
  refine Runs.of (by decide) (Nat.le_of_ble_eq_true rfl) ?_
  show WP g 0 45 (d + 1) M_X0_mark 0 [(0, .ref (eA g k0)), (1, .int x1)] [] σ K
  refine wp_aload_n 0 dX0_mark_0 rfl rfl ?_
  refine wp_iload_n 1 dX0_mark_1 rfl rfl ?_
  refine wp_bipush (nI 6) dX0_mark_2 (by decide) ?_
  refine wp_ishr dX0_mark_4 ?_
  refine wp_dup2 dX0_mark_5 rfl rfl ?_
  refine wp_lald (Nat.zero_le _) (lenJ_hi h.1) dX0_mark_6 h.1 ?_
  replace h := h.2
  refine wp_lconst 1 dX0_mark_7 (by decide) ?_
  refine wp_iload_n 1 dX0_mark_8 rfl rfl ?_
  refine wp_bipush (nI 63) dX0_mark_9 (by decide) ?_
  refine wp_iand dX0_mark_11 ?_
  refine wp_lshl dX0_mark_12 ?_
  refine wp_lor dX0_mark_13 ?_
  refine wp_last (Nat.zero_le _) (lenJ_hi h.1) dX0_mark_14 h.1 ?_
  replace h := h.2
  exact wp_vret rfl dX0_mark_15 h
set_option maxRecDepth 100000 in
set_option maxHeartbeats 4000000 in
theorem E_X0_lowOnes (g : Ev) (d : Nat) (x0 : Int32) (σ : St) (K : Option Value → St → Prop) (h : ((x0 < (nI 64) → K (some (.long ((jlshl 1 x0) - 1))) σ) ∧ (¬ x0 < (nI 64) → K (some (.long (-1))) σ))) : Runs g 0 45 (d + 1) M_X0_lowOnes [.int x0] σ K := by
  refine Runs.of (by decide) (Nat.le_of_ble_eq_true rfl) ?_
  show WP g 0 45 (d + 1) M_X0_lowOnes 0 [(0, .int x0)] [] σ K
  refine wp_iload_n 0 dX0_lowOnes_0 rfl rfl ?_
  refine wp_bipush (nI 64) dX0_lowOnes_1 (by decide) ?_
  refine wp_icmp_lt 12 dX0_lowOnes_3 (by decide) (fun c => ?_) (fun c => ?_)
  · replace h := h.1 c
    refine wp_lconst 1 dX0_lowOnes_12 (by decide) ?_
    refine wp_iload_n 0 dX0_lowOnes_13 rfl rfl ?_
    refine wp_lshl dX0_lowOnes_14 ?_
    refine wp_lconst 1 dX0_lowOnes_15 (by decide) ?_
    refine wp_lsub dX0_lowOnes_16 ?_
    exact wp_lret rfl dX0_lowOnes_17 h
  · replace h := h.2 c
    refine wp_ldc2 wk_X0_9 dX0_lowOnes_6 ?_
    refine wp_goto 17 dX0_lowOnes_9 (by decide) ?_
    exact wp_lret rfl dX0_lowOnes_17 h
set_option maxRecDepth 100000 in
set_option maxHeartbeats 4000000 in
theorem E_X0_letterWord (g : Ev) (d : Nat) (x0 : Int32) (x1 : Int32) (σ : St) (K : Option Value → St → Prop) (h : (((nI 6) ≤ x1 → ((((jshr x0 (x1 - (nI 6))) &&& (nI 1)) = nI 0 → K (some (.long 0)) σ) ∧ (¬ ((jshr x0 (x1 - (nI 6))) &&& (nI 1)) = nI 0 → K (some (.long (-1))) σ))) ∧ (¬ (nI 6) ≤ x1 → vp_in x1 6 ∧ K (some (.long (fONE x1.toNatClampNeg))) σ))) : Runs g 0 45 (d + 1) M_X0_letterWord [.int x0, .int x1] σ K := by
  refine Runs.of (by decide) (Nat.le_of_ble_eq_true rfl) ?_
  show WP g 0 45 (d + 1) M_X0_letterWord 0 [(0, .int x0), (1, .int x1)] [] σ K
  refine wp_iload_n 1 dX0_letterWord_0 rfl rfl ?_
  refine wp_bipush (nI 6) dX0_letterWord_1 (by decide) ?_
  refine wp_icmp_ge 12 dX0_letterWord_3 (by decide) (fun c => ?_) (fun c => ?_)
  · replace h := h.1 c
    refine wp_iload_n 0 dX0_letterWord_12 rfl rfl ?_
    refine wp_iload_n 1 dX0_letterWord_13 rfl rfl ?_
    refine wp_bipush (nI 6) dX0_letterWord_14 (by decide) ?_
    refine wp_isub dX0_letterWord_16 ?_
    refine wp_ishr dX0_letterWord_17 ?_
    refine wp_iconst (nI 1) dX0_letterWord_18 (by decide) ?_
    refine wp_iand dX0_letterWord_19 ?_
    refine wp_if_eq 29 dX0_letterWord_20 (by decide) (fun c => ?_) (fun c => ?_)
    · replace h := h.1 c
      refine wp_lconst 0 dX0_letterWord_29 (by decide) ?_
      exact wp_lret rfl dX0_letterWord_30 h
    · replace h := h.2 c
      refine wp_ldc2 wk_X0_9 dX0_letterWord_23 ?_
      refine wp_goto 30 dX0_letterWord_26 (by decide) ?_
      exact wp_lret rfl dX0_letterWord_30 h
  · replace h := h.2 c
    refine wp_gets0 wf_X0_11 dX0_letterWord_6 ?_
    refine wp_iload_n 1 dX0_letterWord_9 rfl rfl ?_
    refine wp_tl dX0_letterWord_10 h.1 ?_
    replace h := h.2
    exact wp_lret rfl dX0_letterWord_11 h
set_option maxRecDepth 100000 in
set_option maxHeartbeats 4000000 in
theorem E_X0_joinedWord (g : Ev) (d : Nat) (l0 : Int64) (l2 : Int64) (x4 : Int32) (σ : St) (K : Option Value → St → Prop) (h : (((x4 &&& (nI 1)) = nI 0 → WP g 0 45 (d + 1) M_X0_joinedWord 26 [(0, .long l0), (2, .long l2), (4, .int x4), (5, .long 0)] [] σ K) ∧ (¬ (x4 &&& (nI 1)) = nI 0 → WP g 0 45 (d + 1) M_X0_joinedWord 26 [(0, .long l0), (2, .long l2), (4, .int x4), (5, .long (0 ||| ((l0 ^^^ (-1)) &&& (l2 ^^^ (-1)))))] [] σ K))) : Runs g 0 45 (d + 1) M_X0_joinedWord [.long l0, .long l2, .int x4] σ K := by
  refine Runs.of (by decide) (Nat.le_of_ble_eq_true rfl) ?_
  show WP g 0 45 (d + 1) M_X0_joinedWord 0 [(0, .long l0), (2, .long l2), (4, .int x4)] [] σ K
  refine wp_lconst 0 dX0_joinedWord_0 (by decide) ?_
  refine wp_lstore (lv' := [(5, .long 0), (0, .long l0), (2, .long l2), (4, .int x4)]) dX0_joinedWord_1 (by decide) rfl ?_
  refine wp_iload 3 dX0_joinedWord_3 rfl ?_
  refine wp_iconst (nI 1) dX0_joinedWord_5 (by decide) ?_
  refine wp_iand dX0_joinedWord_6 ?_
  refine wp_if_eq 26 dX0_joinedWord_7 (by decide) (fun c => ?_) (fun c => ?_)
  · replace h := h.1 c
    exact wp_sub [1, 2, 3, 0] rfl h
  · replace h := h.2 c
    refine wp_lload 0 dX0_joinedWord_10 rfl ?_
    refine wp_lload_n 1 dX0_joinedWord_12 rfl rfl ?_
    refine wp_ldc2 wk_X0_9 dX0_joinedWord_13 ?_
    refine wp_lxor dX0_joinedWord_16 ?_
    refine wp_lload_n 2 dX0_joinedWord_17 rfl rfl ?_
    refine wp_ldc2 wk_X0_9 dX0_joinedWord_18 ?_
    refine wp_lxor dX0_joinedWord_21 ?_
    refine wp_land dX0_joinedWord_22 ?_
    refine wp_lor dX0_joinedWord_23 ?_
    refine wp_lstore (lv' := [(5, .long (0 ||| ((l0 ^^^ (-1)) &&& (l2 ^^^ (-1))))), (0, .long l0), (2, .long l2), (4, .int x4)]) dX0_joinedWord_24 (by decide) rfl ?_
    exact wp_sub [1, 2, 3, 0] rfl h
set_option maxRecDepth 100000 in
set_option maxHeartbeats 4000000 in
theorem R_X0_joinedWord_26 (g : Ev) (d : Nat) (l0 : Int64) (l2 : Int64) (x4 : Int32) (l5 : Int64) (σ : St) (K : Option Value → St → Prop) (h : (((x4 &&& (nI 2)) = nI 0 → WP g 0 45 (d + 1) M_X0_joinedWord 45 [(0, .long l0), (2, .long l2), (4, .int x4), (5, .long l5)] [] σ K) ∧ (¬ (x4 &&& (nI 2)) = nI 0 → WP g 0 45 (d + 1) M_X0_joinedWord 45 [(0, .long l0), (2, .long l2), (4, .int x4), (5, .long (l5 ||| (l0 &&& (l2 ^^^ (-1)))))] [] σ K))) : WP g 0 45 (d + 1) M_X0_joinedWord 26 [(0, .long l0), (2, .long l2), (4, .int x4), (5, .long l5)] [] σ K := by
  refine wp_iload 2 dX0_joinedWord_26 rfl ?_
  refine wp_iconst (nI 2) dX0_joinedWord_28 (by decide) ?_
  refine wp_iand dX0_joinedWord_29 ?_
  refine wp_if_eq 45 dX0_joinedWord_30 (by decide) (fun c => ?_) (fun c => ?_)
  · replace h := h.1 c
    exact wp_sub [0, 1, 2, 3] rfl h
  · replace h := h.2 c
    refine wp_lload 3 dX0_joinedWord_33 rfl ?_
    refine wp_lload_n 0 dX0_joinedWord_35 rfl rfl ?_
    refine wp_lload_n 1 dX0_joinedWord_36 rfl rfl ?_
    refine wp_ldc2 wk_X0_9 dX0_joinedWord_37 ?_
    refine wp_lxor dX0_joinedWord_40 ?_
    refine wp_land dX0_joinedWord_41 ?_
    refine wp_lor dX0_joinedWord_42 ?_
    refine wp_lstore (lv' := [(5, .long (l5 ||| (l0 &&& (l2 ^^^ (-1))))), (0, .long l0), (2, .long l2), (4, .int x4)]) dX0_joinedWord_43 (by decide) rfl ?_
    exact wp_sub [1, 2, 3, 0] rfl h
set_option maxRecDepth 100000 in
set_option maxHeartbeats 4000000 in
theorem R_X0_joinedWord_45 (g : Ev) (d : Nat) (l0 : Int64) (l2 : Int64) (x4 : Int32) (l5 : Int64) (σ : St) (K : Option Value → St → Prop) (h : (((x4 &&& (nI 4)) = nI 0 → WP g 0 45 (d + 1) M_X0_joinedWord 64 [(0, .long l0), (2, .long l2), (4, .int x4), (5, .long l5)] [] σ K) ∧ (¬ (x4 &&& (nI 4)) = nI 0 → WP g 0 45 (d + 1) M_X0_joinedWord 64 [(0, .long l0), (2, .long l2), (4, .int x4), (5, .long (l5 ||| ((l0 ^^^ (-1)) &&& l2)))] [] σ K))) : WP g 0 45 (d + 1) M_X0_joinedWord 45 [(0, .long l0), (2, .long l2), (4, .int x4), (5, .long l5)] [] σ K := by
  refine wp_iload 2 dX0_joinedWord_45 rfl ?_
  refine wp_iconst (nI 4) dX0_joinedWord_47 (by decide) ?_
  refine wp_iand dX0_joinedWord_48 ?_
  refine wp_if_eq 64 dX0_joinedWord_49 (by decide) (fun c => ?_) (fun c => ?_)
  · replace h := h.1 c
    exact wp_sub [0, 1, 2, 3] rfl h
  · replace h := h.2 c
    refine wp_lload 3 dX0_joinedWord_52 rfl ?_
    refine wp_lload_n 0 dX0_joinedWord_54 rfl rfl ?_
    refine wp_ldc2 wk_X0_9 dX0_joinedWord_55 ?_
    refine wp_lxor dX0_joinedWord_58 ?_
    refine wp_lload_n 1 dX0_joinedWord_59 rfl rfl ?_
    refine wp_land dX0_joinedWord_60 ?_
    refine wp_lor dX0_joinedWord_61 ?_
    refine wp_lstore (lv' := [(5, .long (l5 ||| ((l0 ^^^ (-1)) &&& l2))), (0, .long l0), (2, .long l2), (4, .int x4)]) dX0_joinedWord_62 (by decide) rfl ?_
    exact wp_sub [1, 2, 3, 0] rfl h
set_option maxRecDepth 100000 in
set_option maxHeartbeats 4000000 in
theorem R_X0_joinedWord_64 (g : Ev) (d : Nat) (l0 : Int64) (l2 : Int64) (x4 : Int32) (l5 : Int64) (σ : St) (K : Option Value → St → Prop) (h : (((x4 &&& (nI 8)) = nI 0 → WP g 0 45 (d + 1) M_X0_joinedWord 80 [(5, .long l5)] [] σ K) ∧ (¬ (x4 &&& (nI 8)) = nI 0 → WP g 0 45 (d + 1) M_X0_joinedWord 80 [(5, .long (l5 ||| (l0 &&& l2)))] [] σ K))) : WP g 0 45 (d + 1) M_X0_joinedWord 64 [(0, .long l0), (2, .long l2), (4, .int x4), (5, .long l5)] [] σ K := by
  refine wp_iload 2 dX0_joinedWord_64 rfl ?_
  refine wp_bipush (nI 8) dX0_joinedWord_66 (by decide) ?_
  refine wp_iand dX0_joinedWord_68 ?_
  refine wp_if_eq 80 dX0_joinedWord_69 (by decide) (fun c => ?_) (fun c => ?_)
  · replace h := h.1 c
    exact wp_sub [3] rfl h
  · replace h := h.2 c
    refine wp_lload 3 dX0_joinedWord_72 rfl ?_
    refine wp_lload_n 0 dX0_joinedWord_74 rfl rfl ?_
    refine wp_lload_n 1 dX0_joinedWord_75 rfl rfl ?_
    refine wp_land dX0_joinedWord_76 ?_
    refine wp_lor dX0_joinedWord_77 ?_
    refine wp_lstore (lv' := [(5, .long (l5 ||| (l0 &&& l2))), (0, .long l0), (2, .long l2), (4, .int x4)]) dX0_joinedWord_78 (by decide) rfl ?_
    exact wp_sub [0] rfl h
set_option maxRecDepth 100000 in
set_option maxHeartbeats 4000000 in
theorem R_X0_joinedWord_80 (g : Ev) (d : Nat) (l5 : Int64) (σ : St) (K : Option Value → St → Prop) (h : K (some (.long l5)) σ) : WP g 0 45 (d + 1) M_X0_joinedWord 80 [(5, .long l5)] [] σ K := by
  refine wp_lload 0 dX0_joinedWord_80 rfl ?_
  exact wp_lret rfl dX0_joinedWord_82 h
set_option maxRecDepth 100000 in
set_option maxHeartbeats 4000000 in
theorem E_X0_chosenWord (g : Ev) (d : Nat) (l0 : Int64) (l2 : Int64) (l4 : Int64) (σ : St) (K : Option Value → St → Prop) (h : K (some (.long ((l0 &&& l2) ||| ((l0 ^^^ (-1)) &&& l4)))) σ) : Runs g 0 45 (d + 1) M_X0_chosenWord [.long l0, .long l2, .long l4] σ K := by
  refine Runs.of (by decide) (Nat.le_of_ble_eq_true rfl) ?_
  show WP g 0 45 (d + 1) M_X0_chosenWord 0 [(0, .long l0), (2, .long l2), (4, .long l4)] [] σ K
  refine wp_lload_n 0 dX0_chosenWord_0 rfl rfl ?_
  refine wp_lload_n 1 dX0_chosenWord_1 rfl rfl ?_
  refine wp_land dX0_chosenWord_2 ?_
  refine wp_lload_n 0 dX0_chosenWord_3 rfl rfl ?_
  refine wp_ldc2 wk_X0_9 dX0_chosenWord_4 ?_
  refine wp_lxor dX0_chosenWord_7 ?_
  refine wp_lload 2 dX0_chosenWord_8 rfl ?_
  refine wp_land dX0_chosenWord_10 ?_
  refine wp_lor dX0_chosenWord_11 ?_
  exact wp_lret rfl dX0_chosenWord_12 h
set_option maxRecDepth 100000 in
set_option maxHeartbeats 4000000 in
theorem E_X0_fixedWord (g : Ev) (d : Nat) (k0 : Nat) (x1 : Int32) (x2 : Int32) (x3 : Int32) (σ : St) (K : Option Value → St → Prop) (h : ((x2 < (nI 6) → ((x3 = nI 0 → vp_in x1 (lenJ k0) ∧ vp_in x2 6 ∧ K (some (.long (((sL σ k0 x1.toNatClampNeg) &&& ((fONE x2.toNatClampNeg) ^^^ (-1))) ||| (jlshl ((sL σ k0 x1.toNatClampNeg) &&& ((fONE x2.toNatClampNeg) ^^^ (-1))) (jshl (nI 1) x2))))) σ) ∧ (¬ x3 = nI 0 → vp_in x1 (lenJ k0) ∧ vp_in x2 6 ∧ K (some (.long (((sL σ k0 x1.toNatClampNeg) &&& (fONE x2.toNatClampNeg)) ||| (jlushr ((sL σ k0 x1.toNatClampNeg) &&& (fONE x2.toNatClampNeg)) (jshl (nI 1) x2))))) σ))) ∧ (¬ x2 < (nI 6) → ((x3 = nI 0 → vp_in (x1 &&& ((jshl (nI 1) (x2 - (nI 6))) ^^^ (-1))) (lenJ k0) ∧ K (some (.long (sL σ k0 (x1 &&& ((jshl (nI 1) (x2 - (nI 6))) ^^^ (-1))).toNatClampNeg))) σ) ∧ (¬ x3 = nI 0 → vp_in (x1 ||| (jshl (nI 1) (x2 - (nI 6)))) (lenJ k0) ∧ K (some (.long (sL σ k0 (x1 ||| (jshl (nI 1) (x2 - (nI 6)))).toNatClampNeg))) σ))))) : Runs g 0 45 (d + 1) M_X0_fixedWord [.ref (eA g k0), .int x1, .int x2, .int x3] σ K := by
  refine Runs.of (by decide) (Nat.le_of_ble_eq_true rfl) ?_
  show WP g 0 45 (d + 1) M_X0_fixedWord 0 [(0, .ref (eA g k0)), (1, .int x1), (2, .int x2), (3, .int x3)] [] σ K
  refine wp_iload_n 2 dX0_fixedWord_0 rfl rfl ?_
  refine wp_bipush (nI 6) dX0_fixedWord_1 (by decide) ?_
  refine wp_icmp_lt 34 dX0_fixedWord_3 (by decide) (fun c => ?_) (fun c => ?_)
  · replace h := h.1 c
    refine wp_iconst (nI 1) dX0_fixedWord_34 (by decide) ?_
    refine wp_iload_n 2 dX0_fixedWord_35 rfl rfl ?_
    refine wp_ishl dX0_fixedWord_36 ?_
    refine wp_istore (lv' := [(4, .int (jshl (nI 1) x2)), (0, .ref (eA g k0)), (1, .int x1), (2, .int x2), (3, .int x3)]) dX0_fixedWord_37 (by decide) rfl ?_
    refine wp_iload_n 4 dX0_fixedWord_39 rfl rfl ?_
    refine wp_if_eq 63 dX0_fixedWord_40 (by decide) (fun c => ?_) (fun c => ?_)
    · replace h := h.1 c
      refine wp_aload_n 1 dX0_fixedWord_63 rfl rfl ?_
      refine wp_iload_n 2 dX0_fixedWord_64 rfl rfl ?_
      refine wp_lald (Nat.zero_le _) (lenJ_hi h.1) dX0_fixedWord_65 h.1 ?_
      replace h := h.2
      refine wp_gets0 wf_X0_11 dX0_fixedWord_66 ?_
      refine wp_iload_n 3 dX0_fixedWord_69 rfl rfl ?_
      refine wp_tl dX0_fixedWord_70 h.1 ?_
      replace h := h.2
      refine wp_ldc2 wk_X0_9 dX0_fixedWord_71 ?_
      refine wp_lxor dX0_fixedWord_74 ?_
      refine wp_land dX0_fixedWord_75 ?_
      refine wp_lstore (lv' := [(5, .long ((sL σ k0 x1.toNatClampNeg) &&& ((fONE x2.toNatClampNeg) ^^^ (-1)))), (4, .int (jshl (nI 1) x2)), (0, .ref (eA g k0)), (1, .int x1), (2, .int x2), (3, .int x3)]) dX0_fixedWord_76 (by decide) rfl ?_
      refine wp_lload 0 dX0_fixedWord_78 rfl ?_
      refine wp_lload 0 dX0_fixedWord_80 rfl ?_
      refine wp_iload 1 dX0_fixedWord_82 rfl ?_
      refine wp_lshl dX0_fixedWord_84 ?_
      refine wp_lor dX0_fixedWord_85 ?_
      exact wp_lret rfl dX0_fixedWord_86 h
    · replace h := h.2 c
      refine wp_aload_n 1 dX0_fixedWord_43 rfl rfl ?_
      refine wp_iload_n 2 dX0_fixedWord_44 rfl rfl ?_
      refine wp_lald (Nat.zero_le _) (lenJ_hi h.1) dX0_fixedWord_45 h.1 ?_
      replace h := h.2
      refine wp_gets0 wf_X0_11 dX0_fixedWord_46 ?_
      refine wp_iload_n 3 dX0_fixedWord_49 rfl rfl ?_
      refine wp_tl dX0_fixedWord_50 h.1 ?_
      replace h := h.2
      refine wp_land dX0_fixedWord_51 ?_
      refine wp_lstore (lv' := [(5, .long ((sL σ k0 x1.toNatClampNeg) &&& (fONE x2.toNatClampNeg))), (4, .int (jshl (nI 1) x2)), (0, .ref (eA g k0)), (1, .int x1), (2, .int x2), (3, .int x3)]) dX0_fixedWord_52 (by decide) rfl ?_
      refine wp_lload 0 dX0_fixedWord_54 rfl ?_
      refine wp_lload 0 dX0_fixedWord_56 rfl ?_
      refine wp_iload 1 dX0_fixedWord_58 rfl ?_
      refine wp_lushr dX0_fixedWord_60 ?_
      refine wp_lor dX0_fixedWord_61 ?_
      exact wp_lret rfl dX0_fixedWord_62 h
  · replace h := h.2 c
    refine wp_iconst (nI 1) dX0_fixedWord_6 (by decide) ?_
    refine wp_iload_n 2 dX0_fixedWord_7 rfl rfl ?_
    refine wp_bipush (nI 6) dX0_fixedWord_8 (by decide) ?_
    refine wp_isub dX0_fixedWord_10 ?_
    refine wp_ishl dX0_fixedWord_11 ?_
    refine wp_istore (lv' := [(4, .int (jshl (nI 1) (x2 - (nI 6)))), (0, .ref (eA g k0)), (1, .int x1), (2, .int x2), (3, .int x3)]) dX0_fixedWord_12 (by decide) rfl ?_
    refine wp_aload_n 1 dX0_fixedWord_14 rfl rfl ?_
    refine wp_iload_n 4 dX0_fixedWord_15 rfl rfl ?_
    refine wp_if_eq 26 dX0_fixedWord_16 (by decide) (fun c => ?_) (fun c => ?_)
    · replace h := h.1 c
      refine wp_iload_n 2 dX0_fixedWord_26 rfl rfl ?_
      refine wp_iload 0 dX0_fixedWord_27 rfl ?_
      refine wp_iconst (-1) dX0_fixedWord_29 (by decide) ?_
      refine wp_ixor dX0_fixedWord_30 ?_
      refine wp_iand dX0_fixedWord_31 ?_
      refine wp_lald (Nat.zero_le _) (lenJ_hi h.1) dX0_fixedWord_32 h.1 ?_
      replace h := h.2
      exact wp_lret rfl dX0_fixedWord_33 h
    · replace h := h.2 c
      refine wp_iload_n 2 dX0_fixedWord_19 rfl rfl ?_
      refine wp_iload 0 dX0_fixedWord_20 rfl ?_
      refine wp_ior dX0_fixedWord_22 ?_
      refine wp_goto 32 dX0_fixedWord_23 (by decide) ?_
      refine wp_lald (Nat.zero_le _) (lenJ_hi h.1) dX0_fixedWord_32 h.1 ?_
      replace h := h.2
      exact wp_lret rfl dX0_fixedWord_33 h
set_option maxRecDepth 100000 in
set_option maxHeartbeats 4000000 in
theorem E_X0_alike (g : Ev) (d : Nat) (k0 : Nat) (x1 : Int32) (k2 : Nat) (x3 : Int32) (x4 : Int32) (σ : St) (K : Option Value → St → Prop) (h : (((nI 64) ≤ x4 → WP g 0 45 (d + 1) M_X0_alike 53 [(0, .ref (eA g k0)), (2, .ref (eA g k2)), (5, .int (jshr x1 (nI 6))), (6, .int (jshr x3 (nI 6))), (7, .int (jshr x4 (nI 6))), (8, .int (nI 0))] [] σ K) ∧ (¬ (nI 64) ≤ x4 → Runs g 0 45 d M_X0_shortPart [.ref (eA g k0), .int x1, .int x4] σ (fun r1 σ1 => ∃ v1 : Int64, r1 = some (.long v1) ∧ Runs g 0 45 d M_X0_shortPart [.ref (eA g k2), .int x3, .int x4] σ1 (fun r2 σ2 => ∃ v2 : Int64, r2 = some (.long v2) ∧ ((¬ (lg_cmp v1 v2) = nI 0 → K (some (.int (nI 0))) σ2) ∧ ((lg_cmp v1 v2) = nI 0 → K (some (.int (nI 1))) σ2))))))) : Runs g 0 45 (d + 1) M_X0_alike [.ref (eA g k0), .int x1, .ref (eA g k2), .int x3, .int x4] σ K := by
  refine Runs.of (by decide) (Nat.le_of_ble_eq_true rfl) ?_
  show WP g 0 45 (d + 1) M_X0_alike 0 [(0, .ref (eA g k0)), (1, .int x1), (2, .ref (eA g k2)), (3, .int x3), (4, .int x4)] [] σ K
  refine wp_iload 4 dX0_alike_0 rfl ?_
  refine wp_bipush (nI 64) dX0_alike_2 (by decide) ?_
  refine wp_icmp_ge 31 dX0_alike_4 (by decide) (fun c => ?_) (fun c => ?_)
  · replace h := h.1 c
    refine wp_iload_n 1 dX0_alike_31 rfl rfl ?_
    refine wp_bipush (nI 6) dX0_alike_32 (by decide) ?_
    refine wp_ishr dX0_alike_34 ?_
    refine wp_istore (lv' := [(5, .int (jshr x1 (nI 6))), (0, .ref (eA g k0)), (1, .int x1), (2, .ref (eA g k2)), (3, .int x3), (4, .int x4)]) dX0_alike_35 (by decide) rfl ?_
    refine wp_iload_n 4 dX0_alike_37 rfl rfl ?_
    refine wp_bipush (nI 6) dX0_alike_38 (by decide) ?_
    refine wp_ishr dX0_alike_40 ?_
    refine wp_istore (lv' := [(6, .int (jshr x3 (nI 6))), (5, .int (jshr x1 (nI 6))), (0, .ref (eA g k0)), (1, .int x1), (2, .ref (eA g k2)), (3, .int x3), (4, .int x4)]) dX0_alike_41 (by decide) rfl ?_
    refine wp_iload 6 dX0_alike_43 rfl ?_
    refine wp_bipush (nI 6) dX0_alike_45 (by decide) ?_
    refine wp_ishr dX0_alike_47 ?_
    refine wp_istore (lv' := [(7, .int (jshr x4 (nI 6))), (6, .int (jshr x3 (nI 6))), (5, .int (jshr x1 (nI 6))), (0, .ref (eA g k0)), (1, .int x1), (2, .ref (eA g k2)), (3, .int x3), (4, .int x4)]) dX0_alike_48 (by decide) rfl ?_
    refine wp_iconst (nI 0) dX0_alike_50 (by decide) ?_
    refine wp_istore (lv' := [(8, .int (nI 0)), (7, .int (jshr x4 (nI 6))), (6, .int (jshr x3 (nI 6))), (5, .int (jshr x1 (nI 6))), (0, .ref (eA g k0)), (1, .int x1), (2, .ref (eA g k2)), (3, .int x3), (4, .int x4)]) dX0_alike_51 (by decide) rfl ?_
    exact wp_sub [4, 6, 3, 2, 1, 0] rfl h
  · replace h := h.2 c
    refine wp_aload_n 0 dX0_alike_7 rfl rfl ?_
    refine wp_iload_n 1 dX0_alike_8 rfl rfl ?_
    refine wp_iload 4 dX0_alike_9 rfl ?_
    refine wp_callS [.ref (eA g k0), .int x1, .int x4] [] wc_X0_shortPart wm_X0_15 ws_X0_shortPart wi_X0 ok_X0_shortPart (by decide) (Nat.le_of_ble_eq_true rfl) dX0_alike_11 rfl h ?_
    rintro r1 σ1 ⟨v1, rfl, h⟩
    show WP g 0 45 (d + 1) M_X0_alike 14 [(0, .ref (eA g k0)), (1, .int x1), (2, .ref (eA g k2)), (3, .int x3), (4, .int x4)] [.long v1] σ1 K
    refine wp_aload_n 2 dX0_alike_14 rfl rfl ?_
    refine wp_iload_n 3 dX0_alike_15 rfl rfl ?_
    refine wp_iload 4 dX0_alike_16 rfl ?_
    refine wp_callS [.ref (eA g k2), .int x3, .int x4] [.long v1] wc_X0_shortPart wm_X0_15 ws_X0_shortPart wi_X0 ok_X0_shortPart (by decide) (Nat.le_of_ble_eq_true rfl) dX0_alike_18 rfl h ?_
    rintro r2 σ2 ⟨v2, rfl, h⟩
    show WP g 0 45 (d + 1) M_X0_alike 21 [(0, .ref (eA g k0)), (1, .int x1), (2, .ref (eA g k2)), (3, .int x3), (4, .int x4)] [.long v2, .long v1] σ2 K
    refine wp_lcmp dX0_alike_21 ?_
    refine wp_if_ne 29 dX0_alike_22 (by decide) (fun c => ?_) (fun c => ?_)
    · replace h := h.1 c
      refine wp_iconst (nI 0) dX0_alike_29 (by decide) ?_
      exact wp_zret rfl rfl dX0_alike_30 h
    · replace h := h.2 c
      refine wp_iconst (nI 1) dX0_alike_25 (by decide) ?_
      refine wp_goto 30 dX0_alike_26 (by decide) ?_
      exact wp_zret rfl rfl dX0_alike_30 h
set_option maxRecDepth 100000 in
set_option maxHeartbeats 4000000 in
theorem R_X0_alike_53 (g : Ev) (d : Nat) (k0 : Nat) (k2 : Nat) (x5 : Int32) (x6 : Int32) (x7 : Int32) (x8 : Int32) (σ : St) (K : Option Value → St → Prop) (h : ((x7 ≤ x8 → K (some (.int (nI 1))) σ) ∧ (¬ x7 ≤ x8 → vp_in (x5 + x8) (lenJ k0) ∧ vp_in (x6 + x8) (lenJ k2) ∧ (((lg_cmp (sL σ k0 (x5 + x8).toNatClampNeg) (sL σ k2 (x6 + x8).toNatClampNeg)) = nI 0 → WP g 0 45 (d + 1) M_X0_alike 53 [(0, .ref (eA g k0)), (2, .ref (eA g k2)), (5, .int x5), (6, .int x6), (7, .int x7), (8, .int (x8 + (nI 1)))] [] σ K) ∧ (¬ (lg_cmp (sL σ k0 (x5 + x8).toNatClampNeg) (sL σ k2 (x6 + x8).toNatClampNeg)) = nI 0 → K (some (.int (nI 0))) σ))))) : WP g 0 45 (d + 1) M_X0_alike 53 [(0, .ref (eA g k0)), (2, .ref (eA g k2)), (5, .int x5), (6, .int x6), (7, .int x7), (8, .int x8)] [] σ K := by
  refine wp_iload 5 dX0_alike_53 rfl ?_
  refine wp_iload 4 dX0_alike_55 rfl ?_
  refine wp_icmp_ge 86 dX0_alike_57 (by decide) (fun c => ?_) (fun c => ?_)
  · replace h := h.1 c
    refine wp_iconst (nI 1) dX0_alike_86 (by decide) ?_
    exact wp_zret rfl rfl dX0_alike_87 h
  · replace h := h.2 c
    refine wp_aload_n 0 dX0_alike_60 rfl rfl ?_
    refine wp_iload 2 dX0_alike_61 rfl ?_
    refine wp_iload 5 dX0_alike_63 rfl ?_
    refine wp_iadd dX0_alike_65 ?_
    refine wp_lald (Nat.zero_le _) (lenJ_hi h.1) dX0_alike_66 h.1 ?_
    replace h := h.2
    refine wp_aload_n 1 dX0_alike_67 rfl rfl ?_
    refine wp_iload 3 dX0_alike_68 rfl ?_
    refine wp_iload 5 dX0_alike_70 rfl ?_
    refine wp_iadd dX0_alike_72 ?_
    refine wp_lald (Nat.zero_le _) (lenJ_hi h.1) dX0_alike_73 h.1 ?_
    replace h := h.2
    refine wp_lcmp dX0_alike_74 ?_
    refine wp_if_eq 80 dX0_alike_75 (by decide) (fun c => ?_) (fun c => ?_)
    · replace h := h.1 c
      refine wp_iinc 5 (nI 1) (lv' := [(8, .int (x8 + (nI 1))), (0, .ref (eA g k0)), (2, .ref (eA g k2)), (5, .int x5), (6, .int x6), (7, .int x7)]) dX0_alike_80 (by decide) rfl (by decide) rfl ?_
      refine wp_goto 53 dX0_alike_83 (by decide) ?_
      exact wp_sub [1, 2, 3, 4, 5, 0] rfl h
    · replace h := h.2 c
      refine wp_iconst (nI 0) dX0_alike_78 (by decide) ?_
      exact wp_zret rfl rfl dX0_alike_79 h
set_option maxRecDepth 100000 in
set_option maxHeartbeats 4000000 in
theorem E_X0_shortPart (g : Ev) (d : Nat) (k0 : Nat) (x1 : Int32) (x2 : Int32) (σ : St) (K : Option Value → St → Prop) (h : vp_in (jshr x1 (nI 6)) (lenJ k0) ∧ K (some (.long ((jlushr (sL σ k0 (jshr x1 (nI 6)).toNatClampNeg) (x1 &&& (nI 63))) &&& ((jlshl 1 x2) - 1)))) σ) : Runs g 0 45 (d + 1) M_X0_shortPart [.ref (eA g k0), .int x1, .int x2] σ K := by
  refine Runs.of (by decide) (Nat.le_of_ble_eq_true rfl) ?_
  show WP g 0 45 (d + 1) M_X0_shortPart 0 [(0, .ref (eA g k0)), (1, .int x1), (2, .int x2)] [] σ K
  refine wp_aload_n 0 dX0_shortPart_0 rfl rfl ?_
  refine wp_iload_n 1 dX0_shortPart_1 rfl rfl ?_
  refine wp_bipush (nI 6) dX0_shortPart_2 (by decide) ?_
  refine wp_ishr dX0_shortPart_4 ?_
  refine wp_lald (Nat.zero_le _) (lenJ_hi h.1) dX0_shortPart_5 h.1 ?_
  replace h := h.2
  refine wp_iload_n 1 dX0_shortPart_6 rfl rfl ?_
  refine wp_bipush (nI 63) dX0_shortPart_7 (by decide) ?_
  refine wp_iand dX0_shortPart_9 ?_
  refine wp_lushr dX0_shortPart_10 ?_
  refine wp_lconst 1 dX0_shortPart_11 (by decide) ?_
  refine wp_iload_n 2 dX0_shortPart_12 rfl rfl ?_
  refine wp_lshl dX0_shortPart_13 ?_
  refine wp_lconst 1 dX0_shortPart_14 (by decide) ?_
  refine wp_lsub dX0_shortPart_15 ?_
  refine wp_land dX0_shortPart_16 ?_
  exact wp_lret rfl dX0_shortPart_17 h
set_option maxRecDepth 100000 in
set_option maxHeartbeats 4000000 in
theorem E_X0_hash (g : Ev) (d : Nat) (k0 : Nat) (x1 : Int32) (x2 : Int32) (σ : St) (K : Option Value → St → Prop) (h : (((nI 64) ≤ x2 → WP g 0 45 (d + 1) M_X0_hash 38 [(0, .ref (eA g k0)), (3, .int (jshr x1 (nI 6))), (4, .int (jshr x2 (nI 6))), (5, .long 0), (7, .int (nI 0))] [] σ K) ∧ (¬ (nI 64) ≤ x2 → Runs g 0 45 d M_X0_shortPart [.ref (eA g k0), .int x1, .int x2] σ (fun r1 σ1 => ∃ v1 : Int64, r1 = some (.long v1) ∧ K (some (.int ((jlushr (v1 * (-7046029254386353131)) (nI 32)) : Int64).toInt32)) σ1)))) : Runs g 0 45 (d + 1) M_X0_hash [.ref (eA g k0), .int x1, .int x2] σ K := by
  refine Runs.of (by decide) (Nat.le_of_ble_eq_true rfl) ?_
  show WP g 0 45 (d + 1) M_X0_hash 0 [(0, .ref (eA g k0)), (1, .int x1), (2, .int x2)] [] σ K
  refine wp_iload_n 2 dX0_hash_0 rfl rfl ?_
  refine wp_bipush (nI 64) dX0_hash_1 (by decide) ?_
  refine wp_icmp_ge 21 dX0_hash_3 (by decide) (fun c => ?_) (fun c => ?_)
  · replace h := h.1 c
    refine wp_iload_n 1 dX0_hash_21 rfl rfl ?_
    refine wp_bipush (nI 6) dX0_hash_22 (by decide) ?_
    refine wp_ishr dX0_hash_24 ?_
    refine wp_istore_n (lv' := [(3, .int (jshr x1 (nI 6))), (0, .ref (eA g k0)), (1, .int x1), (2, .int x2)]) dX0_hash_25 rfl (by decide) rfl ?_
    refine wp_iload_n 3 dX0_hash_26 rfl rfl ?_
    refine wp_bipush (nI 6) dX0_hash_27 (by decide) ?_
    refine wp_ishr dX0_hash_29 ?_
    refine wp_istore (lv' := [(4, .int (jshr x2 (nI 6))), (3, .int (jshr x1 (nI 6))), (0, .ref (eA g k0)), (1, .int x1), (2, .int x2)]) dX0_hash_30 (by decide) rfl ?_
    refine wp_lconst 0 dX0_hash_32 (by decide) ?_
    refine wp_lstore (lv' := [(5, .long 0), (4, .int (jshr x2 (nI 6))), (3, .int (jshr x1 (nI 6))), (0, .ref (eA g k0)), (1, .int x1), (2, .int x2)]) dX0_hash_33 (by decide) rfl ?_
    refine wp_iconst (nI 0) dX0_hash_35 (by decide) ?_
    refine wp_istore (lv' := [(7, .int (nI 0)), (5, .long 0), (4, .int (jshr x2 (nI 6))), (3, .int (jshr x1 (nI 6))), (0, .ref (eA g k0)), (1, .int x1), (2, .int x2)]) dX0_hash_36 (by decide) rfl ?_
    exact wp_sub [4, 3, 2, 1, 0] rfl h
  · replace h := h.2 c
    refine wp_aload_n 0 dX0_hash_6 rfl rfl ?_
    refine wp_iload_n 1 dX0_hash_7 rfl rfl ?_
    refine wp_iload_n 2 dX0_hash_8 rfl rfl ?_
    refine wp_callS [.ref (eA g k0), .int x1, .int x2] [] wc_X0_shortPart wm_X0_15 ws_X0_shortPart wi_X0 ok_X0_shortPart (by decide) (Nat.le_of_ble_eq_true rfl) dX0_hash_9 rfl h ?_
    rintro r1 σ1 ⟨v1, rfl, h⟩
    show WP g 0 45 (d + 1) M_X0_hash 12 [(0, .ref (eA g k0)), (1, .int x1), (2, .int x2)] [.long v1] σ1 K
    refine wp_ldc2 wk_X0_19 dX0_hash_12 ?_
    refine wp_lmul dX0_hash_15 ?_
    refine wp_bipush (nI 32) dX0_hash_16 (by decide) ?_
    refine wp_lushr dX0_hash_18 ?_
    refine wp_l2i dX0_hash_19 ?_
    exact wp_iret rfl dX0_hash_20 h
set_option maxRecDepth 100000 in
set_option maxHeartbeats 4000000 in
theorem R_X0_hash_38 (g : Ev) (d : Nat) (k0 : Nat) (x3 : Int32) (x4 : Int32) (l5 : Int64) (x7 : Int32) (σ : St) (K : Option Value → St → Prop) (h : ((x4 ≤ x7 → K (some (.int (l5 : Int64).toInt32)) σ) ∧ (¬ x4 ≤ x7 → vp_in (x3 + x7) (lenJ k0) ∧ WP g 0 45 (d + 1) M_X0_hash 38 [(0, .ref (eA g k0)), (3, .int x3), (4, .int x4), (5, .long (((l5 ^^^ (sL σ k0 (x3 + x7).toNatClampNeg)) * (-7046029254386353131)) ^^^ (jlushr ((l5 ^^^ (sL σ k0 (x3 + x7).toNatClampNeg)) * (-7046029254386353131)) (nI 32)))), (7, .int (x7 + (nI 1)))] [] σ K))) : WP g 0 45 (d + 1) M_X0_hash 38 [(0, .ref (eA g k0)), (3, .int x3), (4, .int x4), (5, .long l5), (7, .int x7)] [] σ K := by
  refine wp_iload 4 dX0_hash_38 rfl ?_
  refine wp_iload 2 dX0_hash_40 rfl ?_
  refine wp_icmp_ge 76 dX0_hash_42 (by decide) (fun c => ?_) (fun c => ?_)
  · replace h := h.1 c
    refine wp_lload 3 dX0_hash_76 rfl ?_
    refine wp_l2i dX0_hash_78 ?_
    exact wp_iret rfl dX0_hash_79 h
  · replace h := h.2 c
    refine wp_lload 3 dX0_hash_45 rfl ?_
    refine wp_aload_n 0 dX0_hash_47 rfl rfl ?_
    refine wp_iload_n 1 dX0_hash_48 rfl rfl ?_
    refine wp_iload 4 dX0_hash_49 rfl ?_
    refine wp_iadd dX0_hash_51 ?_
    refine wp_lald (Nat.zero_le _) (lenJ_hi h.1) dX0_hash_52 h.1 ?_
    replace h := h.2
    refine wp_lxor dX0_hash_53 ?_
    refine wp_ldc2 wk_X0_19 dX0_hash_54 ?_
    refine wp_lmul dX0_hash_57 ?_
    refine wp_lstore (lv' := [(5, .long ((l5 ^^^ (sL σ k0 (x3 + x7).toNatClampNeg)) * (-7046029254386353131))), (0, .ref (eA g k0)), (3, .int x3), (4, .int x4), (7, .int x7)]) dX0_hash_58 (by decide) rfl ?_
    refine wp_lload 0 dX0_hash_60 rfl ?_
    refine wp_lload 0 dX0_hash_62 rfl ?_
    refine wp_bipush (nI 32) dX0_hash_64 (by decide) ?_
    refine wp_lushr dX0_hash_66 ?_
    refine wp_lxor dX0_hash_67 ?_
    refine wp_lstore (lv' := [(5, .long (((l5 ^^^ (sL σ k0 (x3 + x7).toNatClampNeg)) * (-7046029254386353131)) ^^^ (jlushr ((l5 ^^^ (sL σ k0 (x3 + x7).toNatClampNeg)) * (-7046029254386353131)) (nI 32)))), (0, .ref (eA g k0)), (3, .int x3), (4, .int x4), (7, .int x7)]) dX0_hash_68 (by decide) rfl ?_
    refine wp_iinc 4 (nI 1) (lv' := [(7, .int (x7 + (nI 1))), (5, .long (((l5 ^^^ (sL σ k0 (x3 + x7).toNatClampNeg)) * (-7046029254386353131)) ^^^ (jlushr ((l5 ^^^ (sL σ k0 (x3 + x7).toNatClampNeg)) * (-7046029254386353131)) (nI 32)))), (0, .ref (eA g k0)), (3, .int x3), (4, .int x4)]) dX0_hash_70 (by decide) rfl (by decide) rfl ?_
    refine wp_goto 38 dX0_hash_73 (by decide) ?_
    exact wp_sub [2, 3, 4, 1, 0] rfl h
set_option maxRecDepth 100000 in
set_option maxHeartbeats 4000000 in
theorem E_X0_exchange (g : Ev) (d : Nat) (k0 : Nat) (x1 : Int32) (x2 : Int32) (x3 : Int32) (σ : St) (K : Option Value → St → Prop) (h : ((¬ (if x2 < x3 then x3 else x2) = (if x3 < x2 then x3 else x2) → (((nI 6) ≤ (if x2 < x3 then x3 else x2) → (((nI 6) ≤ (if x3 < x2 then x3 else x2) → Runs g 0 45 d M_X0_exchangeWords [.ref (eA g k0), .int x1, .int (if x2 < x3 then x3 else x2), .int (if x3 < x2 then x3 else x2)] σ (fun r1 σ1 => r1 = none ∧ K none σ1)) ∧ (¬ (nI 6) ≤ (if x3 < x2 then x3 else x2) → Runs g 0 45 d M_X0_exchangeAcrossWords [.ref (eA g k0), .int x1, .int (if x2 < x3 then x3 else x2), .int (if x3 < x2 then x3 else x2)] σ (fun r2 σ2 => r2 = none ∧ K none σ2)))) ∧ (¬ (nI 6) ≤ (if x2 < x3 then x3 else x2) → Runs g 0 45 d M_X0_exchangeInWords [.ref (eA g k0), .int x1, .int (if x2 < x3 then x3 else x2), .int (if x3 < x2 then x3 else x2)] σ (fun r3 σ3 => r3 = none ∧ K none σ3)))) ∧ ((if x2 < x3 then x3 else x2) = (if x3 < x2 then x3 else x2) → K none σ))) : Runs g 0 45 (d + 1) M_X0_exchange [.ref (eA g k0), .int x1, .int x2, .int x3] σ K := by
  refine Runs.of (by decide) (Nat.le_of_ble_eq_true rfl) ?_
  show WP g 0 45 (d + 1) M_X0_exchange 0 [(0, .ref (eA g k0)), (1, .int x1), (2, .int x2), (3, .int x3)] [] σ K
  refine wp_iload_n 2 dX0_exchange_0 rfl rfl ?_
  refine wp_iload_n 3 dX0_exchange_1 rfl rfl ?_
  refine wp_mmax wm_X0_21 ws_Math_max wi_Math wc_Math_max (Nat.le_of_ble_eq_true rfl) dX0_exchange_2 ?_
  refine wp_istore (lv' := [(4, .int (if x2 < x3 then x3 else x2)), (0, .ref (eA g k0)), (1, .int x1), (2, .int x2), (3, .int x3)]) dX0_exchange_5 (by decide) rfl ?_
  refine wp_iload_n 3 dX0_exchange_7 rfl rfl ?_
  refine wp_iload_n 4 dX0_exchange_8 rfl rfl ?_
  refine wp_mmin wm_X0_27 ws_Math_min wi_Math wc_Math_min (Nat.le_of_ble_eq_true rfl) dX0_exchange_9 ?_
  refine wp_istore (lv' := [(5, .int (if x3 < x2 then x3 else x2)), (4, .int (if x2 < x3 then x3 else x2)), (0, .ref (eA g k0)), (1, .int x1), (2, .int x2), (3, .int x3)]) dX0_exchange_12 (by decide) rfl ?_
  refine wp_iload 1 dX0_exchange_14 rfl ?_
  refine wp_iload 0 dX0_exchange_16 rfl ?_
  refine wp_icmp_ne 22 dX0_exchange_18 (by decide) (fun c => ?_) (fun c => ?_)
  · replace h := h.1 c
    refine wp_iload 1 dX0_exchange_22 rfl ?_
    refine wp_bipush (nI 6) dX0_exchange_24 (by decide) ?_
    refine wp_icmp_ge 41 dX0_exchange_26 (by decide) (fun c => ?_) (fun c => ?_)
    · replace h := h.1 c
      refine wp_iload 0 dX0_exchange_41 rfl ?_
      refine wp_bipush (nI 6) dX0_exchange_43 (by decide) ?_
      refine wp_icmp_ge 60 dX0_exchange_45 (by decide) (fun c => ?_) (fun c => ?_)
      · replace h := h.1 c
        refine wp_aload_n 2 dX0_exchange_60 rfl rfl ?_
        refine wp_iload_n 3 dX0_exchange_61 rfl rfl ?_
        refine wp_iload 1 dX0_exchange_62 rfl ?_
        refine wp_iload 0 dX0_exchange_64 rfl ?_
        refine wp_callS [.ref (eA g k0), .int x1, .int (if x2 < x3 then x3 else x2), .int (if x3 < x2 then x3 else x2)] [] wc_X0_exchangeWords wm_X0_37 ws_X0_exchangeWords wi_X0 ok_X0_exchangeWords (by decide) (Nat.le_of_ble_eq_true rfl) dX0_exchange_66 rfl h ?_
        rintro r1 σ1 ⟨rfl, h⟩
        show WP g 0 45 (d + 1) M_X0_exchange 69 [(5, .int (if x3 < x2 then x3 else x2)), (4, .int (if x2 < x3 then x3 else x2)), (0, .ref (eA g k0)), (1, .int x1), (2, .int x2), (3, .int x3)] [] σ1 K
        exact wp_vret rfl dX0_exchange_69 h
      · replace h := h.2 c
        refine wp_aload_n 2 dX0_exchange_48 rfl rfl ?_
        refine wp_iload_n 3 dX0_exchange_49 rfl rfl ?_
        refine wp_iload 1 dX0_exchange_50 rfl ?_
        refine wp_iload 0 dX0_exchange_52 rfl ?_
        refine wp_callS [.ref (eA g k0), .int x1, .int (if x2 < x3 then x3 else x2), .int (if x3 < x2 then x3 else x2)] [] wc_X0_exchangeAcrossWords wm_X0_34 ws_X0_exchangeAcrossWords wi_X0 ok_X0_exchangeAcrossWords (by decide) (Nat.le_of_ble_eq_true rfl) dX0_exchange_54 rfl h ?_
        rintro r2 σ2 ⟨rfl, h⟩
        show WP g 0 45 (d + 1) M_X0_exchange 57 [(5, .int (if x3 < x2 then x3 else x2)), (4, .int (if x2 < x3 then x3 else x2)), (0, .ref (eA g k0)), (1, .int x1), (2, .int x2), (3, .int x3)] [] σ2 K
        refine wp_goto 69 dX0_exchange_57 (by decide) ?_
        exact wp_vret rfl dX0_exchange_69 h
    · replace h := h.2 c
      refine wp_aload_n 2 dX0_exchange_29 rfl rfl ?_
      refine wp_iload_n 3 dX0_exchange_30 rfl rfl ?_
      refine wp_iload 1 dX0_exchange_31 rfl ?_
      refine wp_iload 0 dX0_exchange_33 rfl ?_
      refine wp_callS [.ref (eA g k0), .int x1, .int (if x2 < x3 then x3 else x2), .int (if x3 < x2 then x3 else x2)] [] wc_X0_exchangeInWords wm_X0_30 ws_X0_exchangeInWords wi_X0 ok_X0_exchangeInWords (by decide) (Nat.le_of_ble_eq_true rfl) dX0_exchange_35 rfl h ?_
      rintro r3 σ3 ⟨rfl, h⟩
      show WP g 0 45 (d + 1) M_X0_exchange 38 [(5, .int (if x3 < x2 then x3 else x2)), (4, .int (if x2 < x3 then x3 else x2)), (0, .ref (eA g k0)), (1, .int x1), (2, .int x2), (3, .int x3)] [] σ3 K
      refine wp_goto 69 dX0_exchange_38 (by decide) ?_
      exact wp_vret rfl dX0_exchange_69 h
  · replace h := h.2 c
    exact wp_vret rfl dX0_exchange_21 h
set_option maxRecDepth 100000 in
set_option maxHeartbeats 4000000 in
theorem E_X0_exchangeInWords (g : Ev) (d : Nat) (k0 : Nat) (x1 : Int32) (x2 : Int32) (x3 : Int32) (σ : St) (K : Option Value → St → Prop) (h : vp_in x3 6 ∧ vp_in x2 6 ∧ WP g 0 45 (d + 1) M_X0_exchangeInWords 29 [(0, .ref (eA g k0)), (1, .int x1), (4, .int ((jshl (nI 1) x2) - (jshl (nI 1) x3))), (5, .long ((fONE x3.toNatClampNeg) &&& ((fONE x2.toNatClampNeg) ^^^ (-1)))), (7, .int (nI 0))] [] σ K) : Runs g 0 45 (d + 1) M_X0_exchangeInWords [.ref (eA g k0), .int x1, .int x2, .int x3] σ K := by
  refine Runs.of (by decide) (Nat.le_of_ble_eq_true rfl) ?_
  show WP g 0 45 (d + 1) M_X0_exchangeInWords 0 [(0, .ref (eA g k0)), (1, .int x1), (2, .int x2), (3, .int x3)] [] σ K
  refine wp_iconst (nI 1) dX0_exchangeInWords_0 (by decide) ?_
  refine wp_iload_n 2 dX0_exchangeInWords_1 rfl rfl ?_
  refine wp_ishl dX0_exchangeInWords_2 ?_
  refine wp_iconst (nI 1) dX0_exchangeInWords_3 (by decide) ?_
  refine wp_iload_n 3 dX0_exchangeInWords_4 rfl rfl ?_
  refine wp_ishl dX0_exchangeInWords_5 ?_
  refine wp_isub dX0_exchangeInWords_6 ?_
  refine wp_istore (lv' := [(4, .int ((jshl (nI 1) x2) - (jshl (nI 1) x3))), (0, .ref (eA g k0)), (1, .int x1), (2, .int x2), (3, .int x3)]) dX0_exchangeInWords_7 (by decide) rfl ?_
  refine wp_gets0 wf_X0_11 dX0_exchangeInWords_9 ?_
  refine wp_iload_n 4 dX0_exchangeInWords_12 rfl rfl ?_
  refine wp_tl dX0_exchangeInWords_13 h.1 ?_
  replace h := h.2
  refine wp_gets0 wf_X0_11 dX0_exchangeInWords_14 ?_
  refine wp_iload_n 3 dX0_exchangeInWords_17 rfl rfl ?_
  refine wp_tl dX0_exchangeInWords_18 h.1 ?_
  replace h := h.2
  refine wp_ldc2 wk_X0_9 dX0_exchangeInWords_19 ?_
  refine wp_lxor dX0_exchangeInWords_22 ?_
  refine wp_land dX0_exchangeInWords_23 ?_
  refine wp_lstore (lv' := [(5, .long ((fONE x3.toNatClampNeg) &&& ((fONE x2.toNatClampNeg) ^^^ (-1)))), (4, .int ((jshl (nI 1) x2) - (jshl (nI 1) x3))), (0, .ref (eA g k0)), (1, .int x1), (2, .int x2), (3, .int x3)]) dX0_exchangeInWords_24 (by decide) rfl ?_
  refine wp_iconst (nI 0) dX0_exchangeInWords_26 (by decide) ?_
  refine wp_istore (lv' := [(7, .int (nI 0)), (5, .long ((fONE x3.toNatClampNeg) &&& ((fONE x2.toNatClampNeg) ^^^ (-1)))), (4, .int ((jshl (nI 1) x2) - (jshl (nI 1) x3))), (0, .ref (eA g k0)), (1, .int x1), (2, .int x2), (3, .int x3)]) dX0_exchangeInWords_27 (by decide) rfl ?_
  exact wp_sub [3, 4, 2, 1, 0] rfl h
set_option maxRecDepth 100000 in
set_option maxHeartbeats 4000000 in
theorem R_X0_exchangeInWords_29 (g : Ev) (d : Nat) (k0 : Nat) (x1 : Int32) (x4 : Int32) (l5 : Int64) (x7 : Int32) (σ : St) (K : Option Value → St → Prop) (h : ((x1 ≤ x7 → K none σ) ∧ (¬ x1 ≤ x7 → vp_in x7 (lenJ k0) ∧ vp_in x7 (lenJ k0) ∧ WP g 0 45 (d + 1) M_X0_exchangeInWords 29 [(0, .ref (eA g k0)), (1, .int x1), (4, .int x4), (5, .long l5), (7, .int (x7 + (nI 1)))] [] (uL σ k0 x7.toNatClampNeg (((sL σ k0 x7.toNatClampNeg) ^^^ (((jlushr (sL σ k0 x7.toNatClampNeg) x4) ^^^ (sL σ k0 x7.toNatClampNeg)) &&& l5)) ^^^ (jlshl (((jlushr (sL σ k0 x7.toNatClampNeg) x4) ^^^ (sL σ k0 x7.toNatClampNeg)) &&& l5) x4))) K))) : WP g 0 45 (d + 1) M_X0_exchangeInWords 29 [(0, .ref (eA g k0)), (1, .int x1), (4, .int x4), (5, .long l5), (7, .int x7)] [] σ K := by
  refine wp_iload 4 dX0_exchangeInWords_29 rfl ?_
  refine wp_iload_n 1 dX0_exchangeInWords_31 rfl rfl ?_
  refine wp_icmp_ge 75 dX0_exchangeInWords_32 (by decide) (fun c => ?_) (fun c => ?_)
  · replace h := h.1 c
    exact wp_vret rfl dX0_exchangeInWords_75 h
  · replace h := h.2 c
    refine wp_aload_n 0 dX0_exchangeInWords_35 rfl rfl ?_
    refine wp_iload 4 dX0_exchangeInWords_36 rfl ?_
    refine wp_lald (Nat.zero_le _) (lenJ_hi h.1) dX0_exchangeInWords_38 h.1 ?_
    replace h := h.2
    refine wp_lstore (lv' := [(8, .long (sL σ k0 x7.toNatClampNeg)), (0, .ref (eA g k0)), (1, .int x1), (4, .int x4), (5, .long l5), (7, .int x7)]) dX0_exchangeInWords_39 (by decide) rfl ?_
    refine wp_lload 0 dX0_exchangeInWords_41 rfl ?_
    refine wp_iload 3 dX0_exchangeInWords_43 rfl ?_
    refine wp_lushr dX0_exchangeInWords_45 ?_
    refine wp_lload 0 dX0_exchangeInWords_46 rfl ?_
    refine wp_lxor dX0_exchangeInWords_48 ?_
    refine wp_lload 4 dX0_exchangeInWords_49 rfl ?_
    refine wp_land dX0_exchangeInWords_51 ?_
    refine wp_lstore (lv' := [(10, .long (((jlushr (sL σ k0 x7.toNatClampNeg) x4) ^^^ (sL σ k0 x7.toNatClampNeg)) &&& l5)), (8, .long (sL σ k0 x7.toNatClampNeg)), (0, .ref (eA g k0)), (1, .int x1), (4, .int x4), (5, .long l5), (7, .int x7)]) dX0_exchangeInWords_52 (by decide) rfl ?_
    refine wp_aload_n 2 dX0_exchangeInWords_54 rfl rfl ?_
    refine wp_iload 6 dX0_exchangeInWords_55 rfl ?_
    refine wp_lload 1 dX0_exchangeInWords_57 rfl ?_
    refine wp_lload 0 dX0_exchangeInWords_59 rfl ?_
    refine wp_lxor dX0_exchangeInWords_61 ?_
    refine wp_lload 0 dX0_exchangeInWords_62 rfl ?_
    refine wp_iload 4 dX0_exchangeInWords_64 rfl ?_
    refine wp_lshl dX0_exchangeInWords_66 ?_
    refine wp_lxor dX0_exchangeInWords_67 ?_
    refine wp_last (Nat.zero_le _) (lenJ_hi h.1) dX0_exchangeInWords_68 h.1 ?_
    replace h := h.2
    refine wp_iinc 6 (nI 1) (lv' := [(7, .int (x7 + (nI 1))), (10, .long (((jlushr (sL σ k0 x7.toNatClampNeg) x4) ^^^ (sL σ k0 x7.toNatClampNeg)) &&& l5)), (8, .long (sL σ k0 x7.toNatClampNeg)), (0, .ref (eA g k0)), (1, .int x1), (4, .int x4), (5, .long l5)]) dX0_exchangeInWords_69 (by decide) rfl (by decide) rfl ?_
    refine wp_goto 29 dX0_exchangeInWords_72 (by decide) ?_
    exact wp_sub [3, 4, 5, 6, 0] rfl h
set_option maxRecDepth 100000 in
set_option maxHeartbeats 4000000 in
theorem E_X0_exchangeAcrossWords (g : Ev) (d : Nat) (k0 : Nat) (x1 : Int32) (x2 : Int32) (x3 : Int32) (σ : St) (K : Option Value → St → Prop) (h : WP g 0 45 (d + 1) M_X0_exchangeAcrossWords 16 [(0, .ref (eA g k0)), (1, .int x1), (3, .int x3), (4, .int (jshl (nI 1) (x2 - (nI 6)))), (5, .int (jshl (nI 1) x3)), (6, .int (nI 0))] [] σ K) : Runs g 0 45 (d + 1) M_X0_exchangeAcrossWords [.ref (eA g k0), .int x1, .int x2, .int x3] σ K := by
  refine Runs.of (by decide) (Nat.le_of_ble_eq_true rfl) ?_
  show WP g 0 45 (d + 1) M_X0_exchangeAcrossWords 0 [(0, .ref (eA g k0)), (1, .int x1), (2, .int x2), (3, .int x3)] [] σ K
  refine wp_iconst (nI 1) dX0_exchangeAcrossWords_0 (by decide) ?_
  refine wp_iload_n 2 dX0_exchangeAcrossWords_1 rfl rfl ?_
  refine wp_bipush (nI 6) dX0_exchangeAcrossWords_2 (by decide) ?_
  refine wp_isub dX0_exchangeAcrossWords_4 ?_
  refine wp_ishl dX0_exchangeAcrossWords_5 ?_
  refine wp_istore (lv' := [(4, .int (jshl (nI 1) (x2 - (nI 6)))), (0, .ref (eA g k0)), (1, .int x1), (2, .int x2), (3, .int x3)]) dX0_exchangeAcrossWords_6 (by decide) rfl ?_
  refine wp_iconst (nI 1) dX0_exchangeAcrossWords_8 (by decide) ?_
  refine wp_iload_n 4 dX0_exchangeAcrossWords_9 rfl rfl ?_
  refine wp_ishl dX0_exchangeAcrossWords_10 ?_
  refine wp_istore (lv' := [(5, .int (jshl (nI 1) x3)), (4, .int (jshl (nI 1) (x2 - (nI 6)))), (0, .ref (eA g k0)), (1, .int x1), (2, .int x2), (3, .int x3)]) dX0_exchangeAcrossWords_11 (by decide) rfl ?_
  refine wp_iconst (nI 0) dX0_exchangeAcrossWords_13 (by decide) ?_
  refine wp_istore (lv' := [(6, .int (nI 0)), (5, .int (jshl (nI 1) x3)), (4, .int (jshl (nI 1) (x2 - (nI 6)))), (0, .ref (eA g k0)), (1, .int x1), (2, .int x2), (3, .int x3)]) dX0_exchangeAcrossWords_14 (by decide) rfl ?_
  exact wp_sub [3, 4, 6, 2, 1, 0] rfl h
set_option maxRecDepth 100000 in
set_option maxHeartbeats 4000000 in
theorem R_X0_exchangeAcrossWords_16 (g : Ev) (d : Nat) (k0 : Nat) (x1 : Int32) (x3 : Int32) (x4 : Int32) (x5 : Int32) (x6 : Int32) (σ : St) (K : Option Value → St → Prop) (h : ((x1 ≤ x6 → K none σ) ∧ (¬ x1 ≤ x6 → ((¬ (x6 &&& x4) = nI 0 → WP g 0 45 (d + 1) M_X0_exchangeAcrossWords 16 [(0, .ref (eA g k0)), (1, .int x1), (3, .int x3), (4, .int x4), (5, .int x5), (6, .int (x6 + (nI 1)))] [] σ K) ∧ ((x6 &&& x4) = nI 0 → vp_in x6 (lenJ k0) ∧ vp_in (x6 + x4) (lenJ k0) ∧ vp_in x3 6 ∧ vp_in (x6 + x4) (lenJ k0) ∧ vp_in (x6 + x4) (lenJ k0) ∧ vp_in x6 (lenJ k0) ∧ vp_in x6 (lenJ k0) ∧ WP g 0 45 (d + 1) M_X0_exchangeAcrossWords 16 [(0, .ref (eA g k0)), (1, .int x1), (3, .int x3), (4, .int x4), (5, .int x5), (6, .int (x6 + (nI 1)))] [] (uL (uL σ k0 (x6 + x4).toNatClampNeg ((sL σ k0 (x6 + x4).toNatClampNeg) ^^^ (((jlushr (sL σ k0 x6.toNatClampNeg) x5) ^^^ (sL σ k0 (x6 + x4).toNatClampNeg)) &&& ((fONE x3.toNatClampNeg) ^^^ (-1))))) k0 x6.toNatClampNeg ((sL (uL σ k0 (x6 + x4).toNatClampNeg ((sL σ k0 (x6 + x4).toNatClampNeg) ^^^ (((jlushr (sL σ k0 x6.toNatClampNeg) x5) ^^^ (sL σ k0 (x6 + x4).toNatClampNeg)) &&& ((fONE x3.toNatClampNeg) ^^^ (-1))))) k0 x6.toNatClampNeg) ^^^ (jlshl (((jlushr (sL σ k0 x6.toNatClampNeg) x5) ^^^ (sL σ k0 (x6 + x4).toNatClampNeg)) &&& ((fONE x3.toNatClampNeg) ^^^ (-1))) x5))) K))))) : WP g 0 45 (d + 1) M_X0_exchangeAcrossWords 16 [(0, .ref (eA g k0)), (1, .int x1), (3, .int x3), (4, .int x4), (5, .int x5), (6, .int x6)] [] σ K := by
  refine wp_iload 5 dX0_exchangeAcrossWords_16 rfl ?_
  refine wp_iload_n 1 dX0_exchangeAcrossWords_18 rfl rfl ?_
  refine wp_icmp_ge 87 dX0_exchangeAcrossWords_19 (by decide) (fun c => ?_) (fun c => ?_)
  · replace h := h.1 c
    exact wp_vret rfl dX0_exchangeAcrossWords_87 h
  · replace h := h.2 c
    refine wp_iload 5 dX0_exchangeAcrossWords_22 rfl ?_
    refine wp_iload 3 dX0_exchangeAcrossWords_24 rfl ?_
    refine wp_iand dX0_exchangeAcrossWords_26 ?_
    refine wp_if_ne 81 dX0_exchangeAcrossWords_27 (by decide) (fun c => ?_) (fun c => ?_)
    · replace h := h.1 c
      refine wp_iinc 5 (nI 1) (lv' := [(6, .int (x6 + (nI 1))), (0, .ref (eA g k0)), (1, .int x1), (3, .int x3), (4, .int x4), (5, .int x5)]) dX0_exchangeAcrossWords_81 (by decide) rfl (by decide) rfl ?_
      refine wp_goto 16 dX0_exchangeAcrossWords_84 (by decide) ?_
      exact wp_sub [1, 2, 3, 4, 5, 0] rfl h
    · replace h := h.2 c
      refine wp_aload_n 0 dX0_exchangeAcrossWords_30 rfl rfl ?_
      refine wp_iload 5 dX0_exchangeAcrossWords_31 rfl ?_
      refine wp_lald (Nat.zero_le _) (lenJ_hi h.1) dX0_exchangeAcrossWords_33 h.1 ?_
      replace h := h.2
      refine wp_iload 4 dX0_exchangeAcrossWords_34 rfl ?_
      refine wp_lushr dX0_exchangeAcrossWords_36 ?_
      refine wp_aload_n 0 dX0_exchangeAcrossWords_37 rfl rfl ?_
      refine wp_iload 5 dX0_exchangeAcrossWords_38 rfl ?_
      refine wp_iload 3 dX0_exchangeAcrossWords_40 rfl ?_
      refine wp_iadd dX0_exchangeAcrossWords_42 ?_
      refine wp_lald (Nat.zero_le _) (lenJ_hi h.1) dX0_exchangeAcrossWords_43 h.1 ?_
      replace h := h.2
      refine wp_lxor dX0_exchangeAcrossWords_44 ?_
      refine wp_gets0 wf_X0_11 dX0_exchangeAcrossWords_45 ?_
      refine wp_iload_n 2 dX0_exchangeAcrossWords_48 rfl rfl ?_
      refine wp_tl dX0_exchangeAcrossWords_49 h.1 ?_
      replace h := h.2
      refine wp_ldc2 wk_X0_9 dX0_exchangeAcrossWords_50 ?_
      refine wp_lxor dX0_exchangeAcrossWords_53 ?_
      refine wp_land dX0_exchangeAcrossWords_54 ?_
      refine wp_lstore (lv' := [(7, .long (((jlushr (sL σ k0 x6.toNatClampNeg) x5) ^^^ (sL σ k0 (x6 + x4).toNatClampNeg)) &&& ((fONE x3.toNatClampNeg) ^^^ (-1)))), (0, .ref (eA g k0)), (1, .int x1), (3, .int x3), (4, .int x4), (5, .int x5), (6, .int x6)]) dX0_exchangeAcrossWords_55 (by decide) rfl ?_
      refine wp_aload_n 1 dX0_exchangeAcrossWords_57 rfl rfl ?_
      refine wp_iload 6 dX0_exchangeAcrossWords_58 rfl ?_
      refine wp_iload 4 dX0_exchangeAcrossWords_60 rfl ?_
      refine wp_iadd dX0_exchangeAcrossWords_62 ?_
      refine wp_dup2 dX0_exchangeAcrossWords_63 rfl rfl ?_
      refine wp_lald (Nat.zero_le _) (lenJ_hi h.1) dX0_exchangeAcrossWords_64 h.1 ?_
      replace h := h.2
      refine wp_lload 0 dX0_exchangeAcrossWords_65 rfl ?_
      refine wp_lxor dX0_exchangeAcrossWords_67 ?_
      refine wp_last (Nat.zero_le _) (lenJ_hi h.1) dX0_exchangeAcrossWords_68 h.1 ?_
      replace h := h.2
      refine wp_aload_n 1 dX0_exchangeAcrossWords_69 rfl rfl ?_
      refine wp_iload 6 dX0_exchangeAcrossWords_70 rfl ?_
      refine wp_dup2 dX0_exchangeAcrossWords_72 rfl rfl ?_
      refine wp_lald (Nat.zero_le _) (lenJ_hi h.1) dX0_exchangeAcrossWords_73 h.1 ?_
      replace h := h.2
      refine wp_lload 0 dX0_exchangeAcrossWords_74 rfl ?_
      refine wp_iload 5 dX0_exchangeAcrossWords_76 rfl ?_
      refine wp_lshl dX0_exchangeAcrossWords_78 ?_
      refine wp_lxor dX0_exchangeAcrossWords_79 ?_
      refine wp_last (Nat.zero_le _) (lenJ_hi h.1) dX0_exchangeAcrossWords_80 h.1 ?_
      replace h := h.2
      refine wp_iinc 6 (nI 1) (lv' := [(6, .int (x6 + (nI 1))), (7, .long (((jlushr (sL σ k0 x6.toNatClampNeg) x5) ^^^ (sL σ k0 (x6 + x4).toNatClampNeg)) &&& ((fONE x3.toNatClampNeg) ^^^ (-1)))), (0, .ref (eA g k0)), (1, .int x1), (3, .int x3), (4, .int x4), (5, .int x5)]) dX0_exchangeAcrossWords_81 (by decide) rfl (by decide) rfl ?_
      refine wp_goto 16 dX0_exchangeAcrossWords_84 (by decide) ?_
      exact wp_sub [2, 3, 4, 5, 6, 0] rfl h
set_option maxRecDepth 100000 in
set_option maxHeartbeats 4000000 in
theorem E_X0_exchangeWords (g : Ev) (d : Nat) (k0 : Nat) (x1 : Int32) (x2 : Int32) (x3 : Int32) (σ : St) (K : Option Value → St → Prop) (h : WP g 0 45 (d + 1) M_X0_exchangeWords 19 [(0, .ref (eA g k0)), (1, .int x1), (4, .int (jshl (nI 1) (x2 - (nI 6)))), (5, .int (jshl (nI 1) (x3 - (nI 6)))), (6, .int (nI 0))] [] σ K) : Runs g 0 45 (d + 1) M_X0_exchangeWords [.ref (eA g k0), .int x1, .int x2, .int x3] σ K := by
  refine Runs.of (by decide) (Nat.le_of_ble_eq_true rfl) ?_
  show WP g 0 45 (d + 1) M_X0_exchangeWords 0 [(0, .ref (eA g k0)), (1, .int x1), (2, .int x2), (3, .int x3)] [] σ K
  refine wp_iconst (nI 1) dX0_exchangeWords_0 (by decide) ?_
  refine wp_iload_n 2 dX0_exchangeWords_1 rfl rfl ?_
  refine wp_bipush (nI 6) dX0_exchangeWords_2 (by decide) ?_
  refine wp_isub dX0_exchangeWords_4 ?_
  refine wp_ishl dX0_exchangeWords_5 ?_
  refine wp_istore (lv' := [(4, .int (jshl (nI 1) (x2 - (nI 6)))), (0, .ref (eA g k0)), (1, .int x1), (2, .int x2), (3, .int x3)]) dX0_exchangeWords_6 (by decide) rfl ?_
  refine wp_iconst (nI 1) dX0_exchangeWords_8 (by decide) ?_
  refine wp_iload_n 4 dX0_exchangeWords_9 rfl rfl ?_
  refine wp_bipush (nI 6) dX0_exchangeWords_10 (by decide) ?_
  refine wp_isub dX0_exchangeWords_12 ?_
  refine wp_ishl dX0_exchangeWords_13 ?_
  refine wp_istore (lv' := [(5, .int (jshl (nI 1) (x3 - (nI 6)))), (4, .int (jshl (nI 1) (x2 - (nI 6)))), (0, .ref (eA g k0)), (1, .int x1), (2, .int x2), (3, .int x3)]) dX0_exchangeWords_14 (by decide) rfl ?_
  refine wp_iconst (nI 0) dX0_exchangeWords_16 (by decide) ?_
  refine wp_istore (lv' := [(6, .int (nI 0)), (5, .int (jshl (nI 1) (x3 - (nI 6)))), (4, .int (jshl (nI 1) (x2 - (nI 6)))), (0, .ref (eA g k0)), (1, .int x1), (2, .int x2), (3, .int x3)]) dX0_exchangeWords_17 (by decide) rfl ?_
  exact wp_sub [3, 4, 2, 1, 0] rfl h
set_option maxRecDepth 100000 in
set_option maxHeartbeats 4000000 in
theorem R_X0_exchangeWords_19 (g : Ev) (d : Nat) (k0 : Nat) (x1 : Int32) (x4 : Int32) (x5 : Int32) (x6 : Int32) (σ : St) (K : Option Value → St → Prop) (h : ((x1 ≤ x6 → K none σ) ∧ (¬ x1 ≤ x6 → ((¬ (x6 &&& x4) = nI 0 → WP g 0 45 (d + 1) M_X0_exchangeWords 19 [(0, .ref (eA g k0)), (1, .int x1), (4, .int x4), (5, .int x5), (6, .int (x6 + (nI 1)))] [] σ K) ∧ ((x6 &&& x4) = nI 0 → (((x6 &&& x5) = nI 0 → WP g 0 45 (d + 1) M_X0_exchangeWords 19 [(0, .ref (eA g k0)), (1, .int x1), (4, .int x4), (5, .int x5), (6, .int (x6 + (nI 1)))] [] σ K) ∧ (¬ (x6 &&& x5) = nI 0 → vp_in x6 (lenJ k0) ∧ vp_in ((x6 + x4) - x5) (lenJ k0) ∧ vp_in x6 (lenJ k0) ∧ vp_in ((x6 + x4) - x5) (lenJ k0) ∧ WP g 0 45 (d + 1) M_X0_exchangeWords 19 [(0, .ref (eA g k0)), (1, .int x1), (4, .int x4), (5, .int x5), (6, .int (x6 + (nI 1)))] [] (uL (uL σ k0 x6.toNatClampNeg (sL σ k0 ((x6 + x4) - x5).toNatClampNeg)) k0 ((x6 + x4) - x5).toNatClampNeg (sL σ k0 x6.toNatClampNeg)) K))))))) : WP g 0 45 (d + 1) M_X0_exchangeWords 19 [(0, .ref (eA g k0)), (1, .int x1), (4, .int x4), (5, .int x5), (6, .int x6)] [] σ K := by
  refine wp_iload 4 dX0_exchangeWords_19 rfl ?_
  refine wp_iload_n 1 dX0_exchangeWords_21 rfl rfl ?_
  refine wp_icmp_ge 77 dX0_exchangeWords_22 (by decide) (fun c => ?_) (fun c => ?_)
  · replace h := h.1 c
    exact wp_vret rfl dX0_exchangeWords_77 h
  · replace h := h.2 c
    refine wp_iload 4 dX0_exchangeWords_25 rfl ?_
    refine wp_iload 2 dX0_exchangeWords_27 rfl ?_
    refine wp_iand dX0_exchangeWords_29 ?_
    refine wp_if_ne 71 dX0_exchangeWords_30 (by decide) (fun c => ?_) (fun c => ?_)
    · replace h := h.1 c
      refine wp_iinc 4 (nI 1) (lv' := [(6, .int (x6 + (nI 1))), (0, .ref (eA g k0)), (1, .int x1), (4, .int x4), (5, .int x5)]) dX0_exchangeWords_71 (by decide) rfl (by decide) rfl ?_
      refine wp_goto 19 dX0_exchangeWords_74 (by decide) ?_
      exact wp_sub [1, 2, 3, 4, 0] rfl h
    · replace h := h.2 c
      refine wp_iload 4 dX0_exchangeWords_33 rfl ?_
      refine wp_iload 3 dX0_exchangeWords_35 rfl ?_
      refine wp_iand dX0_exchangeWords_37 ?_
      refine wp_if_eq 71 dX0_exchangeWords_38 (by decide) (fun c => ?_) (fun c => ?_)
      · replace h := h.1 c
        refine wp_iinc 4 (nI 1) (lv' := [(6, .int (x6 + (nI 1))), (0, .ref (eA g k0)), (1, .int x1), (4, .int x4), (5, .int x5)]) dX0_exchangeWords_71 (by decide) rfl (by decide) rfl ?_
        refine wp_goto 19 dX0_exchangeWords_74 (by decide) ?_
        exact wp_sub [1, 2, 3, 4, 0] rfl h
      · replace h := h.2 c
        refine wp_iload 4 dX0_exchangeWords_41 rfl ?_
        refine wp_iload 2 dX0_exchangeWords_43 rfl ?_
        refine wp_iadd dX0_exchangeWords_45 ?_
        refine wp_iload 3 dX0_exchangeWords_46 rfl ?_
        refine wp_isub dX0_exchangeWords_48 ?_
        refine wp_istore (lv' := [(7, .int ((x6 + x4) - x5)), (0, .ref (eA g k0)), (1, .int x1), (4, .int x4), (5, .int x5), (6, .int x6)]) dX0_exchangeWords_49 (by decide) rfl ?_
        refine wp_aload_n 1 dX0_exchangeWords_51 rfl rfl ?_
        refine wp_iload 5 dX0_exchangeWords_52 rfl ?_
        refine wp_lald (Nat.zero_le _) (lenJ_hi h.1) dX0_exchangeWords_54 h.1 ?_
        replace h := h.2
        refine wp_lstore (lv' := [(8, .long (sL σ k0 x6.toNatClampNeg)), (7, .int ((x6 + x4) - x5)), (0, .ref (eA g k0)), (1, .int x1), (4, .int x4), (5, .int x5), (6, .int x6)]) dX0_exchangeWords_55 (by decide) rfl ?_
        refine wp_aload_n 2 dX0_exchangeWords_57 rfl rfl ?_
        refine wp_iload 6 dX0_exchangeWords_58 rfl ?_
        refine wp_aload_n 2 dX0_exchangeWords_60 rfl rfl ?_
        refine wp_iload 1 dX0_exchangeWords_61 rfl ?_
        refine wp_lald (Nat.zero_le _) (lenJ_hi h.1) dX0_exchangeWords_63 h.1 ?_
        replace h := h.2
        refine wp_last (Nat.zero_le _) (lenJ_hi h.1) dX0_exchangeWords_64 h.1 ?_
        replace h := h.2
        refine wp_aload_n 2 dX0_exchangeWords_65 rfl rfl ?_
        refine wp_iload 1 dX0_exchangeWords_66 rfl ?_
        refine wp_lload 0 dX0_exchangeWords_68 rfl ?_
        refine wp_last (Nat.zero_le _) (lenJ_hi h.1) dX0_exchangeWords_70 h.1 ?_
        replace h := h.2
        refine wp_iinc 6 (nI 1) (lv' := [(6, .int (x6 + (nI 1))), (8, .long (sL σ k0 x6.toNatClampNeg)), (7, .int ((x6 + x4) - x5)), (0, .ref (eA g k0)), (1, .int x1), (4, .int x4), (5, .int x5)]) dX0_exchangeWords_71 (by decide) rfl (by decide) rfl ?_
        refine wp_goto 19 dX0_exchangeWords_74 (by decide) ?_
        exact wp_sub [3, 4, 5, 6, 0] rfl h

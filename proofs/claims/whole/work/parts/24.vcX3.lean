set_option maxRecDepth 100000 in
set_option maxHeartbeats 4000000 in
theorem E_X3_isRegister (g : Ev) (d : Nat) (x1 : Int32) (σ : St) (K : Option Value → St → Prop) (h : ((x1 < nI 0 → K (some (.int (nI 0))) σ) ∧ (¬ x1 < nI 0 → (((nI 32) ≤ x1 → K (some (.int (nI 0))) σ) ∧ (¬ (nI 32) ≤ x1 → K (some (.int (nI 1))) σ))))) : Runs g 45 59 (d + 1) M_X3_isRegister [.ref (eA g 45), .int x1] σ K := by
  refine Runs.of (by decide) (Nat.le_of_ble_eq_true rfl) ?_
  show WP g 45 59 (d + 1) M_X3_isRegister 0 [(0, .ref (eA g 45)), (1, .int x1)] [] σ K
  refine wp_iload_n 1 dX3_isRegister_0 rfl rfl ?_
  refine wp_if_lt 14 dX3_isRegister_1 (by decide) (fun c => ?_) (fun c => ?_)
  · replace h := h.1 c
    refine wp_iconst (nI 0) dX3_isRegister_14 (by decide) ?_
    exact wp_zret rfl rfl dX3_isRegister_15 h
  · replace h := h.2 c
    refine wp_iload_n 1 dX3_isRegister_4 rfl rfl ?_
    refine wp_bipush (nI 32) dX3_isRegister_5 (by decide) ?_
    refine wp_icmp_ge 14 dX3_isRegister_7 (by decide) (fun c => ?_) (fun c => ?_)
    · replace h := h.1 c
      refine wp_iconst (nI 0) dX3_isRegister_14 (by decide) ?_
      exact wp_zret rfl rfl dX3_isRegister_15 h
    · replace h := h.2 c
      refine wp_iconst (nI 1) dX3_isRegister_10 (by decide) ?_
      refine wp_goto 15 dX3_isRegister_11 (by decide) ?_
      exact wp_zret rfl rfl dX3_isRegister_15 h
set_option maxRecDepth 100000 in
set_option maxHeartbeats 4000000 in
theorem E_X3_isLetter (g : Ev) (d : Nat) (x1 : Int32) (σ : St) (K : Option Value → St → Prop) (h : ((x1 < nI 0 → K (some (.int (nI 0))) σ) ∧ (¬ x1 < nI 0 → (((sV σ 8) ≤ x1 → K (some (.int (nI 0))) σ) ∧ (¬ (sV σ 8) ≤ x1 → K (some (.int (nI 1))) σ))))) : Runs g 45 59 (d + 1) M_X3_isLetter [.ref (eA g 45), .int x1] σ K := by
  refine Runs.of (by decide) (Nat.le_of_ble_eq_true rfl) ?_
  show WP g 45 59 (d + 1) M_X3_isLetter 0 [(0, .ref (eA g 45)), (1, .int x1)] [] σ K
  refine wp_iload_n 1 dX3_isLetter_0 rfl rfl ?_
  refine wp_if_lt 16 dX3_isLetter_1 (by decide) (fun c => ?_) (fun c => ?_)
  · replace h := h.1 c
    refine wp_iconst (nI 0) dX3_isLetter_16 (by decide) ?_
    exact wp_zret rfl rfl dX3_isLetter_17 h
  · replace h := h.2 c
    refine wp_iload_n 1 dX3_isLetter_4 rfl rfl ?_
    refine wp_aload_n 0 dX3_isLetter_5 rfl rfl ?_
    refine wp_get 45 2 0 (by decide) (by decide) rfl rfl inG3 (by decide) wf_X3_55 rfl dX3_isLetter_6 ?_
    refine wp_icmp_ge 16 dX3_isLetter_9 (by decide) (fun c => ?_) (fun c => ?_)
    · replace h := h.1 c
      refine wp_iconst (nI 0) dX3_isLetter_16 (by decide) ?_
      exact wp_zret rfl rfl dX3_isLetter_17 h
    · replace h := h.2 c
      refine wp_iconst (nI 1) dX3_isLetter_12 (by decide) ?_
      refine wp_goto 17 dX3_isLetter_13 (by decide) ?_
      exact wp_zret rfl rfl dX3_isLetter_17 h
set_option maxRecDepth 100000 in
set_option maxHeartbeats 4000000 in
theorem E_X3_get (g : Ev) (d : Nat) (x1 : Int32) (x2 : Int32) (σ : St) (K : Option Value → St → Prop) (h : vp_in (((nI 4096) * x1) + x2) (lenZ 46) ∧ (narrow .boolean (.int (sI σ 46 (((nI 4096) * x1) + x2).toNatClampNeg)) = .int (sI σ 46 (((nI 4096) * x1) + x2).toNatClampNeg) ∧ K (some (.int (sI σ 46 (((nI 4096) * x1) + x2).toNatClampNeg))) σ)) : Runs g 45 59 (d + 1) M_X3_get [.ref (eA g 45), .int x1, .int x2] σ K := by
  refine Runs.of (by decide) (Nat.le_of_ble_eq_true rfl) ?_
  show WP g 45 59 (d + 1) M_X3_get 0 [(0, .ref (eA g 45)), (1, .int x1), (2, .int x2)] [] σ K
  refine wp_aload_n 0 dX3_get_0 rfl rfl ?_
  refine wp_get 45 2 3 (by decide) (by decide) rfl rfl inG3 (by decide) wf_X3_10 rfl dX3_get_1 ?_
  refine wp_sipush (nI 4096) dX3_get_4 (by decide) ?_
  refine wp_iload_n 1 dX3_get_7 rfl rfl ?_
  refine wp_imul dX3_get_8 ?_
  refine wp_iload_n 2 dX3_get_9 rfl rfl ?_
  refine wp_iadd dX3_get_10 ?_
  refine wp_zald (by decide) (by decide) dX3_get_11 h.1 ?_
  replace h := h.2
  exact wp_zret rfl h.1 dX3_get_12 h.2
set_option maxRecDepth 100000 in
set_option maxHeartbeats 4000000 in
theorem E_X3_done (g : Ev) (d : Nat)  (σ : St) (K : Option Value → St → Prop) (h : WP g 45 59 (d + 1) M_X3_done 2 [(0, .ref (eA g 45)), (1, .int (nI 0))] [] σ K) : Runs g 45 59 (d + 1) M_X3_done [.ref (eA g 45)] σ K := by
  refine Runs.of (by decide) (Nat.le_of_ble_eq_true rfl) ?_
  show WP g 45 59 (d + 1) M_X3_done 0 [(0, .ref (eA g 45))] [] σ K
  refine wp_iconst (nI 0) dX3_done_0 (by decide) ?_
  refine wp_istore_n (lv' := [(1, .int (nI 0)), (0, .ref (eA g 45))]) dX3_done_1 rfl (by decide) rfl ?_
  exact wp_sub [1, 0] rfl h
set_option maxRecDepth 100000 in
set_option maxHeartbeats 4000000 in
theorem R_X3_done_2 (g : Ev) (d : Nat) (x1 : Int32) (σ : St) (K : Option Value → St → Prop) (h : (((nI 4096) ≤ x1 → K (some (.int (nI 0))) σ) ∧ (¬ (nI 4096) ≤ x1 → vp_in x1 (lenZ 48) ∧ WP g 45 59 (d + 1) M_X3_done 2 [(0, .ref (eA g 45)), (1, .int (x1 + (nI 1)))] [] (uI σ 48 x1.toNatClampNeg (vp_nar .boolean (nI 0))) K))) : WP g 45 59 (d + 1) M_X3_done 2 [(0, .ref (eA g 45)), (1, .int x1)] [] σ K := by
  refine wp_iload_n 1 dX3_done_2 rfl rfl ?_
  refine wp_sipush (nI 4096) dX3_done_3 (by decide) ?_
  refine wp_icmp_ge 22 dX3_done_6 (by decide) (fun c => ?_) (fun c => ?_)
  · replace h := h.1 c
    refine wp_iconst (nI 0) dX3_done_22 (by decide) ?_
    exact wp_iret rfl dX3_done_23 h
  · replace h := h.2 c
    refine wp_aload_n 0 dX3_done_9 rfl rfl ?_
    refine wp_get 45 2 5 (by decide) (by decide) rfl rfl inG3 (by decide) wf_X3_17 rfl dX3_done_10 ?_
    refine wp_iload_n 1 dX3_done_13 rfl rfl ?_
    refine wp_iconst (nI 0) dX3_done_14 (by decide) ?_
    refine wp_zast (by decide) (by decide) dX3_done_15 h.1 ?_
    replace h := h.2
    refine wp_iinc 1 (nI 1) (lv' := [(1, .int (x1 + (nI 1))), (0, .ref (eA g 45))]) dX3_done_16 (by decide) rfl (by decide) rfl ?_
    refine wp_goto 2 dX3_done_19 (by decide) ?_
    exact wp_sub [1, 0] rfl h
set_option maxRecDepth 100000 in
set_option maxHeartbeats 4000000 in
theorem E_X3_fresh (g : Ev) (d : Nat) (x1 : Int32) (x2 : Int32) (σ : St) (K : Option Value → St → Prop) (h : ((x1 < (nI 1) → K (some (.int (nI 0))) σ) ∧ (¬ x1 < (nI 1) → (((nI 12) < x1 → K (some (.int (nI 0))) σ) ∧ (¬ (nI 12) < x1 → ((x2 < nI 0 → K (some (.int (nI 0))) σ) ∧ (¬ x2 < nI 0 → ((x2 ≤ (nI 20000) → WP g 45 59 (d + 1) M_X3_fresh 46 [(0, .ref (eA g 45)), (3, .int (nI 0))] [] (uV (uV (uV σ 8 x1) 9 (jshl (nI 1) (sV (uV σ 8 x1) 8))) 10 x2) K) ∧ (¬ x2 ≤ (nI 20000) → K (some (.int (nI 0))) σ))))))))) : Runs g 45 59 (d + 1) M_X3_fresh [.ref (eA g 45), .int x1, .int x2] σ K := by
  refine Runs.of (by decide) (Nat.le_of_ble_eq_true rfl) ?_
  show WP g 45 59 (d + 1) M_X3_fresh 0 [(0, .ref (eA g 45)), (1, .int x1), (2, .int x2)] [] σ K
  refine wp_iload_n 1 dX3_fresh_0 rfl rfl ?_
  refine wp_iconst (nI 1) dX3_fresh_1 (by decide) ?_
  refine wp_icmp_lt 22 dX3_fresh_2 (by decide) (fun c => ?_) (fun c => ?_)
  · replace h := h.1 c
    refine wp_iconst (nI 0) dX3_fresh_22 (by decide) ?_
    exact wp_zret rfl rfl dX3_fresh_23 h
  · replace h := h.2 c
    refine wp_iload_n 1 dX3_fresh_5 rfl rfl ?_
    refine wp_bipush (nI 12) dX3_fresh_6 (by decide) ?_
    refine wp_icmp_gt 22 dX3_fresh_8 (by decide) (fun c => ?_) (fun c => ?_)
    · replace h := h.1 c
      refine wp_iconst (nI 0) dX3_fresh_22 (by decide) ?_
      exact wp_zret rfl rfl dX3_fresh_23 h
    · replace h := h.2 c
      refine wp_iload_n 2 dX3_fresh_11 rfl rfl ?_
      refine wp_if_lt 22 dX3_fresh_12 (by decide) (fun c => ?_) (fun c => ?_)
      · replace h := h.1 c
        refine wp_iconst (nI 0) dX3_fresh_22 (by decide) ?_
        exact wp_zret rfl rfl dX3_fresh_23 h
      · replace h := h.2 c
        refine wp_iload_n 2 dX3_fresh_15 rfl rfl ?_
        refine wp_sipush (nI 20000) dX3_fresh_16 (by decide) ?_
        refine wp_icmp_le 24 dX3_fresh_19 (by decide) (fun c => ?_) (fun c => ?_)
        · replace h := h.1 c
          refine wp_aload_n 0 dX3_fresh_24 rfl rfl ?_
          refine wp_iload_n 1 dX3_fresh_25 rfl rfl ?_
          refine wp_put (ty := .int) 45 2 0 tyX3 tyX3_ok nmX3 (uV σ 8 x1) (by decide) (by decide) rfl rfl inG3 (by decide) wf_X3_55 rfl (by decide +kernel) rfl rfl (Nat.le_of_ble_eq_true rfl) dX3_fresh_26 rfl (wcell_uV45 (by decide)) ?_
          refine wp_aload_n 0 dX3_fresh_29 rfl rfl ?_
          refine wp_iconst (nI 1) dX3_fresh_30 (by decide) ?_
          refine wp_aload_n 0 dX3_fresh_31 rfl rfl ?_
          refine wp_get 45 2 0 (by decide) (by decide) rfl rfl inG3 (by decide) wf_X3_55 rfl dX3_fresh_32 ?_
          refine wp_ishl dX3_fresh_35 ?_
          refine wp_put (ty := .int) 45 2 1 tyX3 tyX3_ok nmX3 (uV (uV σ 8 x1) 9 (jshl (nI 1) (sV (uV σ 8 x1) 8))) (by decide) (by decide) rfl rfl inG3 (by decide) wf_X3_59 rfl (by decide +kernel) rfl rfl (Nat.le_of_ble_eq_true rfl) dX3_fresh_36 rfl (wcell_uV45 (by decide)) ?_
          refine wp_aload_n 0 dX3_fresh_39 rfl rfl ?_
          refine wp_iload_n 2 dX3_fresh_40 rfl rfl ?_
          refine wp_put (ty := .int) 45 2 2 tyX3 tyX3_ok nmX3 (uV (uV (uV σ 8 x1) 9 (jshl (nI 1) (sV (uV σ 8 x1) 8))) 10 x2) (by decide) (by decide) rfl rfl inG3 (by decide) wf_X3_62 rfl (by decide +kernel) rfl rfl (Nat.le_of_ble_eq_true rfl) dX3_fresh_41 rfl (wcell_uV45 (by decide)) ?_
          refine wp_iconst (nI 0) dX3_fresh_44 (by decide) ?_
          refine wp_istore_n (lv' := [(3, .int (nI 0)), (0, .ref (eA g 45)), (1, .int x1), (2, .int x2)]) dX3_fresh_45 rfl (by decide) rfl ?_
          exact wp_sub [1, 0] rfl h
        · replace h := h.2 c
          refine wp_iconst (nI 0) dX3_fresh_22 (by decide) ?_
          exact wp_zret rfl rfl dX3_fresh_23 h
set_option maxRecDepth 100000 in
set_option maxHeartbeats 4000000 in
theorem R_X3_fresh_46 (g : Ev) (d : Nat) (x3 : Int32) (σ : St) (K : Option Value → St → Prop) (h : (((nI 131072) ≤ x3 → WP g 45 59 (d + 1) M_X3_fresh 67 [(0, .ref (eA g 45)), (3, .int (nI 0))] [] σ K) ∧ (¬ (nI 131072) ≤ x3 → vp_in x3 (lenZ 46) ∧ WP g 45 59 (d + 1) M_X3_fresh 46 [(0, .ref (eA g 45)), (3, .int (x3 + (nI 1)))] [] (uI σ 46 x3.toNatClampNeg (vp_nar .boolean (nI 0))) K))) : WP g 45 59 (d + 1) M_X3_fresh 46 [(0, .ref (eA g 45)), (3, .int x3)] [] σ K := by
  refine wp_iload_n 1 dX3_fresh_46 rfl rfl ?_
  refine wp_ldc (v := (nI 131072)) wk_X3_9 dX3_fresh_47 ?_
  refine wp_icmp_ge 65 dX3_fresh_49 (by decide) (fun c => ?_) (fun c => ?_)
  · replace h := h.1 c
    refine wp_iconst (nI 0) dX3_fresh_65 (by decide) ?_
    refine wp_istore_n (lv' := [(3, .int (nI 0)), (0, .ref (eA g 45))]) dX3_fresh_66 rfl (by decide) rfl ?_
    exact wp_sub [1, 0] rfl h
  · replace h := h.2 c
    refine wp_aload_n 0 dX3_fresh_52 rfl rfl ?_
    refine wp_get 45 2 3 (by decide) (by decide) rfl rfl inG3 (by decide) wf_X3_10 rfl dX3_fresh_53 ?_
    refine wp_iload_n 1 dX3_fresh_56 rfl rfl ?_
    refine wp_iconst (nI 0) dX3_fresh_57 (by decide) ?_
    refine wp_zast (by decide) (by decide) dX3_fresh_58 h.1 ?_
    replace h := h.2
    refine wp_iinc 1 (nI 1) (lv' := [(3, .int (x3 + (nI 1))), (0, .ref (eA g 45))]) dX3_fresh_59 (by decide) rfl (by decide) rfl ?_
    refine wp_goto 46 dX3_fresh_62 (by decide) ?_
    exact wp_sub [1, 0] rfl h
set_option maxRecDepth 100000 in
set_option maxHeartbeats 4000000 in
theorem R_X3_fresh_67 (g : Ev) (d : Nat) (x3 : Int32) (σ : St) (K : Option Value → St → Prop) (h : (((nI 12) ≤ x3 → Runs g 45 59 d M_X3_done [.ref (eA g 45)] σ (fun r1 σ1 => ∃ v1 : Int32, r1 = some (.int v1) ∧ K (some (.int (nI 1))) σ1)) ∧ (¬ (nI 12) ≤ x3 → vp_in x3 (lenI 49) ∧ vp_in x3 (lenI 50) ∧ WP g 45 59 (d + 1) M_X3_fresh 67 [(0, .ref (eA g 45)), (3, .int (x3 + (nI 1)))] [] (uI (uI σ 49 x3.toNatClampNeg (nI 0)) 50 x3.toNatClampNeg x3) K))) : WP g 45 59 (d + 1) M_X3_fresh 67 [(0, .ref (eA g 45)), (3, .int x3)] [] σ K := by
  refine wp_iload_n 1 dX3_fresh_67 rfl rfl ?_
  refine wp_bipush (nI 12) dX3_fresh_68 (by decide) ?_
  refine wp_icmp_ge 93 dX3_fresh_70 (by decide) (fun c => ?_) (fun c => ?_)
  · replace h := h.1 c
    refine wp_aload_n 0 dX3_fresh_93 rfl rfl ?_
    refine wp_callV [] [] 45 2 (by decide) (by decide) rfl rfl wc_X3_done wm_X3_65 ws_X3_done we_X3_done wi_X3 ok_X3_done (by decide) (Nat.le_of_ble_eq_true rfl) dX3_fresh_94 rfl h ?_
    rintro r1 σ1 ⟨v1, rfl, h⟩
    show WP g 45 59 (d + 1) M_X3_fresh 97 [(0, .ref (eA g 45)), (3, .int x3)] [.int v1] σ1 K
    refine wp_pop dX3_fresh_97 rfl ?_
    refine wp_iconst (nI 1) dX3_fresh_98 (by decide) ?_
    exact wp_zret rfl rfl dX3_fresh_99 h
  · replace h := h.2 c
    refine wp_aload_n 0 dX3_fresh_73 rfl rfl ?_
    refine wp_get 45 2 6 (by decide) (by decide) rfl rfl inG3 (by decide) wf_X3_20 rfl dX3_fresh_74 ?_
    refine wp_iload_n 1 dX3_fresh_77 rfl rfl ?_
    refine wp_iconst (nI 0) dX3_fresh_78 (by decide) ?_
    refine wp_iast (by decide) (by decide) dX3_fresh_79 h.1 ?_
    replace h := h.2
    refine wp_aload_n 0 dX3_fresh_80 rfl rfl ?_
    refine wp_get 45 2 7 (by decide) (by decide) rfl rfl inG3 (by decide) wf_X3_24 rfl dX3_fresh_81 ?_
    refine wp_iload_n 1 dX3_fresh_84 rfl rfl ?_
    refine wp_iload_n 1 dX3_fresh_85 rfl rfl ?_
    refine wp_iast (by decide) (by decide) dX3_fresh_86 h.1 ?_
    replace h := h.2
    refine wp_iinc 1 (nI 1) (lv' := [(3, .int (x3 + (nI 1))), (0, .ref (eA g 45))]) dX3_fresh_87 (by decide) rfl (by decide) rfl ?_
    refine wp_goto 67 dX3_fresh_90 (by decide) ?_
    exact wp_sub [1, 0] rfl h
set_option maxRecDepth 100000 in
set_option maxHeartbeats 4000000 in
theorem E_X3_pair (g : Ev) (d : Nat) (x1 : Int32) (x2 : Int32) (x3 : Int32) (σ : St) (K : Option Value → St → Prop) (h : ((¬ x1 = x2 → WP g 45 59 (d + 1) M_X3_pair 24 [(0, .ref (eA g 45)), (1, .int x1), (2, .int x2), (3, .int x3), (4, .int ((((x1 * (nI 31)) + (x2 * (nI 40503))) + (nI 7)) &&& (nI 131071)))] [] σ K) ∧ (x1 = x2 → K (some (.int x1)) σ))) : Runs g 45 59 (d + 1) M_X3_pair [.ref (eA g 45), .int x1, .int x2, .int x3] σ K := by
  refine Runs.of (by decide) (Nat.le_of_ble_eq_true rfl) ?_
  show WP g 45 59 (d + 1) M_X3_pair 0 [(0, .ref (eA g 45)), (1, .int x1), (2, .int x2), (3, .int x3)] [] σ K
  refine wp_iload_n 1 dX3_pair_0 rfl rfl ?_
  refine wp_iload_n 2 dX3_pair_1 rfl rfl ?_
  refine wp_icmp_ne 7 dX3_pair_2 (by decide) (fun c => ?_) (fun c => ?_)
  · replace h := h.1 c
    refine wp_iload_n 1 dX3_pair_7 rfl rfl ?_
    refine wp_bipush (nI 31) dX3_pair_8 (by decide) ?_
    refine wp_imul dX3_pair_10 ?_
    refine wp_iload_n 2 dX3_pair_11 rfl rfl ?_
    refine wp_ldc (v := (nI 40503)) wk_X3_69 dX3_pair_12 ?_
    refine wp_imul dX3_pair_14 ?_
    refine wp_iadd dX3_pair_15 ?_
    refine wp_bipush (nI 7) dX3_pair_16 (by decide) ?_
    refine wp_iadd dX3_pair_18 ?_
    refine wp_ldc (v := (nI 131071)) wk_X3_70 dX3_pair_19 ?_
    refine wp_iand dX3_pair_21 ?_
    refine wp_istore (lv' := [(4, .int ((((x1 * (nI 31)) + (x2 * (nI 40503))) + (nI 7)) &&& (nI 131071))), (0, .ref (eA g 45)), (1, .int x1), (2, .int x2), (3, .int x3)]) dX3_pair_22 (by decide) rfl ?_
    exact wp_sub [1, 2, 3, 4, 0] rfl h
  · replace h := h.2 c
    refine wp_iload_n 1 dX3_pair_5 rfl rfl ?_
    exact wp_iret rfl dX3_pair_6 h
set_option maxRecDepth 100000 in
set_option maxHeartbeats 4000000 in
theorem R_X3_pair_24 (g : Ev) (d : Nat) (x1 : Int32) (x2 : Int32) (x3 : Int32) (x4 : Int32) (σ : St) (K : Option Value → St → Prop) (h : vp_in x4 (lenI 55) ∧ ((¬ (sI σ 55 x4.toNatClampNeg) = (sV σ 12) → vp_in x4 (lenI 55) ∧ vp_in x4 (lenI 56) ∧ vp_in x4 (lenI 57) ∧ vp_in x4 (lenI 58) ∧ vp_in x3 (lenI 54) ∧ vp_in x3 (lenI 54) ∧ vp_in x4 (lenI 58) ∧ K (some (.int (sI (uI (uV (uI (uI (uI (uI σ 55 x4.toNatClampNeg (sV σ 12)) 56 x4.toNatClampNeg x1) 57 x4.toNatClampNeg x2) 58 x4.toNatClampNeg (sV (uI (uI (uI σ 55 x4.toNatClampNeg (sV σ 12)) 56 x4.toNatClampNeg x1) 57 x4.toNatClampNeg x2) 11)) 11 ((sV (uI (uI (uI (uI σ 55 x4.toNatClampNeg (sV σ 12)) 56 x4.toNatClampNeg x1) 57 x4.toNatClampNeg x2) 58 x4.toNatClampNeg (sV (uI (uI (uI σ 55 x4.toNatClampNeg (sV σ 12)) 56 x4.toNatClampNeg x1) 57 x4.toNatClampNeg x2) 11)) 11) + (nI 1))) 54 x3.toNatClampNeg ((sI (uV (uI (uI (uI (uI σ 55 x4.toNatClampNeg (sV σ 12)) 56 x4.toNatClampNeg x1) 57 x4.toNatClampNeg x2) 58 x4.toNatClampNeg (sV (uI (uI (uI σ 55 x4.toNatClampNeg (sV σ 12)) 56 x4.toNatClampNeg x1) 57 x4.toNatClampNeg x2) 11)) 11 ((sV (uI (uI (uI (uI σ 55 x4.toNatClampNeg (sV σ 12)) 56 x4.toNatClampNeg x1) 57 x4.toNatClampNeg x2) 58 x4.toNatClampNeg (sV (uI (uI (uI σ 55 x4.toNatClampNeg (sV σ 12)) 56 x4.toNatClampNeg x1) 57 x4.toNatClampNeg x2) 11)) 11) + (nI 1))) 54 x3.toNatClampNeg) + (nI 1))) 58 x4.toNatClampNeg))) (uI (uV (uI (uI (uI (uI σ 55 x4.toNatClampNeg (sV σ 12)) 56 x4.toNatClampNeg x1) 57 x4.toNatClampNeg x2) 58 x4.toNatClampNeg (sV (uI (uI (uI σ 55 x4.toNatClampNeg (sV σ 12)) 56 x4.toNatClampNeg x1) 57 x4.toNatClampNeg x2) 11)) 11 ((sV (uI (uI (uI (uI σ 55 x4.toNatClampNeg (sV σ 12)) 56 x4.toNatClampNeg x1) 57 x4.toNatClampNeg x2) 58 x4.toNatClampNeg (sV (uI (uI (uI σ 55 x4.toNatClampNeg (sV σ 12)) 56 x4.toNatClampNeg x1) 57 x4.toNatClampNeg x2) 11)) 11) + (nI 1))) 54 x3.toNatClampNeg ((sI (uV (uI (uI (uI (uI σ 55 x4.toNatClampNeg (sV σ 12)) 56 x4.toNatClampNeg x1) 57 x4.toNatClampNeg x2) 58 x4.toNatClampNeg (sV (uI (uI (uI σ 55 x4.toNatClampNeg (sV σ 12)) 56 x4.toNatClampNeg x1) 57 x4.toNatClampNeg x2) 11)) 11 ((sV (uI (uI (uI (uI σ 55 x4.toNatClampNeg (sV σ 12)) 56 x4.toNatClampNeg x1) 57 x4.toNatClampNeg x2) 58 x4.toNatClampNeg (sV (uI (uI (uI σ 55 x4.toNatClampNeg (sV σ 12)) 56 x4.toNatClampNeg x1) 57 x4.toNatClampNeg x2) 11)) 11) + (nI 1))) 54 x3.toNatClampNeg) + (nI 1)))) ∧ ((sI σ 55 x4.toNatClampNeg) = (sV σ 12) → vp_in x4 (lenI 56) ∧ ((¬ (sI σ 56 x4.toNatClampNeg) = x1 → WP g 45 59 (d + 1) M_X3_pair 24 [(0, .ref (eA g 45)), (1, .int x1), (2, .int x2), (3, .int x3), (4, .int ((x4 + (nI 1)) &&& (nI 131071)))] [] σ K) ∧ ((sI σ 56 x4.toNatClampNeg) = x1 → vp_in x4 (lenI 57) ∧ ((¬ (sI σ 57 x4.toNatClampNeg) = x2 → WP g 45 59 (d + 1) M_X3_pair 24 [(0, .ref (eA g 45)), (1, .int x1), (2, .int x2), (3, .int x3), (4, .int ((x4 + (nI 1)) &&& (nI 131071)))] [] σ K) ∧ ((sI σ 57 x4.toNatClampNeg) = x2 → vp_in x4 (lenI 58) ∧ K (some (.int (sI σ 58 x4.toNatClampNeg))) σ))))))) : WP g 45 59 (d + 1) M_X3_pair 24 [(0, .ref (eA g 45)), (1, .int x1), (2, .int x2), (3, .int x3), (4, .int x4)] [] σ K := by
  refine wp_aload_n 0 dX3_pair_24 rfl rfl ?_
  refine wp_get 45 2 12 (by decide) (by decide) rfl rfl inG3 (by decide) wf_X3_39 rfl dX3_pair_25 ?_
  refine wp_iload 4 dX3_pair_28 rfl ?_
  refine wp_iald (by decide) (by decide) dX3_pair_30 h.1 ?_
  replace h := h.2
  refine wp_aload_n 0 dX3_pair_31 rfl rfl ?_
  refine wp_get 45 2 17 (by decide) (by decide) rfl rfl inG3 (by decide) wf_X3_71 rfl dX3_pair_32 ?_
  refine wp_icmp_ne 80 dX3_pair_35 (by decide) (fun c => ?_) (fun c => ?_)
  · replace h := h.1 c
    refine wp_aload_n 0 dX3_pair_80 rfl rfl ?_
    refine wp_get 45 2 12 (by decide) (by decide) rfl rfl inG3 (by decide) wf_X3_39 rfl dX3_pair_81 ?_
    refine wp_iload 4 dX3_pair_84 rfl ?_
    refine wp_aload_n 0 dX3_pair_86 rfl rfl ?_
    refine wp_get 45 2 17 (by decide) (by decide) rfl rfl inG3 (by decide) wf_X3_71 rfl dX3_pair_87 ?_
    refine wp_iast (by decide) (by decide) dX3_pair_90 h.1 ?_
    replace h := h.2
    refine wp_aload_n 0 dX3_pair_91 rfl rfl ?_
    refine wp_get 45 2 13 (by decide) (by decide) rfl rfl inG3 (by decide) wf_X3_42 rfl dX3_pair_92 ?_
    refine wp_iload 4 dX3_pair_95 rfl ?_
    refine wp_iload_n 1 dX3_pair_97 rfl rfl ?_
    refine wp_iast (by decide) (by decide) dX3_pair_98 h.1 ?_
    replace h := h.2
    refine wp_aload_n 0 dX3_pair_99 rfl rfl ?_
    refine wp_get 45 2 14 (by decide) (by decide) rfl rfl inG3 (by decide) wf_X3_45 rfl dX3_pair_100 ?_
    refine wp_iload 4 dX3_pair_103 rfl ?_
    refine wp_iload_n 2 dX3_pair_105 rfl rfl ?_
    refine wp_iast (by decide) (by decide) dX3_pair_106 h.1 ?_
    replace h := h.2
    refine wp_aload_n 0 dX3_pair_107 rfl rfl ?_
    refine wp_get 45 2 15 (by decide) (by decide) rfl rfl inG3 (by decide) wf_X3_48 rfl dX3_pair_108 ?_
    refine wp_iload 4 dX3_pair_111 rfl ?_
    refine wp_aload_n 0 dX3_pair_113 rfl rfl ?_
    refine wp_get 45 2 16 (by decide) (by decide) rfl rfl inG3 (by decide) wf_X3_74 rfl dX3_pair_114 ?_
    refine wp_iast (by decide) (by decide) dX3_pair_117 h.1 ?_
    replace h := h.2
    refine wp_aload_n 0 dX3_pair_118 rfl rfl ?_
    refine wp_dup dX3_pair_119 rfl ?_
    refine wp_get 45 2 16 (by decide) (by decide) rfl rfl inG3 (by decide) wf_X3_74 rfl dX3_pair_120 ?_
    refine wp_iconst (nI 1) dX3_pair_123 (by decide) ?_
    refine wp_iadd dX3_pair_124 ?_
    refine wp_put (ty := .int) 45 2 16 tyX3 tyX3_ok nmX3 (uV (uI (uI (uI (uI σ 55 x4.toNatClampNeg (sV σ 12)) 56 x4.toNatClampNeg x1) 57 x4.toNatClampNeg x2) 58 x4.toNatClampNeg (sV (uI (uI (uI σ 55 x4.toNatClampNeg (sV σ 12)) 56 x4.toNatClampNeg x1) 57 x4.toNatClampNeg x2) 11)) 11 ((sV (uI (uI (uI (uI σ 55 x4.toNatClampNeg (sV σ 12)) 56 x4.toNatClampNeg x1) 57 x4.toNatClampNeg x2) 58 x4.toNatClampNeg (sV (uI (uI (uI σ 55 x4.toNatClampNeg (sV σ 12)) 56 x4.toNatClampNeg x1) 57 x4.toNatClampNeg x2) 11)) 11) + (nI 1))) (by decide) (by decide) rfl rfl inG3 (by decide) wf_X3_74 rfl (by decide +kernel) rfl rfl (Nat.le_of_ble_eq_true rfl) dX3_pair_125 rfl (wcell_uV45 (by decide)) ?_
    refine wp_aload_n 0 dX3_pair_128 rfl rfl ?_
    refine wp_get 45 2 11 (by decide) (by decide) rfl rfl inG3 (by decide) wf_X3_36 rfl dX3_pair_129 ?_
    refine wp_iload_n 3 dX3_pair_132 rfl rfl ?_
    refine wp_dup2 dX3_pair_133 rfl rfl ?_
    refine wp_iald (by decide) (by decide) dX3_pair_134 h.1 ?_
    replace h := h.2
    refine wp_iconst (nI 1) dX3_pair_135 (by decide) ?_
    refine wp_iadd dX3_pair_136 ?_
    refine wp_iast (by decide) (by decide) dX3_pair_137 h.1 ?_
    replace h := h.2
    refine wp_aload_n 0 dX3_pair_138 rfl rfl ?_
    refine wp_get 45 2 15 (by decide) (by decide) rfl rfl inG3 (by decide) wf_X3_48 rfl dX3_pair_139 ?_
    refine wp_iload 4 dX3_pair_142 rfl ?_
    refine wp_iald (by decide) (by decide) dX3_pair_144 h.1 ?_
    replace h := h.2
    exact wp_iret rfl dX3_pair_145 h
  · replace h := h.2 c
    refine wp_aload_n 0 dX3_pair_38 rfl rfl ?_
    refine wp_get 45 2 13 (by decide) (by decide) rfl rfl inG3 (by decide) wf_X3_42 rfl dX3_pair_39 ?_
    refine wp_iload 4 dX3_pair_42 rfl ?_
    refine wp_iald (by decide) (by decide) dX3_pair_44 h.1 ?_
    replace h := h.2
    refine wp_iload_n 1 dX3_pair_45 rfl rfl ?_
    refine wp_icmp_ne 68 dX3_pair_46 (by decide) (fun c => ?_) (fun c => ?_)
    · replace h := h.1 c
      refine wp_iload 4 dX3_pair_68 rfl ?_
      refine wp_iconst (nI 1) dX3_pair_70 (by decide) ?_
      refine wp_iadd dX3_pair_71 ?_
      refine wp_ldc (v := (nI 131071)) wk_X3_70 dX3_pair_72 ?_
      refine wp_iand dX3_pair_74 ?_
      refine wp_istore (lv' := [(4, .int ((x4 + (nI 1)) &&& (nI 131071))), (0, .ref (eA g 45)), (1, .int x1), (2, .int x2), (3, .int x3)]) dX3_pair_75 (by decide) rfl ?_
      refine wp_goto 24 dX3_pair_77 (by decide) ?_
      exact wp_sub [1, 2, 3, 4, 0] rfl h
    · replace h := h.2 c
      refine wp_aload_n 0 dX3_pair_49 rfl rfl ?_
      refine wp_get 45 2 14 (by decide) (by decide) rfl rfl inG3 (by decide) wf_X3_45 rfl dX3_pair_50 ?_
      refine wp_iload 4 dX3_pair_53 rfl ?_
      refine wp_iald (by decide) (by decide) dX3_pair_55 h.1 ?_
      replace h := h.2
      refine wp_iload_n 2 dX3_pair_56 rfl rfl ?_
      refine wp_icmp_ne 68 dX3_pair_57 (by decide) (fun c => ?_) (fun c => ?_)
      · replace h := h.1 c
        refine wp_iload 4 dX3_pair_68 rfl ?_
        refine wp_iconst (nI 1) dX3_pair_70 (by decide) ?_
        refine wp_iadd dX3_pair_71 ?_
        refine wp_ldc (v := (nI 131071)) wk_X3_70 dX3_pair_72 ?_
        refine wp_iand dX3_pair_74 ?_
        refine wp_istore (lv' := [(4, .int ((x4 + (nI 1)) &&& (nI 131071))), (0, .ref (eA g 45)), (1, .int x1), (2, .int x2), (3, .int x3)]) dX3_pair_75 (by decide) rfl ?_
        refine wp_goto 24 dX3_pair_77 (by decide) ?_
        exact wp_sub [1, 2, 3, 4, 0] rfl h
      · replace h := h.2 c
        refine wp_aload_n 0 dX3_pair_60 rfl rfl ?_
        refine wp_get 45 2 15 (by decide) (by decide) rfl rfl inG3 (by decide) wf_X3_48 rfl dX3_pair_61 ?_
        refine wp_iload 4 dX3_pair_64 rfl ?_
        refine wp_iald (by decide) (by decide) dX3_pair_66 h.1 ?_
        replace h := h.2
        exact wp_iret rfl dX3_pair_67 h
set_option maxRecDepth 100000 in
set_option maxHeartbeats 4000000 in
theorem E_X3_spread (g : Ev) (d : Nat) (x1 : Int32) (k2 : Nat) (σ : St) (K : Option Value → St → Prop) (h : WP g 45 59 (d + 1) M_X3_spread 5 [(0, .ref (eA g 45)), (1, .int x1), (2, .ref (eA g k2)), (3, .int (nI 0)), (4, .int (nI 0))] [] σ K) : Runs g 45 59 (d + 1) M_X3_spread [.ref (eA g 45), .int x1, .ref (eA g k2)] σ K := by
  refine Runs.of (by decide) (Nat.le_of_ble_eq_true rfl) ?_
  show WP g 45 59 (d + 1) M_X3_spread 0 [(0, .ref (eA g 45)), (1, .int x1), (2, .ref (eA g k2))] [] σ K
  refine wp_iconst (nI 0) dX3_spread_0 (by decide) ?_
  refine wp_istore_n (lv' := [(3, .int (nI 0)), (0, .ref (eA g 45)), (1, .int x1), (2, .ref (eA g k2))]) dX3_spread_1 rfl (by decide) rfl ?_
  refine wp_iconst (nI 0) dX3_spread_2 (by decide) ?_
  refine wp_istore (lv' := [(4, .int (nI 0)), (3, .int (nI 0)), (0, .ref (eA g 45)), (1, .int x1), (2, .ref (eA g k2))]) dX3_spread_3 (by decide) rfl ?_
  exact wp_sub [2, 3, 4, 1, 0] rfl h
set_option maxRecDepth 100000 in
set_option maxHeartbeats 4000000 in
theorem R_X3_spread_5 (g : Ev) (d : Nat) (x1 : Int32) (k2 : Nat) (x3 : Int32) (x4 : Int32) (σ : St) (K : Option Value → St → Prop) (h : (((sV σ 8) ≤ x4 → K (some (.int x3)) σ) ∧ (¬ (sV σ 8) ≤ x4 → ((¬ ((jshr x1 (((sV σ 8) - (nI 1)) - x4)) &&& (nI 1)) = (nI 1) → WP g 45 59 (d + 1) M_X3_spread 5 [(0, .ref (eA g 45)), (1, .int x1), (2, .ref (eA g k2)), (3, .int x3), (4, .int (x4 + (nI 1)))] [] σ K) ∧ (((jshr x1 (((sV σ 8) - (nI 1)) - x4)) &&& (nI 1)) = (nI 1) → ((45 ≤ k2 ∧ k2 < 59) ∧ vp_in x4 (lenI k2)) ∧ WP g 45 59 (d + 1) M_X3_spread 5 [(0, .ref (eA g 45)), (1, .int x1), (2, .ref (eA g k2)), (3, .int (x3 ||| (jshl (nI 1) (sI σ k2 x4.toNatClampNeg)))), (4, .int (x4 + (nI 1)))] [] σ K))))) : WP g 45 59 (d + 1) M_X3_spread 5 [(0, .ref (eA g 45)), (1, .int x1), (2, .ref (eA g k2)), (3, .int x3), (4, .int x4)] [] σ K := by
  refine wp_iload 4 dX3_spread_5 rfl ?_
  refine wp_aload_n 0 dX3_spread_7 rfl rfl ?_
  refine wp_get 45 2 0 (by decide) (by decide) rfl rfl inG3 (by decide) wf_X3_55 rfl dX3_spread_8 ?_
  refine wp_icmp_ge 46 dX3_spread_11 (by decide) (fun c => ?_) (fun c => ?_)
  · replace h := h.1 c
    refine wp_iload_n 3 dX3_spread_46 rfl rfl ?_
    exact wp_iret rfl dX3_spread_47 h
  · replace h := h.2 c
    refine wp_iload_n 1 dX3_spread_14 rfl rfl ?_
    refine wp_aload_n 0 dX3_spread_15 rfl rfl ?_
    refine wp_get 45 2 0 (by decide) (by decide) rfl rfl inG3 (by decide) wf_X3_55 rfl dX3_spread_16 ?_
    refine wp_iconst (nI 1) dX3_spread_19 (by decide) ?_
    refine wp_isub dX3_spread_20 ?_
    refine wp_iload 4 dX3_spread_21 rfl ?_
    refine wp_isub dX3_spread_23 ?_
    refine wp_ishr dX3_spread_24 ?_
    refine wp_iconst (nI 1) dX3_spread_25 (by decide) ?_
    refine wp_iand dX3_spread_26 ?_
    refine wp_iconst (nI 1) dX3_spread_27 (by decide) ?_
    refine wp_icmp_ne 40 dX3_spread_28 (by decide) (fun c => ?_) (fun c => ?_)
    · replace h := h.1 c
      refine wp_iinc 4 (nI 1) (lv' := [(4, .int (x4 + (nI 1))), (0, .ref (eA g 45)), (1, .int x1), (2, .ref (eA g k2)), (3, .int x3)]) dX3_spread_40 (by decide) rfl (by decide) rfl ?_
      refine wp_goto 5 dX3_spread_43 (by decide) ?_
      exact wp_sub [1, 2, 3, 4, 0] rfl h
    · replace h := h.2 c
      refine wp_iload_n 3 dX3_spread_31 rfl rfl ?_
      refine wp_iconst (nI 1) dX3_spread_32 (by decide) ?_
      refine wp_aload_n 2 dX3_spread_33 rfl rfl ?_
      refine wp_iload 4 dX3_spread_34 rfl ?_
      refine wp_iald h.1.1.1 h.1.1.2 dX3_spread_36 h.1.2 ?_
      replace h := h.2
      refine wp_ishl dX3_spread_37 ?_
      refine wp_ior dX3_spread_38 ?_
      refine wp_istore_n (lv' := [(3, .int (x3 ||| (jshl (nI 1) (sI σ k2 x4.toNatClampNeg)))), (0, .ref (eA g 45)), (1, .int x1), (2, .ref (eA g k2)), (4, .int x4)]) dX3_spread_39 rfl (by decide) rfl ?_
      refine wp_iinc 4 (nI 1) (lv' := [(4, .int (x4 + (nI 1))), (3, .int (x3 ||| (jshl (nI 1) (sI σ k2 x4.toNatClampNeg)))), (0, .ref (eA g 45)), (1, .int x1), (2, .ref (eA g k2))]) dX3_spread_40 (by decide) rfl (by decide) rfl ?_
      refine wp_goto 5 dX3_spread_43 (by decide) ?_
      exact wp_sub [2, 3, 4, 1, 0] rfl h
set_option maxRecDepth 100000 in
set_option maxHeartbeats 4000000 in
theorem E_X3_forks (g : Ev) (d : Nat) (x1 : Int32) (x2 : Int32) (x3 : Int32) (k4 : Nat) (σ : St) (K : Option Value → St → Prop) (h : WP g 45 59 (d + 1) M_X3_forks 8 [(0, .ref (eA g 45)), (1, .int x1), (2, .int x2), (3, .int x3), (4, .ref (eA g k4)), (5, .int (nI 0))] [] (uV σ 11 (nI 2)) K) : Runs g 45 59 (d + 1) M_X3_forks [.ref (eA g 45), .int x1, .int x2, .int x3, .ref (eA g k4)] σ K := by
  refine Runs.of (by decide) (Nat.le_of_ble_eq_true rfl) ?_
  show WP g 45 59 (d + 1) M_X3_forks 0 [(0, .ref (eA g 45)), (1, .int x1), (2, .int x2), (3, .int x3), (4, .ref (eA g k4))] [] σ K
  refine wp_aload_n 0 dX3_forks_0 rfl rfl ?_
  refine wp_iconst (nI 2) dX3_forks_1 (by decide) ?_
  refine wp_put (ty := .int) 45 2 16 tyX3 tyX3_ok nmX3 (uV σ 11 (nI 2)) (by decide) (by decide) rfl rfl inG3 (by decide) wf_X3_74 rfl (by decide +kernel) rfl rfl (Nat.le_of_ble_eq_true rfl) dX3_forks_2 rfl (wcell_uV45 (by decide)) ?_
  refine wp_iconst (nI 0) dX3_forks_5 (by decide) ?_
  refine wp_istore (lv' := [(5, .int (nI 0)), (0, .ref (eA g 45)), (1, .int x1), (2, .int x2), (3, .int x3), (4, .ref (eA g k4))]) dX3_forks_6 (by decide) rfl ?_
  exact wp_sub [1, 2, 3, 4, 5, 0] rfl h
set_option maxRecDepth 100000 in
set_option maxHeartbeats 4000000 in
theorem R_X3_forks_8 (g : Ev) (d : Nat) (x1 : Int32) (x2 : Int32) (x3 : Int32) (k4 : Nat) (x5 : Int32) (σ : St) (K : Option Value → St → Prop) (h : (((sV σ 8) ≤ x5 → WP g 45 59 (d + 1) M_X3_forks 34 [(0, .ref (eA g 45)), (1, .int x1), (2, .int x2), (3, .int x3), (4, .ref (eA g k4)), (5, .int (nI 0))] [] σ K) ∧ (¬ (sV σ 8) ≤ x5 → vp_in x5 (lenI 54) ∧ WP g 45 59 (d + 1) M_X3_forks 8 [(0, .ref (eA g 45)), (1, .int x1), (2, .int x2), (3, .int x3), (4, .ref (eA g k4)), (5, .int (x5 + (nI 1)))] [] (uI σ 54 x5.toNatClampNeg (nI 0)) K))) : WP g 45 59 (d + 1) M_X3_forks 8 [(0, .ref (eA g 45)), (1, .int x1), (2, .int x2), (3, .int x3), (4, .ref (eA g k4)), (5, .int x5)] [] σ K := by
  refine wp_iload 5 dX3_forks_8 rfl ?_
  refine wp_aload_n 0 dX3_forks_10 rfl rfl ?_
  refine wp_get 45 2 0 (by decide) (by decide) rfl rfl inG3 (by decide) wf_X3_55 rfl dX3_forks_11 ?_
  refine wp_icmp_ge 31 dX3_forks_14 (by decide) (fun c => ?_) (fun c => ?_)
  · replace h := h.1 c
    refine wp_iconst (nI 0) dX3_forks_31 (by decide) ?_
    refine wp_istore (lv' := [(5, .int (nI 0)), (0, .ref (eA g 45)), (1, .int x1), (2, .int x2), (3, .int x3), (4, .ref (eA g k4))]) dX3_forks_32 (by decide) rfl ?_
    exact wp_sub [1, 2, 3, 4, 5, 0] rfl h
  · replace h := h.2 c
    refine wp_aload_n 0 dX3_forks_17 rfl rfl ?_
    refine wp_get 45 2 11 (by decide) (by decide) rfl rfl inG3 (by decide) wf_X3_36 rfl dX3_forks_18 ?_
    refine wp_iload 5 dX3_forks_21 rfl ?_
    refine wp_iconst (nI 0) dX3_forks_23 (by decide) ?_
    refine wp_iast (by decide) (by decide) dX3_forks_24 h.1 ?_
    replace h := h.2
    refine wp_iinc 5 (nI 1) (lv' := [(5, .int (x5 + (nI 1))), (0, .ref (eA g 45)), (1, .int x1), (2, .int x2), (3, .int x3), (4, .ref (eA g k4))]) dX3_forks_25 (by decide) rfl (by decide) rfl ?_
    refine wp_goto 8 dX3_forks_28 (by decide) ?_
    exact wp_sub [1, 2, 3, 4, 5, 0] rfl h
set_option maxRecDepth 100000 in
set_option maxHeartbeats 4000000 in
theorem R_X3_forks_34 (g : Ev) (d : Nat) (x1 : Int32) (x2 : Int32) (x3 : Int32) (k4 : Nat) (x5 : Int32) (σ : St) (K : Option Value → St → Prop) (h : (((sV σ 9) ≤ x5 → WP g 45 59 (d + 1) M_X3_forks 131 [(0, .ref (eA g 45)), (1, .int x1), (2, .int x2), (5, .int ((sV σ 8) - (nI 1)))] [] σ K) ∧ (¬ (sV σ 9) ≤ x5 → Runs g 45 59 d M_X3_spread [.ref (eA g 45), .int x5, .ref (eA g k4)] σ (fun r1 σ1 => ∃ v1 : Int32, r1 = some (.int v1) ∧ WP g 45 59 (d + 1) M_X3_forks 56 [(0, .ref (eA g 45)), (1, .int x1), (2, .int x2), (3, .int x3), (4, .ref (eA g k4)), (5, .int x5), (6, .int v1), (7, .int x1)] [] σ1 K)))) : WP g 45 59 (d + 1) M_X3_forks 34 [(0, .ref (eA g 45)), (1, .int x1), (2, .int x2), (3, .int x3), (4, .ref (eA g k4)), (5, .int x5)] [] σ K := by
  refine wp_iload 5 dX3_forks_34 rfl ?_
  refine wp_aload_n 0 dX3_forks_36 rfl rfl ?_
  refine wp_get 45 2 1 (by decide) (by decide) rfl rfl inG3 (by decide) wf_X3_59 rfl dX3_forks_37 ?_
  refine wp_icmp_ge 123 dX3_forks_40 (by decide) (fun c => ?_) (fun c => ?_)
  · replace h := h.1 c
    refine wp_aload_n 0 dX3_forks_123 rfl rfl ?_
    refine wp_get 45 2 0 (by decide) (by decide) rfl rfl inG3 (by decide) wf_X3_55 rfl dX3_forks_124 ?_
    refine wp_iconst (nI 1) dX3_forks_127 (by decide) ?_
    refine wp_isub dX3_forks_128 ?_
    refine wp_istore (lv' := [(5, .int ((sV σ 8) - (nI 1))), (0, .ref (eA g 45)), (1, .int x1), (2, .int x2), (3, .int x3), (4, .ref (eA g k4))]) dX3_forks_129 (by decide) rfl ?_
    exact wp_sub [1, 2, 3, 0] rfl h
  · replace h := h.2 c
    refine wp_aload_n 0 dX3_forks_43 rfl rfl ?_
    refine wp_iload 5 dX3_forks_44 rfl ?_
    refine wp_aload 4 dX3_forks_46 rfl ?_
    refine wp_callV [.int x5, .ref (eA g k4)] [] 45 2 (by decide) (by decide) rfl rfl wc_X3_spread wm_X3_77 ws_X3_spread we_X3_spread wi_X3 ok_X3_spread (by decide) (Nat.le_of_ble_eq_true rfl) dX3_forks_48 rfl h ?_
    rintro r1 σ1 ⟨v1, rfl, h⟩
    show WP g 45 59 (d + 1) M_X3_forks 51 [(0, .ref (eA g 45)), (1, .int x1), (2, .int x2), (3, .int x3), (4, .ref (eA g k4)), (5, .int x5)] [.int v1] σ1 K
    refine wp_istore (lv' := [(6, .int v1), (0, .ref (eA g 45)), (1, .int x1), (2, .int x2), (3, .int x3), (4, .ref (eA g k4)), (5, .int x5)]) dX3_forks_51 (by decide) rfl ?_
    refine wp_iload_n 2 dX3_forks_53 rfl rfl ?_
    refine wp_istore (lv' := [(7, .int x1), (6, .int v1), (0, .ref (eA g 45)), (1, .int x1), (2, .int x2), (3, .int x3), (4, .ref (eA g k4)), (5, .int x5)]) dX3_forks_54 (by decide) rfl ?_
    exact wp_sub [2, 3, 4, 5, 6, 7, 1, 0] rfl h
set_option maxRecDepth 100000 in
set_option maxHeartbeats 4000000 in
theorem R_X3_forks_131 (g : Ev) (d : Nat) (x1 : Int32) (x2 : Int32) (x5 : Int32) (σ : St) (K : Option Value → St → Prop) (h : ((x5 < nI 0 → K (some (.int ((sV σ 11) - (nI 2)))) σ) ∧ (¬ x5 < nI 0 → WP g 45 59 (d + 1) M_X3_forks 149 [(0, .ref (eA g 45)), (1, .int x1), (2, .int x2), (5, .int x5), (6, .int x1)] [] (uV σ 12 ((sV σ 12) + (nI 1))) K))) : WP g 45 59 (d + 1) M_X3_forks 131 [(0, .ref (eA g 45)), (1, .int x1), (2, .int x2), (5, .int x5)] [] σ K := by
  refine wp_iload 3 dX3_forks_131 rfl ?_
  refine wp_if_lt 285 dX3_forks_133 (by decide) (fun c => ?_) (fun c => ?_)
  · replace h := h.1 c
    refine wp_aload_n 0 dX3_forks_285 rfl rfl ?_
    refine wp_get 45 2 16 (by decide) (by decide) rfl rfl inG3 (by decide) wf_X3_74 rfl dX3_forks_286 ?_
    refine wp_iconst (nI 2) dX3_forks_289 (by decide) ?_
    refine wp_isub dX3_forks_290 ?_
    exact wp_iret rfl dX3_forks_291 h
  · replace h := h.2 c
    refine wp_aload_n 0 dX3_forks_136 rfl rfl ?_
    refine wp_dup dX3_forks_137 rfl ?_
    refine wp_get 45 2 17 (by decide) (by decide) rfl rfl inG3 (by decide) wf_X3_71 rfl dX3_forks_138 ?_
    refine wp_iconst (nI 1) dX3_forks_141 (by decide) ?_
    refine wp_iadd dX3_forks_142 ?_
    refine wp_put (ty := .int) 45 2 17 tyX3 tyX3_ok nmX3 (uV σ 12 ((sV σ 12) + (nI 1))) (by decide) (by decide) rfl rfl inG3 (by decide) wf_X3_71 rfl (by decide +kernel) rfl rfl (Nat.le_of_ble_eq_true rfl) dX3_forks_143 rfl (wcell_uV45 (by decide)) ?_
    refine wp_iload_n 1 dX3_forks_146 rfl rfl ?_
    refine wp_istore (lv' := [(6, .int x1), (0, .ref (eA g 45)), (1, .int x1), (2, .int x2), (5, .int x5)]) dX3_forks_147 (by decide) rfl ?_
    exact wp_sub [1, 2, 3, 4, 0] rfl h
set_option maxRecDepth 100000 in
set_option maxHeartbeats 4000000 in
theorem R_X3_forks_56 (g : Ev) (d : Nat) (x1 : Int32) (x2 : Int32) (x3 : Int32) (k4 : Nat) (x5 : Int32) (x6 : Int32) (x7 : Int32) (σ : St) (K : Option Value → St → Prop) (h : ((x2 ≤ x7 → WP g 45 59 (d + 1) M_X3_forks 34 [(0, .ref (eA g 45)), (1, .int x1), (2, .int x2), (3, .int x3), (4, .ref (eA g k4)), (5, .int (x5 + (nI 1)))] [] σ K) ∧ (¬ x2 ≤ x7 → ((¬ x7 = x3 → Runs g 45 59 d M_X3_get [.ref (eA g 45), .int x7, .int x6] σ (fun r1 σ1 => ∃ v1 : Int32, r1 = some (.int v1) ∧ ((v1 = nI 0 → vp_in (((nI 4096) * x7) + x5) (lenI 52) ∧ WP g 45 59 (d + 1) M_X3_forks 56 [(0, .ref (eA g 45)), (1, .int x1), (2, .int x2), (3, .int x3), (4, .ref (eA g k4)), (5, .int x5), (6, .int x6), (7, .int (x7 + (nI 1)))] [] (uI σ1 52 (((nI 4096) * x7) + x5).toNatClampNeg (nI 0)) K) ∧ (¬ v1 = nI 0 → vp_in (((nI 4096) * x7) + x5) (lenI 52) ∧ WP g 45 59 (d + 1) M_X3_forks 56 [(0, .ref (eA g 45)), (1, .int x1), (2, .int x2), (3, .int x3), (4, .ref (eA g k4)), (5, .int x5), (6, .int x6), (7, .int (x7 + (nI 1)))] [] (uI σ1 52 (((nI 4096) * x7) + x5).toNatClampNeg (nI 1)) K)))) ∧ (x7 = x3 → vp_in x6 (lenZ 47) ∧ (((sI σ 47 x6.toNatClampNeg) = nI 0 → vp_in (((nI 4096) * x7) + x5) (lenI 52) ∧ WP g 45 59 (d + 1) M_X3_forks 56 [(0, .ref (eA g 45)), (1, .int x1), (2, .int x2), (3, .int x3), (4, .ref (eA g k4)), (5, .int x5), (6, .int x6), (7, .int (x7 + (nI 1)))] [] (uI σ 52 (((nI 4096) * x7) + x5).toNatClampNeg (nI 0)) K) ∧ (¬ (sI σ 47 x6.toNatClampNeg) = nI 0 → vp_in (((nI 4096) * x7) + x5) (lenI 52) ∧ WP g 45 59 (d + 1) M_X3_forks 56 [(0, .ref (eA g 45)), (1, .int x1), (2, .int x2), (3, .int x3), (4, .ref (eA g k4)), (5, .int x5), (6, .int x6), (7, .int (x7 + (nI 1)))] [] (uI σ 52 (((nI 4096) * x7) + x5).toNatClampNeg (nI 1)) K))))))) : WP g 45 59 (d + 1) M_X3_forks 56 [(0, .ref (eA g 45)), (1, .int x1), (2, .int x2), (3, .int x3), (4, .ref (eA g k4)), (5, .int x5), (6, .int x6), (7, .int x7)] [] σ K := by
  refine wp_iload 7 dX3_forks_56 rfl ?_
  refine wp_iload_n 2 dX3_forks_58 rfl rfl ?_
  refine wp_icmp_ge 117 dX3_forks_59 (by decide) (fun c => ?_) (fun c => ?_)
  · replace h := h.1 c
    refine wp_iinc 5 (nI 1) (lv' := [(5, .int (x5 + (nI 1))), (0, .ref (eA g 45)), (1, .int x1), (2, .int x2), (3, .int x3), (4, .ref (eA g k4)), (6, .int x6), (7, .int x7)]) dX3_forks_117 (by decide) rfl (by decide) rfl ?_
    refine wp_goto 34 dX3_forks_120 (by decide) ?_
    exact wp_sub [1, 2, 3, 4, 5, 0] rfl h
  · replace h := h.2 c
    refine wp_aload_n 0 dX3_forks_62 rfl rfl ?_
    refine wp_get 45 2 9 (by decide) (by decide) rfl rfl inG3 (by decide) wf_X3_30 rfl dX3_forks_63 ?_
    refine wp_sipush (nI 4096) dX3_forks_66 (by decide) ?_
    refine wp_iload 7 dX3_forks_69 rfl ?_
    refine wp_imul dX3_forks_71 ?_
    refine wp_iload 5 dX3_forks_72 rfl ?_
    refine wp_iadd dX3_forks_74 ?_
    refine wp_iload 7 dX3_forks_75 rfl ?_
    refine wp_iload_n 3 dX3_forks_77 rfl rfl ?_
    refine wp_icmp_ne 94 dX3_forks_78 (by decide) (fun c => ?_) (fun c => ?_)
    · replace h := h.1 c
      refine wp_aload_n 0 dX3_forks_94 rfl rfl ?_
      refine wp_iload 7 dX3_forks_95 rfl ?_
      refine wp_iload 6 dX3_forks_97 rfl ?_
      refine wp_callV [.int x7, .int x6] [.int (((nI 4096) * x7) + x5), .ref (eA g 52)] 45 2 (by decide) (by decide) rfl rfl wc_X3_get wm_X3_81 ws_X3_get we_X3_get wi_X3 ok_X3_get (by decide) (Nat.le_of_ble_eq_true rfl) dX3_forks_99 rfl h ?_
      rintro r1 σ1 ⟨v1, rfl, h⟩
      show WP g 45 59 (d + 1) M_X3_forks 102 [(0, .ref (eA g 45)), (1, .int x1), (2, .int x2), (3, .int x3), (4, .ref (eA g k4)), (5, .int x5), (6, .int x6), (7, .int x7)] [.int v1, .int (((nI 4096) * x7) + x5), .ref (eA g 52)] σ1 K
      refine wp_if_eq 109 dX3_forks_102 (by decide) (fun c => ?_) (fun c => ?_)
      · replace h := h.1 c
        refine wp_iconst (nI 0) dX3_forks_109 (by decide) ?_
        refine wp_iast (by decide) (by decide) dX3_forks_110 h.1 ?_
        replace h := h.2
        refine wp_iinc 7 (nI 1) (lv' := [(7, .int (x7 + (nI 1))), (0, .ref (eA g 45)), (1, .int x1), (2, .int x2), (3, .int x3), (4, .ref (eA g k4)), (5, .int x5), (6, .int x6)]) dX3_forks_111 (by decide) rfl (by decide) rfl ?_
        refine wp_goto 56 dX3_forks_114 (by decide) ?_
        exact wp_sub [1, 2, 3, 4, 5, 6, 7, 0] rfl h
      · replace h := h.2 c
        refine wp_iconst (nI 1) dX3_forks_105 (by decide) ?_
        refine wp_goto 110 dX3_forks_106 (by decide) ?_
        refine wp_iast (by decide) (by decide) dX3_forks_110 h.1 ?_
        replace h := h.2
        refine wp_iinc 7 (nI 1) (lv' := [(7, .int (x7 + (nI 1))), (0, .ref (eA g 45)), (1, .int x1), (2, .int x2), (3, .int x3), (4, .ref (eA g k4)), (5, .int x5), (6, .int x6)]) dX3_forks_111 (by decide) rfl (by decide) rfl ?_
        refine wp_goto 56 dX3_forks_114 (by decide) ?_
        exact wp_sub [1, 2, 3, 4, 5, 6, 7, 0] rfl h
    · replace h := h.2 c
      refine wp_aload_n 0 dX3_forks_81 rfl rfl ?_
      refine wp_get 45 2 4 (by decide) (by decide) rfl rfl inG3 (by decide) wf_X3_14 rfl dX3_forks_82 ?_
      refine wp_iload 6 dX3_forks_85 rfl ?_
      refine wp_zald (by decide) (by decide) dX3_forks_87 h.1 ?_
      replace h := h.2
      refine wp_if_eq 109 dX3_forks_88 (by decide) (fun c => ?_) (fun c => ?_)
      · replace h := h.1 c
        refine wp_iconst (nI 0) dX3_forks_109 (by decide) ?_
        refine wp_iast (by decide) (by decide) dX3_forks_110 h.1 ?_
        replace h := h.2
        refine wp_iinc 7 (nI 1) (lv' := [(7, .int (x7 + (nI 1))), (0, .ref (eA g 45)), (1, .int x1), (2, .int x2), (3, .int x3), (4, .ref (eA g k4)), (5, .int x5), (6, .int x6)]) dX3_forks_111 (by decide) rfl (by decide) rfl ?_
        refine wp_goto 56 dX3_forks_114 (by decide) ?_
        exact wp_sub [1, 2, 3, 4, 5, 6, 7, 0] rfl h
      · replace h := h.2 c
        refine wp_goto 105 dX3_forks_91 (by decide) ?_
        refine wp_iconst (nI 1) dX3_forks_105 (by decide) ?_
        refine wp_goto 110 dX3_forks_106 (by decide) ?_
        refine wp_iast (by decide) (by decide) dX3_forks_110 h.1 ?_
        replace h := h.2
        refine wp_iinc 7 (nI 1) (lv' := [(7, .int (x7 + (nI 1))), (0, .ref (eA g 45)), (1, .int x1), (2, .int x2), (3, .int x3), (4, .ref (eA g k4)), (5, .int x5), (6, .int x6)]) dX3_forks_111 (by decide) rfl (by decide) rfl ?_
        refine wp_goto 56 dX3_forks_114 (by decide) ?_
        exact wp_sub [1, 2, 3, 4, 5, 6, 7, 0] rfl h
set_option maxRecDepth 100000 in
set_option maxHeartbeats 4000000 in
theorem R_X3_forks_149 (g : Ev) (d : Nat) (x1 : Int32) (x2 : Int32) (x5 : Int32) (x6 : Int32) (σ : St) (K : Option Value → St → Prop) (h : ((x2 ≤ x6 → WP g 45 59 (d + 1) M_X3_forks 131 [(0, .ref (eA g 45)), (1, .int x1), (2, .int x2), (5, .int (x5 + (-1)))] [] σ K) ∧ (¬ x2 ≤ x6 → WP g 45 59 (d + 1) M_X3_forks 158 [(0, .ref (eA g 45)), (1, .int x1), (2, .int x2), (5, .int x5), (6, .int x6), (7, .int (nI 0))] [] σ K))) : WP g 45 59 (d + 1) M_X3_forks 149 [(0, .ref (eA g 45)), (1, .int x1), (2, .int x2), (5, .int x5), (6, .int x6)] [] σ K := by
  refine wp_iload 4 dX3_forks_149 rfl ?_
  refine wp_iload_n 2 dX3_forks_151 rfl rfl ?_
  refine wp_icmp_ge 279 dX3_forks_152 (by decide) (fun c => ?_) (fun c => ?_)
  · replace h := h.1 c
    refine wp_iinc 3 (-1) (lv' := [(5, .int (x5 + (-1))), (0, .ref (eA g 45)), (1, .int x1), (2, .int x2), (6, .int x6)]) dX3_forks_279 (by decide) rfl (by decide) rfl ?_
    refine wp_goto 131 dX3_forks_282 (by decide) ?_
    exact wp_sub [1, 2, 3, 0] rfl h
  · replace h := h.2 c
    refine wp_iconst (nI 0) dX3_forks_155 (by decide) ?_
    refine wp_istore (lv' := [(7, .int (nI 0)), (0, .ref (eA g 45)), (1, .int x1), (2, .int x2), (5, .int x5), (6, .int x6)]) dX3_forks_156 (by decide) rfl ?_
    exact wp_sub [1, 2, 3, 4, 5, 0] rfl h
set_option maxRecDepth 100000 in
set_option maxHeartbeats 4000000 in
theorem R_X3_forks_158 (g : Ev) (d : Nat) (x1 : Int32) (x2 : Int32) (x5 : Int32) (x6 : Int32) (x7 : Int32) (σ : St) (K : Option Value → St → Prop) (h : (((jshl (nI 1) x5) ≤ x7 → WP g 45 59 (d + 1) M_X3_forks 230 [(0, .ref (eA g 45)), (1, .int x1), (2, .int x2), (5, .int x5), (6, .int x6), (7, .int (nI 0))] [] σ K) ∧ (¬ (jshl (nI 1) x5) ≤ x7 → vp_in (((nI 4096) * x6) + ((nI 2) * x7)) (lenI 52) ∧ vp_in ((((nI 4096) * x6) + ((nI 2) * x7)) + (nI 1)) (lenI 52) ∧ Runs g 45 59 d M_X3_pair [.ref (eA g 45), .int (sI σ 52 (((nI 4096) * x6) + ((nI 2) * x7)).toNatClampNeg), .int (sI σ 52 ((((nI 4096) * x6) + ((nI 2) * x7)) + (nI 1)).toNatClampNeg), .int x5] σ (fun r1 σ1 => ∃ v1 : Int32, r1 = some (.int v1) ∧ vp_in (((nI 4096) * x6) + x7) (lenI 53) ∧ WP g 45 59 (d + 1) M_X3_forks 158 [(0, .ref (eA g 45)), (1, .int x1), (2, .int x2), (5, .int x5), (6, .int x6), (7, .int (x7 + (nI 1)))] [] (uI σ1 53 (((nI 4096) * x6) + x7).toNatClampNeg v1) K)))) : WP g 45 59 (d + 1) M_X3_forks 158 [(0, .ref (eA g 45)), (1, .int x1), (2, .int x2), (5, .int x5), (6, .int x6), (7, .int x7)] [] σ K := by
  refine wp_iload 5 dX3_forks_158 rfl ?_
  refine wp_iconst (nI 1) dX3_forks_160 (by decide) ?_
  refine wp_iload 3 dX3_forks_161 rfl ?_
  refine wp_ishl dX3_forks_163 ?_
  refine wp_icmp_ge 227 dX3_forks_164 (by decide) (fun c => ?_) (fun c => ?_)
  · replace h := h.1 c
    refine wp_iconst (nI 0) dX3_forks_227 (by decide) ?_
    refine wp_istore (lv' := [(7, .int (nI 0)), (0, .ref (eA g 45)), (1, .int x1), (2, .int x2), (5, .int x5), (6, .int x6)]) dX3_forks_228 (by decide) rfl ?_
    exact wp_sub [1, 2, 3, 4, 5, 0] rfl h
  · replace h := h.2 c
    refine wp_aload_n 0 dX3_forks_167 rfl rfl ?_
    refine wp_get 45 2 10 (by decide) (by decide) rfl rfl inG3 (by decide) wf_X3_33 rfl dX3_forks_168 ?_
    refine wp_sipush (nI 4096) dX3_forks_171 (by decide) ?_
    refine wp_iload 4 dX3_forks_174 rfl ?_
    refine wp_imul dX3_forks_176 ?_
    refine wp_iload 5 dX3_forks_177 rfl ?_
    refine wp_iadd dX3_forks_179 ?_
    refine wp_aload_n 0 dX3_forks_180 rfl rfl ?_
    refine wp_aload_n 0 dX3_forks_181 rfl rfl ?_
    refine wp_get 45 2 9 (by decide) (by decide) rfl rfl inG3 (by decide) wf_X3_30 rfl dX3_forks_182 ?_
    refine wp_sipush (nI 4096) dX3_forks_185 (by decide) ?_
    refine wp_iload 4 dX3_forks_188 rfl ?_
    refine wp_imul dX3_forks_190 ?_
    refine wp_iconst (nI 2) dX3_forks_191 (by decide) ?_
    refine wp_iload 5 dX3_forks_192 rfl ?_
    refine wp_imul dX3_forks_194 ?_
    refine wp_iadd dX3_forks_195 ?_
    refine wp_iald (by decide) (by decide) dX3_forks_196 h.1 ?_
    replace h := h.2
    refine wp_aload_n 0 dX3_forks_197 rfl rfl ?_
    refine wp_get 45 2 9 (by decide) (by decide) rfl rfl inG3 (by decide) wf_X3_30 rfl dX3_forks_198 ?_
    refine wp_sipush (nI 4096) dX3_forks_201 (by decide) ?_
    refine wp_iload 4 dX3_forks_204 rfl ?_
    refine wp_imul dX3_forks_206 ?_
    refine wp_iconst (nI 2) dX3_forks_207 (by decide) ?_
    refine wp_iload 5 dX3_forks_208 rfl ?_
    refine wp_imul dX3_forks_210 ?_
    refine wp_iadd dX3_forks_211 ?_
    refine wp_iconst (nI 1) dX3_forks_212 (by decide) ?_
    refine wp_iadd dX3_forks_213 ?_
    refine wp_iald (by decide) (by decide) dX3_forks_214 h.1 ?_
    replace h := h.2
    refine wp_iload 3 dX3_forks_215 rfl ?_
    refine wp_callV [.int (sI σ 52 (((nI 4096) * x6) + ((nI 2) * x7)).toNatClampNeg), .int (sI σ 52 ((((nI 4096) * x6) + ((nI 2) * x7)) + (nI 1)).toNatClampNeg), .int x5] [.int (((nI 4096) * x6) + x7), .ref (eA g 53)] 45 2 (by decide) (by decide) rfl rfl wc_X3_pair wm_X3_84 ws_X3_pair we_X3_pair wi_X3 ok_X3_pair (by decide) (Nat.le_of_ble_eq_true rfl) dX3_forks_217 rfl h ?_
    rintro r1 σ1 ⟨v1, rfl, h⟩
    show WP g 45 59 (d + 1) M_X3_forks 220 [(0, .ref (eA g 45)), (1, .int x1), (2, .int x2), (5, .int x5), (6, .int x6), (7, .int x7)] [.int v1, .int (((nI 4096) * x6) + x7), .ref (eA g 53)] σ1 K
    refine wp_iast (by decide) (by decide) dX3_forks_220 h.1 ?_
    replace h := h.2
    refine wp_iinc 5 (nI 1) (lv' := [(7, .int (x7 + (nI 1))), (0, .ref (eA g 45)), (1, .int x1), (2, .int x2), (5, .int x5), (6, .int x6)]) dX3_forks_221 (by decide) rfl (by decide) rfl ?_
    refine wp_goto 158 dX3_forks_224 (by decide) ?_
    exact wp_sub [1, 2, 3, 4, 5, 0] rfl h
set_option maxRecDepth 100000 in
set_option maxHeartbeats 4000000 in
theorem R_X3_forks_230 (g : Ev) (d : Nat) (x1 : Int32) (x2 : Int32) (x5 : Int32) (x6 : Int32) (x7 : Int32) (σ : St) (K : Option Value → St → Prop) (h : (((jshl (nI 1) x5) ≤ x7 → WP g 45 59 (d + 1) M_X3_forks 149 [(0, .ref (eA g 45)), (1, .int x1), (2, .int x2), (5, .int x5), (6, .int (x6 + (nI 1)))] [] σ K) ∧ (¬ (jshl (nI 1) x5) ≤ x7 → vp_in (((nI 4096) * x6) + x7) (lenI 53) ∧ vp_in (((nI 4096) * x6) + x7) (lenI 52) ∧ WP g 45 59 (d + 1) M_X3_forks 230 [(0, .ref (eA g 45)), (1, .int x1), (2, .int x2), (5, .int x5), (6, .int x6), (7, .int (x7 + (nI 1)))] [] (uI σ 52 (((nI 4096) * x6) + x7).toNatClampNeg (sI σ 53 (((nI 4096) * x6) + x7).toNatClampNeg)) K))) : WP g 45 59 (d + 1) M_X3_forks 230 [(0, .ref (eA g 45)), (1, .int x1), (2, .int x2), (5, .int x5), (6, .int x6), (7, .int x7)] [] σ K := by
  refine wp_iload 5 dX3_forks_230 rfl ?_
  refine wp_iconst (nI 1) dX3_forks_232 (by decide) ?_
  refine wp_iload 3 dX3_forks_233 rfl ?_
  refine wp_ishl dX3_forks_235 ?_
  refine wp_icmp_ge 273 dX3_forks_236 (by decide) (fun c => ?_) (fun c => ?_)
  · replace h := h.1 c
    refine wp_iinc 4 (nI 1) (lv' := [(6, .int (x6 + (nI 1))), (0, .ref (eA g 45)), (1, .int x1), (2, .int x2), (5, .int x5), (7, .int x7)]) dX3_forks_273 (by decide) rfl (by decide) rfl ?_
    refine wp_goto 149 dX3_forks_276 (by decide) ?_
    exact wp_sub [1, 2, 3, 4, 0] rfl h
  · replace h := h.2 c
    refine wp_aload_n 0 dX3_forks_239 rfl rfl ?_
    refine wp_get 45 2 9 (by decide) (by decide) rfl rfl inG3 (by decide) wf_X3_30 rfl dX3_forks_240 ?_
    refine wp_sipush (nI 4096) dX3_forks_243 (by decide) ?_
    refine wp_iload 4 dX3_forks_246 rfl ?_
    refine wp_imul dX3_forks_248 ?_
    refine wp_iload 5 dX3_forks_249 rfl ?_
    refine wp_iadd dX3_forks_251 ?_
    refine wp_aload_n 0 dX3_forks_252 rfl rfl ?_
    refine wp_get 45 2 10 (by decide) (by decide) rfl rfl inG3 (by decide) wf_X3_33 rfl dX3_forks_253 ?_
    refine wp_sipush (nI 4096) dX3_forks_256 (by decide) ?_
    refine wp_iload 4 dX3_forks_259 rfl ?_
    refine wp_imul dX3_forks_261 ?_
    refine wp_iload 5 dX3_forks_262 rfl ?_
    refine wp_iadd dX3_forks_264 ?_
    refine wp_iald (by decide) (by decide) dX3_forks_265 h.1 ?_
    replace h := h.2
    refine wp_iast (by decide) (by decide) dX3_forks_266 h.1 ?_
    replace h := h.2
    refine wp_iinc 5 (nI 1) (lv' := [(7, .int (x7 + (nI 1))), (0, .ref (eA g 45)), (1, .int x1), (2, .int x2), (5, .int x5), (6, .int x6)]) dX3_forks_267 (by decide) rfl (by decide) rfl ?_
    refine wp_goto 230 dX3_forks_270 (by decide) ?_
    exact wp_sub [1, 2, 3, 4, 5, 0] rfl h
set_option maxRecDepth 100000 in
set_option maxHeartbeats 4000000 in
theorem E_X3_puts (g : Ev) (d : Nat) (x1 : Int32) (σ : St) (K : Option Value → St → Prop) (h : Runs g 45 59 d M_X3_forks [.ref (eA g 45), .int (nI 0), .int (nI 32), .int x1, .ref (eA g 50)] σ (fun r1 σ1 => ∃ v1 : Int32, r1 = some (.int v1) ∧ ((v1 ≤ (sV σ1 10) → WP g 45 59 (d + 1) M_X3_puts 24 [(0, .ref (eA g 45)), (1, .int x1), (2, .int (nI 0))] [] σ1 K) ∧ (¬ v1 ≤ (sV σ1 10) → K (some (.int (-8))) σ1)))) : Runs g 45 59 (d + 1) M_X3_puts [.ref (eA g 45), .int x1] σ K := by
  refine Runs.of (by decide) (Nat.le_of_ble_eq_true rfl) ?_
  show WP g 45 59 (d + 1) M_X3_puts 0 [(0, .ref (eA g 45)), (1, .int x1)] [] σ K
  refine wp_aload_n 0 dX3_puts_0 rfl rfl ?_
  refine wp_iconst (nI 0) dX3_puts_1 (by decide) ?_
  refine wp_bipush (nI 32) dX3_puts_2 (by decide) ?_
  refine wp_iload_n 1 dX3_puts_4 rfl rfl ?_
  refine wp_aload_n 0 dX3_puts_5 rfl rfl ?_
  refine wp_get 45 2 7 (by decide) (by decide) rfl rfl inG3 (by decide) wf_X3_24 rfl dX3_puts_6 ?_
  refine wp_callV [.int (nI 0), .int (nI 32), .int x1, .ref (eA g 50)] [] 45 2 (by decide) (by decide) rfl rfl wc_X3_forks wm_X3_88 ws_X3_forks we_X3_forks wi_X3 ok_X3_forks (by decide) (Nat.le_of_ble_eq_true rfl) dX3_puts_9 rfl h ?_
  rintro r1 σ1 ⟨v1, rfl, h⟩
  show WP g 45 59 (d + 1) M_X3_puts 12 [(0, .ref (eA g 45)), (1, .int x1)] [.int v1] σ1 K
  refine wp_aload_n 0 dX3_puts_12 rfl rfl ?_
  refine wp_get 45 2 2 (by decide) (by decide) rfl rfl inG3 (by decide) wf_X3_62 rfl dX3_puts_13 ?_
  refine wp_icmp_le 22 dX3_puts_16 (by decide) (fun c => ?_) (fun c => ?_)
  · replace h := h.1 c
    refine wp_iconst (nI 0) dX3_puts_22 (by decide) ?_
    refine wp_istore_n (lv' := [(2, .int (nI 0)), (0, .ref (eA g 45)), (1, .int x1)]) dX3_puts_23 rfl (by decide) rfl ?_
    exact wp_sub [1, 2, 0] rfl h
  · replace h := h.2 c
    refine wp_bipush (-8) dX3_puts_19 (by decide) ?_
    exact wp_iret rfl dX3_puts_21 h
set_option maxRecDepth 100000 in
set_option maxHeartbeats 4000000 in
theorem R_X3_puts_24 (g : Ev) (d : Nat) (x1 : Int32) (x2 : Int32) (σ : St) (K : Option Value → St → Prop) (h : (((sV σ 9) ≤ x2 → Runs g 45 59 d M_X3_done [.ref (eA g 45)] σ (fun r1 σ1 => ∃ v1 : Int32, r1 = some (.int v1) ∧ K (some (.int v1)) σ1)) ∧ (¬ (sV σ 9) ≤ x2 → vp_in x2 (lenZ 47) ∧ vp_in (((nI 4096) * x1) + x2) (lenZ 46) ∧ WP g 45 59 (d + 1) M_X3_puts 24 [(0, .ref (eA g 45)), (1, .int x1), (2, .int (x2 + (nI 1)))] [] (uI σ 46 (((nI 4096) * x1) + x2).toNatClampNeg (vp_nar .boolean (sI σ 47 x2.toNatClampNeg))) K))) : WP g 45 59 (d + 1) M_X3_puts 24 [(0, .ref (eA g 45)), (1, .int x1), (2, .int x2)] [] σ K := by
  refine wp_iload_n 2 dX3_puts_24 rfl rfl ?_
  refine wp_aload_n 0 dX3_puts_25 rfl rfl ?_
  refine wp_get 45 2 1 (by decide) (by decide) rfl rfl inG3 (by decide) wf_X3_59 rfl dX3_puts_26 ?_
  refine wp_icmp_ge 56 dX3_puts_29 (by decide) (fun c => ?_) (fun c => ?_)
  · replace h := h.1 c
    refine wp_aload_n 0 dX3_puts_56 rfl rfl ?_
    refine wp_callV [] [] 45 2 (by decide) (by decide) rfl rfl wc_X3_done wm_X3_65 ws_X3_done we_X3_done wi_X3 ok_X3_done (by decide) (Nat.le_of_ble_eq_true rfl) dX3_puts_57 rfl h ?_
    rintro r1 σ1 ⟨v1, rfl, h⟩
    show WP g 45 59 (d + 1) M_X3_puts 60 [(0, .ref (eA g 45)), (1, .int x1), (2, .int x2)] [.int v1] σ1 K
    exact wp_iret rfl dX3_puts_60 h
  · replace h := h.2 c
    refine wp_aload_n 0 dX3_puts_32 rfl rfl ?_
    refine wp_get 45 2 3 (by decide) (by decide) rfl rfl inG3 (by decide) wf_X3_10 rfl dX3_puts_33 ?_
    refine wp_sipush (nI 4096) dX3_puts_36 (by decide) ?_
    refine wp_iload_n 1 dX3_puts_39 rfl rfl ?_
    refine wp_imul dX3_puts_40 ?_
    refine wp_iload_n 2 dX3_puts_41 rfl rfl ?_
    refine wp_iadd dX3_puts_42 ?_
    refine wp_aload_n 0 dX3_puts_43 rfl rfl ?_
    refine wp_get 45 2 4 (by decide) (by decide) rfl rfl inG3 (by decide) wf_X3_14 rfl dX3_puts_44 ?_
    refine wp_iload_n 2 dX3_puts_47 rfl rfl ?_
    refine wp_zald (by decide) (by decide) dX3_puts_48 h.1 ?_
    replace h := h.2
    refine wp_zast (by decide) (by decide) dX3_puts_49 h.1 ?_
    replace h := h.2
    refine wp_iinc 2 (nI 1) (lv' := [(2, .int (x2 + (nI 1))), (0, .ref (eA g 45)), (1, .int x1)]) dX3_puts_50 (by decide) rfl (by decide) rfl ?_
    refine wp_goto 24 dX3_puts_53 (by decide) ?_
    exact wp_sub [1, 2, 0] rfl h
set_option maxRecDepth 100000 in
set_option maxHeartbeats 4000000 in
theorem E_X3_constant (g : Ev) (d : Nat) (x1 : Int32) (x2 : Int32) (σ : St) (K : Option Value → St → Prop) (h : Runs g 45 59 d M_X3_isRegister [.ref (eA g 45), .int x1] σ (fun r1 σ1 => ∃ v1 : Int32, r1 = some (.int v1) ∧ ((¬ v1 = nI 0 → WP g 45 59 (d + 1) M_X3_constant 13 [(0, .ref (eA g 45)), (1, .int x1), (2, .int x2), (3, .int (nI 0))] [] σ1 K) ∧ (v1 = nI 0 → K (some (.int (-2))) σ1)))) : Runs g 45 59 (d + 1) M_X3_constant [.ref (eA g 45), .int x1, .int x2] σ K := by
  refine Runs.of (by decide) (Nat.le_of_ble_eq_true rfl) ?_
  show WP g 45 59 (d + 1) M_X3_constant 0 [(0, .ref (eA g 45)), (1, .int x1), (2, .int x2)] [] σ K
  refine wp_aload_n 0 dX3_constant_0 rfl rfl ?_
  refine wp_iload_n 1 dX3_constant_1 rfl rfl ?_
  refine wp_callV [.int x1] [] 45 2 (by decide) (by decide) rfl rfl wc_X3_isRegister wm_X3_92 ws_X3_isRegister we_X3_isRegister wi_X3 ok_X3_isRegister (by decide) (Nat.le_of_ble_eq_true rfl) dX3_constant_2 rfl h ?_
  rintro r1 σ1 ⟨v1, rfl, h⟩
  show WP g 45 59 (d + 1) M_X3_constant 5 [(0, .ref (eA g 45)), (1, .int x1), (2, .int x2)] [.int v1] σ1 K
  refine wp_if_ne 11 dX3_constant_5 (by decide) (fun c => ?_) (fun c => ?_)
  · replace h := h.1 c
    refine wp_iconst (nI 0) dX3_constant_11 (by decide) ?_
    refine wp_istore_n (lv' := [(3, .int (nI 0)), (0, .ref (eA g 45)), (1, .int x1), (2, .int x2)]) dX3_constant_12 rfl (by decide) rfl ?_
    exact wp_sub [1, 2, 3, 0] rfl h
  · replace h := h.2 c
    refine wp_bipush (-2) dX3_constant_8 (by decide) ?_
    exact wp_iret rfl dX3_constant_10 h
set_option maxRecDepth 100000 in
set_option maxHeartbeats 4000000 in
theorem R_X3_constant_13 (g : Ev) (d : Nat) (x1 : Int32) (x2 : Int32) (x3 : Int32) (σ : St) (K : Option Value → St → Prop) (h : (((sV σ 9) ≤ x3 → Runs g 45 59 d M_X3_done [.ref (eA g 45)] σ (fun r1 σ1 => ∃ v1 : Int32, r1 = some (.int v1) ∧ K (some (.int v1)) σ1)) ∧ (¬ (sV σ 9) ≤ x3 → vp_in (((nI 4096) * x1) + x3) (lenZ 46) ∧ WP g 45 59 (d + 1) M_X3_constant 13 [(0, .ref (eA g 45)), (1, .int x1), (2, .int x2), (3, .int (x3 + (nI 1)))] [] (uI σ 46 (((nI 4096) * x1) + x3).toNatClampNeg (vp_nar .boolean x2)) K))) : WP g 45 59 (d + 1) M_X3_constant 13 [(0, .ref (eA g 45)), (1, .int x1), (2, .int x2), (3, .int x3)] [] σ K := by
  refine wp_iload_n 3 dX3_constant_13 rfl rfl ?_
  refine wp_aload_n 0 dX3_constant_14 rfl rfl ?_
  refine wp_get 45 2 1 (by decide) (by decide) rfl rfl inG3 (by decide) wf_X3_59 rfl dX3_constant_15 ?_
  refine wp_icmp_ge 40 dX3_constant_18 (by decide) (fun c => ?_) (fun c => ?_)
  · replace h := h.1 c
    refine wp_aload_n 0 dX3_constant_40 rfl rfl ?_
    refine wp_callV [] [] 45 2 (by decide) (by decide) rfl rfl wc_X3_done wm_X3_65 ws_X3_done we_X3_done wi_X3 ok_X3_done (by decide) (Nat.le_of_ble_eq_true rfl) dX3_constant_41 rfl h ?_
    rintro r1 σ1 ⟨v1, rfl, h⟩
    show WP g 45 59 (d + 1) M_X3_constant 44 [(0, .ref (eA g 45)), (1, .int x1), (2, .int x2), (3, .int x3)] [.int v1] σ1 K
    exact wp_iret rfl dX3_constant_44 h
  · replace h := h.2 c
    refine wp_aload_n 0 dX3_constant_21 rfl rfl ?_
    refine wp_get 45 2 3 (by decide) (by decide) rfl rfl inG3 (by decide) wf_X3_10 rfl dX3_constant_22 ?_
    refine wp_sipush (nI 4096) dX3_constant_25 (by decide) ?_
    refine wp_iload_n 1 dX3_constant_28 rfl rfl ?_
    refine wp_imul dX3_constant_29 ?_
    refine wp_iload_n 3 dX3_constant_30 rfl rfl ?_
    refine wp_iadd dX3_constant_31 ?_
    refine wp_iload_n 2 dX3_constant_32 rfl rfl ?_
    refine wp_zast (by decide) (by decide) dX3_constant_33 h.1 ?_
    replace h := h.2
    refine wp_iinc 3 (nI 1) (lv' := [(3, .int (x3 + (nI 1))), (0, .ref (eA g 45)), (1, .int x1), (2, .int x2)]) dX3_constant_34 (by decide) rfl (by decide) rfl ?_
    refine wp_goto 13 dX3_constant_37 (by decide) ?_
    exact wp_sub [1, 2, 3, 0] rfl h
set_option maxRecDepth 100000 in
set_option maxHeartbeats 4000000 in
theorem E_X3_letter (g : Ev) (d : Nat) (x1 : Int32) (x2 : Int32) (σ : St) (K : Option Value → St → Prop) (h : Runs g 45 59 d M_X3_isRegister [.ref (eA g 45), .int x1] σ (fun r1 σ1 => ∃ v1 : Int32, r1 = some (.int v1) ∧ ((v1 = nI 0 → K (some (.int (-2))) σ1) ∧ (¬ v1 = nI 0 → Runs g 45 59 d M_X3_isLetter [.ref (eA g 45), .int x2] σ1 (fun r2 σ2 => ∃ v2 : Int32, r2 = some (.int v2) ∧ ((¬ v2 = nI 0 → WP g 45 59 (d + 1) M_X3_letter 21 [(0, .ref (eA g 45)), (1, .int x1), (2, .int x2), (3, .int (nI 0))] [] σ2 K) ∧ (v2 = nI 0 → K (some (.int (-2))) σ2))))))) : Runs g 45 59 (d + 1) M_X3_letter [.ref (eA g 45), .int x1, .int x2] σ K := by
  refine Runs.of (by decide) (Nat.le_of_ble_eq_true rfl) ?_
  show WP g 45 59 (d + 1) M_X3_letter 0 [(0, .ref (eA g 45)), (1, .int x1), (2, .int x2)] [] σ K
  refine wp_aload_n 0 dX3_letter_0 rfl rfl ?_
  refine wp_iload_n 1 dX3_letter_1 rfl rfl ?_
  refine wp_callV [.int x1] [] 45 2 (by decide) (by decide) rfl rfl wc_X3_isRegister wm_X3_92 ws_X3_isRegister we_X3_isRegister wi_X3 ok_X3_isRegister (by decide) (Nat.le_of_ble_eq_true rfl) dX3_letter_2 rfl h ?_
  rintro r1 σ1 ⟨v1, rfl, h⟩
  show WP g 45 59 (d + 1) M_X3_letter 5 [(0, .ref (eA g 45)), (1, .int x1), (2, .int x2)] [.int v1] σ1 K
  refine wp_if_eq 16 dX3_letter_5 (by decide) (fun c => ?_) (fun c => ?_)
  · replace h := h.1 c
    refine wp_bipush (-2) dX3_letter_16 (by decide) ?_
    exact wp_iret rfl dX3_letter_18 h
  · replace h := h.2 c
    refine wp_aload_n 0 dX3_letter_8 rfl rfl ?_
    refine wp_iload_n 2 dX3_letter_9 rfl rfl ?_
    refine wp_callV [.int x2] [] 45 2 (by decide) (by decide) rfl rfl wc_X3_isLetter wm_X3_96 ws_X3_isLetter we_X3_isLetter wi_X3 ok_X3_isLetter (by decide) (Nat.le_of_ble_eq_true rfl) dX3_letter_10 rfl h ?_
    rintro r2 σ2 ⟨v2, rfl, h⟩
    show WP g 45 59 (d + 1) M_X3_letter 13 [(0, .ref (eA g 45)), (1, .int x1), (2, .int x2)] [.int v2] σ2 K
    refine wp_if_ne 19 dX3_letter_13 (by decide) (fun c => ?_) (fun c => ?_)
    · replace h := h.1 c
      refine wp_iconst (nI 0) dX3_letter_19 (by decide) ?_
      refine wp_istore_n (lv' := [(3, .int (nI 0)), (0, .ref (eA g 45)), (1, .int x1), (2, .int x2)]) dX3_letter_20 rfl (by decide) rfl ?_
      exact wp_sub [1, 2, 3, 0] rfl h
    · replace h := h.2 c
      refine wp_bipush (-2) dX3_letter_16 (by decide) ?_
      exact wp_iret rfl dX3_letter_18 h
set_option maxRecDepth 100000 in
set_option maxHeartbeats 4000000 in
theorem R_X3_letter_21 (g : Ev) (d : Nat) (x1 : Int32) (x2 : Int32) (x3 : Int32) (σ : St) (K : Option Value → St → Prop) (h : (((sV σ 9) ≤ x3 → Runs g 45 59 d M_X3_puts [.ref (eA g 45), .int x1] σ (fun r1 σ1 => ∃ v1 : Int32, r1 = some (.int v1) ∧ K (some (.int v1)) σ1)) ∧ (¬ (sV σ 9) ≤ x3 → ((¬ ((jshr x3 x2) &&& (nI 1)) = (nI 1) → vp_in x3 (lenZ 47) ∧ WP g 45 59 (d + 1) M_X3_letter 21 [(0, .ref (eA g 45)), (1, .int x1), (2, .int x2), (3, .int (x3 + (nI 1)))] [] (uI σ 47 x3.toNatClampNeg (vp_nar .boolean (nI 0))) K) ∧ (((jshr x3 x2) &&& (nI 1)) = (nI 1) → vp_in x3 (lenZ 47) ∧ WP g 45 59 (d + 1) M_X3_letter 21 [(0, .ref (eA g 45)), (1, .int x1), (2, .int x2), (3, .int (x3 + (nI 1)))] [] (uI σ 47 x3.toNatClampNeg (vp_nar .boolean (nI 1))) K))))) : WP g 45 59 (d + 1) M_X3_letter 21 [(0, .ref (eA g 45)), (1, .int x1), (2, .int x2), (3, .int x3)] [] σ K := by
  refine wp_iload_n 3 dX3_letter_21 rfl rfl ?_
  refine wp_aload_n 0 dX3_letter_22 rfl rfl ?_
  refine wp_get 45 2 1 (by decide) (by decide) rfl rfl inG3 (by decide) wf_X3_59 rfl dX3_letter_23 ?_
  refine wp_icmp_ge 55 dX3_letter_26 (by decide) (fun c => ?_) (fun c => ?_)
  · replace h := h.1 c
    refine wp_aload_n 0 dX3_letter_55 rfl rfl ?_
    refine wp_iload_n 1 dX3_letter_56 rfl rfl ?_
    refine wp_callV [.int x1] [] 45 2 (by decide) (by decide) rfl rfl wc_X3_puts wm_X3_99 ws_X3_puts we_X3_puts wi_X3 ok_X3_puts (by decide) (Nat.le_of_ble_eq_true rfl) dX3_letter_57 rfl h ?_
    rintro r1 σ1 ⟨v1, rfl, h⟩
    show WP g 45 59 (d + 1) M_X3_letter 60 [(0, .ref (eA g 45)), (1, .int x1), (2, .int x2), (3, .int x3)] [.int v1] σ1 K
    exact wp_iret rfl dX3_letter_60 h
  · replace h := h.2 c
    refine wp_aload_n 0 dX3_letter_29 rfl rfl ?_
    refine wp_get 45 2 4 (by decide) (by decide) rfl rfl inG3 (by decide) wf_X3_14 rfl dX3_letter_30 ?_
    refine wp_iload_n 3 dX3_letter_33 rfl rfl ?_
    refine wp_iload_n 3 dX3_letter_34 rfl rfl ?_
    refine wp_iload_n 2 dX3_letter_35 rfl rfl ?_
    refine wp_ishr dX3_letter_36 ?_
    refine wp_iconst (nI 1) dX3_letter_37 (by decide) ?_
    refine wp_iand dX3_letter_38 ?_
    refine wp_iconst (nI 1) dX3_letter_39 (by decide) ?_
    refine wp_icmp_ne 47 dX3_letter_40 (by decide) (fun c => ?_) (fun c => ?_)
    · replace h := h.1 c
      refine wp_iconst (nI 0) dX3_letter_47 (by decide) ?_
      refine wp_zast (by decide) (by decide) dX3_letter_48 h.1 ?_
      replace h := h.2
      refine wp_iinc 3 (nI 1) (lv' := [(3, .int (x3 + (nI 1))), (0, .ref (eA g 45)), (1, .int x1), (2, .int x2)]) dX3_letter_49 (by decide) rfl (by decide) rfl ?_
      refine wp_goto 21 dX3_letter_52 (by decide) ?_
      exact wp_sub [1, 2, 3, 0] rfl h
    · replace h := h.2 c
      refine wp_iconst (nI 1) dX3_letter_43 (by decide) ?_
      refine wp_goto 48 dX3_letter_44 (by decide) ?_
      refine wp_zast (by decide) (by decide) dX3_letter_48 h.1 ?_
      replace h := h.2
      refine wp_iinc 3 (nI 1) (lv' := [(3, .int (x3 + (nI 1))), (0, .ref (eA g 45)), (1, .int x1), (2, .int x2)]) dX3_letter_49 (by decide) rfl (by decide) rfl ?_
      refine wp_goto 21 dX3_letter_52 (by decide) ?_
      exact wp_sub [1, 2, 3, 0] rfl h
set_option maxRecDepth 100000 in
set_option maxHeartbeats 4000000 in
theorem E_X3_join (g : Ev) (d : Nat) (x1 : Int32) (x2 : Int32) (x3 : Int32) (x4 : Int32) (σ : St) (K : Option Value → St → Prop) (h : Runs g 45 59 d M_X3_isRegister [.ref (eA g 45), .int x1] σ (fun r1 σ1 => ∃ v1 : Int32, r1 = some (.int v1) ∧ ((v1 = nI 0 → K (some (.int (-2))) σ1) ∧ (¬ v1 = nI 0 → Runs g 45 59 d M_X3_isRegister [.ref (eA g 45), .int x2] σ1 (fun r2 σ2 => ∃ v2 : Int32, r2 = some (.int v2) ∧ ((v2 = nI 0 → K (some (.int (-2))) σ2) ∧ (¬ v2 = nI 0 → Runs g 45 59 d M_X3_isRegister [.ref (eA g 45), .int x3] σ2 (fun r3 σ3 => ∃ v3 : Int32, r3 = some (.int v3) ∧ ((v3 = nI 0 → K (some (.int (-2))) σ3) ∧ (¬ v3 = nI 0 → ((x4 < nI 0 → K (some (.int (-2))) σ3) ∧ (¬ x4 < nI 0 → ((x4 ≤ (nI 15) → WP g 45 59 (d + 1) M_X3_join 42 [(0, .ref (eA g 45)), (1, .int x1), (2, .int x2), (3, .int x3), (4, .int x4), (5, .int (nI 0))] [] σ3 K) ∧ (¬ x4 ≤ (nI 15) → K (some (.int (-2))) σ3)))))))))))))) : Runs g 45 59 (d + 1) M_X3_join [.ref (eA g 45), .int x1, .int x2, .int x3, .int x4] σ K := by
  refine Runs.of (by decide) (Nat.le_of_ble_eq_true rfl) ?_
  show WP g 45 59 (d + 1) M_X3_join 0 [(0, .ref (eA g 45)), (1, .int x1), (2, .int x2), (3, .int x3), (4, .int x4)] [] σ K
  refine wp_aload_n 0 dX3_join_0 rfl rfl ?_
  refine wp_iload_n 1 dX3_join_1 rfl rfl ?_
  refine wp_callV [.int x1] [] 45 2 (by decide) (by decide) rfl rfl wc_X3_isRegister wm_X3_92 ws_X3_isRegister we_X3_isRegister wi_X3 ok_X3_isRegister (by decide) (Nat.le_of_ble_eq_true rfl) dX3_join_2 rfl h ?_
  rintro r1 σ1 ⟨v1, rfl, h⟩
  show WP g 45 59 (d + 1) M_X3_join 5 [(0, .ref (eA g 45)), (1, .int x1), (2, .int x2), (3, .int x3), (4, .int x4)] [.int v1] σ1 K
  refine wp_if_eq 36 dX3_join_5 (by decide) (fun c => ?_) (fun c => ?_)
  · replace h := h.1 c
    refine wp_bipush (-2) dX3_join_36 (by decide) ?_
    exact wp_iret rfl dX3_join_38 h
  · replace h := h.2 c
    refine wp_aload_n 0 dX3_join_8 rfl rfl ?_
    refine wp_iload_n 2 dX3_join_9 rfl rfl ?_
    refine wp_callV [.int x2] [] 45 2 (by decide) (by decide) rfl rfl wc_X3_isRegister wm_X3_92 ws_X3_isRegister we_X3_isRegister wi_X3 ok_X3_isRegister (by decide) (Nat.le_of_ble_eq_true rfl) dX3_join_10 rfl h ?_
    rintro r2 σ2 ⟨v2, rfl, h⟩
    show WP g 45 59 (d + 1) M_X3_join 13 [(0, .ref (eA g 45)), (1, .int x1), (2, .int x2), (3, .int x3), (4, .int x4)] [.int v2] σ2 K
    refine wp_if_eq 36 dX3_join_13 (by decide) (fun c => ?_) (fun c => ?_)
    · replace h := h.1 c
      refine wp_bipush (-2) dX3_join_36 (by decide) ?_
      exact wp_iret rfl dX3_join_38 h
    · replace h := h.2 c
      refine wp_aload_n 0 dX3_join_16 rfl rfl ?_
      refine wp_iload_n 3 dX3_join_17 rfl rfl ?_
      refine wp_callV [.int x3] [] 45 2 (by decide) (by decide) rfl rfl wc_X3_isRegister wm_X3_92 ws_X3_isRegister we_X3_isRegister wi_X3 ok_X3_isRegister (by decide) (Nat.le_of_ble_eq_true rfl) dX3_join_18 rfl h ?_
      rintro r3 σ3 ⟨v3, rfl, h⟩
      show WP g 45 59 (d + 1) M_X3_join 21 [(0, .ref (eA g 45)), (1, .int x1), (2, .int x2), (3, .int x3), (4, .int x4)] [.int v3] σ3 K
      refine wp_if_eq 36 dX3_join_21 (by decide) (fun c => ?_) (fun c => ?_)
      · replace h := h.1 c
        refine wp_bipush (-2) dX3_join_36 (by decide) ?_
        exact wp_iret rfl dX3_join_38 h
      · replace h := h.2 c
        refine wp_iload 4 dX3_join_24 rfl ?_
        refine wp_if_lt 36 dX3_join_26 (by decide) (fun c => ?_) (fun c => ?_)
        · replace h := h.1 c
          refine wp_bipush (-2) dX3_join_36 (by decide) ?_
          exact wp_iret rfl dX3_join_38 h
        · replace h := h.2 c
          refine wp_iload 4 dX3_join_29 rfl ?_
          refine wp_bipush (nI 15) dX3_join_31 (by decide) ?_
          refine wp_icmp_le 39 dX3_join_33 (by decide) (fun c => ?_) (fun c => ?_)
          · replace h := h.1 c
            refine wp_iconst (nI 0) dX3_join_39 (by decide) ?_
            refine wp_istore (lv' := [(5, .int (nI 0)), (0, .ref (eA g 45)), (1, .int x1), (2, .int x2), (3, .int x3), (4, .int x4)]) dX3_join_40 (by decide) rfl ?_
            exact wp_sub [1, 2, 3, 4, 5, 0] rfl h
          · replace h := h.2 c
            refine wp_bipush (-2) dX3_join_36 (by decide) ?_
            exact wp_iret rfl dX3_join_38 h
set_option maxRecDepth 100000 in
set_option maxHeartbeats 4000000 in
theorem R_X3_join_42 (g : Ev) (d : Nat) (x1 : Int32) (x2 : Int32) (x3 : Int32) (x4 : Int32) (x5 : Int32) (σ : St) (K : Option Value → St → Prop) (h : (((sV σ 9) ≤ x5 → Runs g 45 59 d M_X3_puts [.ref (eA g 45), .int x1] σ (fun r1 σ1 => ∃ v1 : Int32, r1 = some (.int v1) ∧ K (some (.int v1)) σ1)) ∧ (¬ (sV σ 9) ≤ x5 → Runs g 45 59 d M_X3_get [.ref (eA g 45), .int x2, .int x5] σ (fun r2 σ2 => ∃ v2 : Int32, r2 = some (.int v2) ∧ ((v2 = nI 0 → Runs g 45 59 d M_X3_get [.ref (eA g 45), .int x3, .int x5] σ2 (fun r3 σ3 => ∃ v3 : Int32, r3 = some (.int v3) ∧ ((v3 = nI 0 → ((¬ ((jshr x4 ((nI 0) + (nI 0))) &&& (nI 1)) = (nI 1) → vp_in x5 (lenZ 47) ∧ WP g 45 59 (d + 1) M_X3_join 42 [(0, .ref (eA g 45)), (1, .int x1), (2, .int x2), (3, .int x3), (4, .int x4), (5, .int (x5 + (nI 1)))] [] (uI σ3 47 x5.toNatClampNeg (vp_nar .boolean (nI 0))) K) ∧ (((jshr x4 ((nI 0) + (nI 0))) &&& (nI 1)) = (nI 1) → vp_in x5 (lenZ 47) ∧ WP g 45 59 (d + 1) M_X3_join 42 [(0, .ref (eA g 45)), (1, .int x1), (2, .int x2), (3, .int x3), (4, .int x4), (5, .int (x5 + (nI 1)))] [] (uI σ3 47 x5.toNatClampNeg (vp_nar .boolean (nI 1))) K))) ∧ (¬ v3 = nI 0 → ((¬ ((jshr x4 ((nI 0) + (nI 2))) &&& (nI 1)) = (nI 1) → vp_in x5 (lenZ 47) ∧ WP g 45 59 (d + 1) M_X3_join 42 [(0, .ref (eA g 45)), (1, .int x1), (2, .int x2), (3, .int x3), (4, .int x4), (5, .int (x5 + (nI 1)))] [] (uI σ3 47 x5.toNatClampNeg (vp_nar .boolean (nI 0))) K) ∧ (((jshr x4 ((nI 0) + (nI 2))) &&& (nI 1)) = (nI 1) → vp_in x5 (lenZ 47) ∧ WP g 45 59 (d + 1) M_X3_join 42 [(0, .ref (eA g 45)), (1, .int x1), (2, .int x2), (3, .int x3), (4, .int x4), (5, .int (x5 + (nI 1)))] [] (uI σ3 47 x5.toNatClampNeg (vp_nar .boolean (nI 1))) K)))))) ∧ (¬ v2 = nI 0 → Runs g 45 59 d M_X3_get [.ref (eA g 45), .int x3, .int x5] σ2 (fun r4 σ4 => ∃ v4 : Int32, r4 = some (.int v4) ∧ ((v4 = nI 0 → ((¬ ((jshr x4 ((nI 1) + (nI 0))) &&& (nI 1)) = (nI 1) → vp_in x5 (lenZ 47) ∧ WP g 45 59 (d + 1) M_X3_join 42 [(0, .ref (eA g 45)), (1, .int x1), (2, .int x2), (3, .int x3), (4, .int x4), (5, .int (x5 + (nI 1)))] [] (uI σ4 47 x5.toNatClampNeg (vp_nar .boolean (nI 0))) K) ∧ (((jshr x4 ((nI 1) + (nI 0))) &&& (nI 1)) = (nI 1) → vp_in x5 (lenZ 47) ∧ WP g 45 59 (d + 1) M_X3_join 42 [(0, .ref (eA g 45)), (1, .int x1), (2, .int x2), (3, .int x3), (4, .int x4), (5, .int (x5 + (nI 1)))] [] (uI σ4 47 x5.toNatClampNeg (vp_nar .boolean (nI 1))) K))) ∧ (¬ v4 = nI 0 → ((¬ ((jshr x4 ((nI 1) + (nI 2))) &&& (nI 1)) = (nI 1) → vp_in x5 (lenZ 47) ∧ WP g 45 59 (d + 1) M_X3_join 42 [(0, .ref (eA g 45)), (1, .int x1), (2, .int x2), (3, .int x3), (4, .int x4), (5, .int (x5 + (nI 1)))] [] (uI σ4 47 x5.toNatClampNeg (vp_nar .boolean (nI 0))) K) ∧ (((jshr x4 ((nI 1) + (nI 2))) &&& (nI 1)) = (nI 1) → vp_in x5 (lenZ 47) ∧ WP g 45 59 (d + 1) M_X3_join 42 [(0, .ref (eA g 45)), (1, .int x1), (2, .int x2), (3, .int x3), (4, .int x4), (5, .int (x5 + (nI 1)))] [] (uI σ4 47 x5.toNatClampNeg (vp_nar .boolean (nI 1))) K))))))))))) : WP g 45 59 (d + 1) M_X3_join 42 [(0, .ref (eA g 45)), (1, .int x1), (2, .int x2), (3, .int x3), (4, .int x4), (5, .int x5)] [] σ K := by
  refine wp_iload 5 dX3_join_42 rfl ?_
  refine wp_aload_n 0 dX3_join_44 rfl rfl ?_
  refine wp_get 45 2 1 (by decide) (by decide) rfl rfl inG3 (by decide) wf_X3_59 rfl dX3_join_45 ?_
  refine wp_icmp_ge 109 dX3_join_48 (by decide) (fun c => ?_) (fun c => ?_)
  · replace h := h.1 c
    refine wp_aload_n 0 dX3_join_109 rfl rfl ?_
    refine wp_iload_n 1 dX3_join_110 rfl rfl ?_
    refine wp_callV [.int x1] [] 45 2 (by decide) (by decide) rfl rfl wc_X3_puts wm_X3_99 ws_X3_puts we_X3_puts wi_X3 ok_X3_puts (by decide) (Nat.le_of_ble_eq_true rfl) dX3_join_111 rfl h ?_
    rintro r1 σ1 ⟨v1, rfl, h⟩
    show WP g 45 59 (d + 1) M_X3_join 114 [(0, .ref (eA g 45)), (1, .int x1), (2, .int x2), (3, .int x3), (4, .int x4), (5, .int x5)] [.int v1] σ1 K
    exact wp_iret rfl dX3_join_114 h
  · replace h := h.2 c
    refine wp_aload_n 0 dX3_join_51 rfl rfl ?_
    refine wp_get 45 2 4 (by decide) (by decide) rfl rfl inG3 (by decide) wf_X3_14 rfl dX3_join_52 ?_
    refine wp_iload 5 dX3_join_55 rfl ?_
    refine wp_iload 4 dX3_join_57 rfl ?_
    refine wp_aload_n 0 dX3_join_59 rfl rfl ?_
    refine wp_iload_n 2 dX3_join_60 rfl rfl ?_
    refine wp_iload 5 dX3_join_61 rfl ?_
    refine wp_callV [.int x2, .int x5] [.int x4, .int x5, .ref (eA g 47)] 45 2 (by decide) (by decide) rfl rfl wc_X3_get wm_X3_81 ws_X3_get we_X3_get wi_X3 ok_X3_get (by decide) (Nat.le_of_ble_eq_true rfl) dX3_join_63 rfl h ?_
    rintro r2 σ2 ⟨v2, rfl, h⟩
    show WP g 45 59 (d + 1) M_X3_join 66 [(0, .ref (eA g 45)), (1, .int x1), (2, .int x2), (3, .int x3), (4, .int x4), (5, .int x5)] [.int v2, .int x4, .int x5, .ref (eA g 47)] σ2 K
    refine wp_if_eq 73 dX3_join_66 (by decide) (fun c => ?_) (fun c => ?_)
    · replace h := h.1 c
      refine wp_iconst (nI 0) dX3_join_73 (by decide) ?_
      refine wp_aload_n 0 dX3_join_74 rfl rfl ?_
      refine wp_iload_n 3 dX3_join_75 rfl rfl ?_
      refine wp_iload 5 dX3_join_76 rfl ?_
      refine wp_callV [.int x3, .int x5] [.int (nI 0), .int x4, .int x5, .ref (eA g 47)] 45 2 (by decide) (by decide) rfl rfl wc_X3_get wm_X3_81 ws_X3_get we_X3_get wi_X3 ok_X3_get (by decide) (Nat.le_of_ble_eq_true rfl) dX3_join_78 rfl h ?_
      rintro r3 σ3 ⟨v3, rfl, h⟩
      show WP g 45 59 (d + 1) M_X3_join 81 [(0, .ref (eA g 45)), (1, .int x1), (2, .int x2), (3, .int x3), (4, .int x4), (5, .int x5)] [.int v3, .int (nI 0), .int x4, .int x5, .ref (eA g 47)] σ3 K
      refine wp_if_eq 88 dX3_join_81 (by decide) (fun c => ?_) (fun c => ?_)
      · replace h := h.1 c
        refine wp_iconst (nI 0) dX3_join_88 (by decide) ?_
        refine wp_iadd dX3_join_89 ?_
        refine wp_ishr dX3_join_90 ?_
        refine wp_iconst (nI 1) dX3_join_91 (by decide) ?_
        refine wp_iand dX3_join_92 ?_
        refine wp_iconst (nI 1) dX3_join_93 (by decide) ?_
        refine wp_icmp_ne 101 dX3_join_94 (by decide) (fun c => ?_) (fun c => ?_)
        · replace h := h.1 c
          refine wp_iconst (nI 0) dX3_join_101 (by decide) ?_
          refine wp_zast (by decide) (by decide) dX3_join_102 h.1 ?_
          replace h := h.2
          refine wp_iinc 5 (nI 1) (lv' := [(5, .int (x5 + (nI 1))), (0, .ref (eA g 45)), (1, .int x1), (2, .int x2), (3, .int x3), (4, .int x4)]) dX3_join_103 (by decide) rfl (by decide) rfl ?_
          refine wp_goto 42 dX3_join_106 (by decide) ?_
          exact wp_sub [1, 2, 3, 4, 5, 0] rfl h
        · replace h := h.2 c
          refine wp_iconst (nI 1) dX3_join_97 (by decide) ?_
          refine wp_goto 102 dX3_join_98 (by decide) ?_
          refine wp_zast (by decide) (by decide) dX3_join_102 h.1 ?_
          replace h := h.2
          refine wp_iinc 5 (nI 1) (lv' := [(5, .int (x5 + (nI 1))), (0, .ref (eA g 45)), (1, .int x1), (2, .int x2), (3, .int x3), (4, .int x4)]) dX3_join_103 (by decide) rfl (by decide) rfl ?_
          refine wp_goto 42 dX3_join_106 (by decide) ?_
          exact wp_sub [1, 2, 3, 4, 5, 0] rfl h
      · replace h := h.2 c
        refine wp_iconst (nI 2) dX3_join_84 (by decide) ?_
        refine wp_goto 89 dX3_join_85 (by decide) ?_
        refine wp_iadd dX3_join_89 ?_
        refine wp_ishr dX3_join_90 ?_
        refine wp_iconst (nI 1) dX3_join_91 (by decide) ?_
        refine wp_iand dX3_join_92 ?_
        refine wp_iconst (nI 1) dX3_join_93 (by decide) ?_
        refine wp_icmp_ne 101 dX3_join_94 (by decide) (fun c => ?_) (fun c => ?_)
        · replace h := h.1 c
          refine wp_iconst (nI 0) dX3_join_101 (by decide) ?_
          refine wp_zast (by decide) (by decide) dX3_join_102 h.1 ?_
          replace h := h.2
          refine wp_iinc 5 (nI 1) (lv' := [(5, .int (x5 + (nI 1))), (0, .ref (eA g 45)), (1, .int x1), (2, .int x2), (3, .int x3), (4, .int x4)]) dX3_join_103 (by decide) rfl (by decide) rfl ?_
          refine wp_goto 42 dX3_join_106 (by decide) ?_
          exact wp_sub [1, 2, 3, 4, 5, 0] rfl h
        · replace h := h.2 c
          refine wp_iconst (nI 1) dX3_join_97 (by decide) ?_
          refine wp_goto 102 dX3_join_98 (by decide) ?_
          refine wp_zast (by decide) (by decide) dX3_join_102 h.1 ?_
          replace h := h.2
          refine wp_iinc 5 (nI 1) (lv' := [(5, .int (x5 + (nI 1))), (0, .ref (eA g 45)), (1, .int x1), (2, .int x2), (3, .int x3), (4, .int x4)]) dX3_join_103 (by decide) rfl (by decide) rfl ?_
          refine wp_goto 42 dX3_join_106 (by decide) ?_
          exact wp_sub [1, 2, 3, 4, 5, 0] rfl h
    · replace h := h.2 c
      refine wp_iconst (nI 1) dX3_join_69 (by decide) ?_
      refine wp_goto 74 dX3_join_70 (by decide) ?_
      refine wp_aload_n 0 dX3_join_74 rfl rfl ?_
      refine wp_iload_n 3 dX3_join_75 rfl rfl ?_
      refine wp_iload 5 dX3_join_76 rfl ?_
      refine wp_callV [.int x3, .int x5] [.int (nI 1), .int x4, .int x5, .ref (eA g 47)] 45 2 (by decide) (by decide) rfl rfl wc_X3_get wm_X3_81 ws_X3_get we_X3_get wi_X3 ok_X3_get (by decide) (Nat.le_of_ble_eq_true rfl) dX3_join_78 rfl h ?_
      rintro r4 σ4 ⟨v4, rfl, h⟩
      show WP g 45 59 (d + 1) M_X3_join 81 [(0, .ref (eA g 45)), (1, .int x1), (2, .int x2), (3, .int x3), (4, .int x4), (5, .int x5)] [.int v4, .int (nI 1), .int x4, .int x5, .ref (eA g 47)] σ4 K
      refine wp_if_eq 88 dX3_join_81 (by decide) (fun c => ?_) (fun c => ?_)
      · replace h := h.1 c
        refine wp_iconst (nI 0) dX3_join_88 (by decide) ?_
        refine wp_iadd dX3_join_89 ?_
        refine wp_ishr dX3_join_90 ?_
        refine wp_iconst (nI 1) dX3_join_91 (by decide) ?_
        refine wp_iand dX3_join_92 ?_
        refine wp_iconst (nI 1) dX3_join_93 (by decide) ?_
        refine wp_icmp_ne 101 dX3_join_94 (by decide) (fun c => ?_) (fun c => ?_)
        · replace h := h.1 c
          refine wp_iconst (nI 0) dX3_join_101 (by decide) ?_
          refine wp_zast (by decide) (by decide) dX3_join_102 h.1 ?_
          replace h := h.2
          refine wp_iinc 5 (nI 1) (lv' := [(5, .int (x5 + (nI 1))), (0, .ref (eA g 45)), (1, .int x1), (2, .int x2), (3, .int x3), (4, .int x4)]) dX3_join_103 (by decide) rfl (by decide) rfl ?_
          refine wp_goto 42 dX3_join_106 (by decide) ?_
          exact wp_sub [1, 2, 3, 4, 5, 0] rfl h
        · replace h := h.2 c
          refine wp_iconst (nI 1) dX3_join_97 (by decide) ?_
          refine wp_goto 102 dX3_join_98 (by decide) ?_
          refine wp_zast (by decide) (by decide) dX3_join_102 h.1 ?_
          replace h := h.2
          refine wp_iinc 5 (nI 1) (lv' := [(5, .int (x5 + (nI 1))), (0, .ref (eA g 45)), (1, .int x1), (2, .int x2), (3, .int x3), (4, .int x4)]) dX3_join_103 (by decide) rfl (by decide) rfl ?_
          refine wp_goto 42 dX3_join_106 (by decide) ?_
          exact wp_sub [1, 2, 3, 4, 5, 0] rfl h
      · replace h := h.2 c
        refine wp_iconst (nI 2) dX3_join_84 (by decide) ?_
        refine wp_goto 89 dX3_join_85 (by decide) ?_
        refine wp_iadd dX3_join_89 ?_
        refine wp_ishr dX3_join_90 ?_
        refine wp_iconst (nI 1) dX3_join_91 (by decide) ?_
        refine wp_iand dX3_join_92 ?_
        refine wp_iconst (nI 1) dX3_join_93 (by decide) ?_
        refine wp_icmp_ne 101 dX3_join_94 (by decide) (fun c => ?_) (fun c => ?_)
        · replace h := h.1 c
          refine wp_iconst (nI 0) dX3_join_101 (by decide) ?_
          refine wp_zast (by decide) (by decide) dX3_join_102 h.1 ?_
          replace h := h.2
          refine wp_iinc 5 (nI 1) (lv' := [(5, .int (x5 + (nI 1))), (0, .ref (eA g 45)), (1, .int x1), (2, .int x2), (3, .int x3), (4, .int x4)]) dX3_join_103 (by decide) rfl (by decide) rfl ?_
          refine wp_goto 42 dX3_join_106 (by decide) ?_
          exact wp_sub [1, 2, 3, 4, 5, 0] rfl h
        · replace h := h.2 c
          refine wp_iconst (nI 1) dX3_join_97 (by decide) ?_
          refine wp_goto 102 dX3_join_98 (by decide) ?_
          refine wp_zast (by decide) (by decide) dX3_join_102 h.1 ?_
          replace h := h.2
          refine wp_iinc 5 (nI 1) (lv' := [(5, .int (x5 + (nI 1))), (0, .ref (eA g 45)), (1, .int x1), (2, .int x2), (3, .int x3), (4, .int x4)]) dX3_join_103 (by decide) rfl (by decide) rfl ?_
          refine wp_goto 42 dX3_join_106 (by decide) ?_
          exact wp_sub [1, 2, 3, 4, 5, 0] rfl h
set_option maxRecDepth 100000 in
set_option maxHeartbeats 4000000 in
theorem E_X3_fork (g : Ev) (d : Nat) (x1 : Int32) (x2 : Int32) (x3 : Int32) (x4 : Int32) (σ : St) (K : Option Value → St → Prop) (h : Runs g 45 59 d M_X3_isRegister [.ref (eA g 45), .int x1] σ (fun r1 σ1 => ∃ v1 : Int32, r1 = some (.int v1) ∧ ((v1 = nI 0 → K (some (.int (-2))) σ1) ∧ (¬ v1 = nI 0 → Runs g 45 59 d M_X3_isRegister [.ref (eA g 45), .int x2] σ1 (fun r2 σ2 => ∃ v2 : Int32, r2 = some (.int v2) ∧ ((v2 = nI 0 → K (some (.int (-2))) σ2) ∧ (¬ v2 = nI 0 → Runs g 45 59 d M_X3_isRegister [.ref (eA g 45), .int x3] σ2 (fun r3 σ3 => ∃ v3 : Int32, r3 = some (.int v3) ∧ ((v3 = nI 0 → K (some (.int (-2))) σ3) ∧ (¬ v3 = nI 0 → Runs g 45 59 d M_X3_isRegister [.ref (eA g 45), .int x4] σ3 (fun r4 σ4 => ∃ v4 : Int32, r4 = some (.int v4) ∧ ((¬ v4 = nI 0 → WP g 45 59 (d + 1) M_X3_fork 39 [(0, .ref (eA g 45)), (1, .int x1), (2, .int x2), (3, .int x3), (4, .int x4), (5, .int (nI 0))] [] σ4 K) ∧ (v4 = nI 0 → K (some (.int (-2))) σ4))))))))))))) : Runs g 45 59 (d + 1) M_X3_fork [.ref (eA g 45), .int x1, .int x2, .int x3, .int x4] σ K := by
  refine Runs.of (by decide) (Nat.le_of_ble_eq_true rfl) ?_
  show WP g 45 59 (d + 1) M_X3_fork 0 [(0, .ref (eA g 45)), (1, .int x1), (2, .int x2), (3, .int x3), (4, .int x4)] [] σ K
  refine wp_aload_n 0 dX3_fork_0 rfl rfl ?_
  refine wp_iload_n 1 dX3_fork_1 rfl rfl ?_
  refine wp_callV [.int x1] [] 45 2 (by decide) (by decide) rfl rfl wc_X3_isRegister wm_X3_92 ws_X3_isRegister we_X3_isRegister wi_X3 ok_X3_isRegister (by decide) (Nat.le_of_ble_eq_true rfl) dX3_fork_2 rfl h ?_
  rintro r1 σ1 ⟨v1, rfl, h⟩
  show WP g 45 59 (d + 1) M_X3_fork 5 [(0, .ref (eA g 45)), (1, .int x1), (2, .int x2), (3, .int x3), (4, .int x4)] [.int v1] σ1 K
  refine wp_if_eq 33 dX3_fork_5 (by decide) (fun c => ?_) (fun c => ?_)
  · replace h := h.1 c
    refine wp_bipush (-2) dX3_fork_33 (by decide) ?_
    exact wp_iret rfl dX3_fork_35 h
  · replace h := h.2 c
    refine wp_aload_n 0 dX3_fork_8 rfl rfl ?_
    refine wp_iload_n 2 dX3_fork_9 rfl rfl ?_
    refine wp_callV [.int x2] [] 45 2 (by decide) (by decide) rfl rfl wc_X3_isRegister wm_X3_92 ws_X3_isRegister we_X3_isRegister wi_X3 ok_X3_isRegister (by decide) (Nat.le_of_ble_eq_true rfl) dX3_fork_10 rfl h ?_
    rintro r2 σ2 ⟨v2, rfl, h⟩
    show WP g 45 59 (d + 1) M_X3_fork 13 [(0, .ref (eA g 45)), (1, .int x1), (2, .int x2), (3, .int x3), (4, .int x4)] [.int v2] σ2 K
    refine wp_if_eq 33 dX3_fork_13 (by decide) (fun c => ?_) (fun c => ?_)
    · replace h := h.1 c
      refine wp_bipush (-2) dX3_fork_33 (by decide) ?_
      exact wp_iret rfl dX3_fork_35 h
    · replace h := h.2 c
      refine wp_aload_n 0 dX3_fork_16 rfl rfl ?_
      refine wp_iload_n 3 dX3_fork_17 rfl rfl ?_
      refine wp_callV [.int x3] [] 45 2 (by decide) (by decide) rfl rfl wc_X3_isRegister wm_X3_92 ws_X3_isRegister we_X3_isRegister wi_X3 ok_X3_isRegister (by decide) (Nat.le_of_ble_eq_true rfl) dX3_fork_18 rfl h ?_
      rintro r3 σ3 ⟨v3, rfl, h⟩
      show WP g 45 59 (d + 1) M_X3_fork 21 [(0, .ref (eA g 45)), (1, .int x1), (2, .int x2), (3, .int x3), (4, .int x4)] [.int v3] σ3 K
      refine wp_if_eq 33 dX3_fork_21 (by decide) (fun c => ?_) (fun c => ?_)
      · replace h := h.1 c
        refine wp_bipush (-2) dX3_fork_33 (by decide) ?_
        exact wp_iret rfl dX3_fork_35 h
      · replace h := h.2 c
        refine wp_aload_n 0 dX3_fork_24 rfl rfl ?_
        refine wp_iload 4 dX3_fork_25 rfl ?_
        refine wp_callV [.int x4] [] 45 2 (by decide) (by decide) rfl rfl wc_X3_isRegister wm_X3_92 ws_X3_isRegister we_X3_isRegister wi_X3 ok_X3_isRegister (by decide) (Nat.le_of_ble_eq_true rfl) dX3_fork_27 rfl h ?_
        rintro r4 σ4 ⟨v4, rfl, h⟩
        show WP g 45 59 (d + 1) M_X3_fork 30 [(0, .ref (eA g 45)), (1, .int x1), (2, .int x2), (3, .int x3), (4, .int x4)] [.int v4] σ4 K
        refine wp_if_ne 36 dX3_fork_30 (by decide) (fun c => ?_) (fun c => ?_)
        · replace h := h.1 c
          refine wp_iconst (nI 0) dX3_fork_36 (by decide) ?_
          refine wp_istore (lv' := [(5, .int (nI 0)), (0, .ref (eA g 45)), (1, .int x1), (2, .int x2), (3, .int x3), (4, .int x4)]) dX3_fork_37 (by decide) rfl ?_
          exact wp_sub [1, 2, 3, 4, 5, 0] rfl h
        · replace h := h.2 c
          refine wp_bipush (-2) dX3_fork_33 (by decide) ?_
          exact wp_iret rfl dX3_fork_35 h
set_option maxRecDepth 100000 in
set_option maxHeartbeats 4000000 in
theorem R_X3_fork_39 (g : Ev) (d : Nat) (x1 : Int32) (x2 : Int32) (x3 : Int32) (x4 : Int32) (x5 : Int32) (σ : St) (K : Option Value → St → Prop) (h : (((sV σ 9) ≤ x5 → Runs g 45 59 d M_X3_puts [.ref (eA g 45), .int x1] σ (fun r1 σ1 => ∃ v1 : Int32, r1 = some (.int v1) ∧ K (some (.int v1)) σ1)) ∧ (¬ (sV σ 9) ≤ x5 → Runs g 45 59 d M_X3_get [.ref (eA g 45), .int x2, .int x5] σ (fun r2 σ2 => ∃ v2 : Int32, r2 = some (.int v2) ∧ ((v2 = nI 0 → Runs g 45 59 d M_X3_get [.ref (eA g 45), .int x4, .int x5] σ2 (fun r3 σ3 => ∃ v3 : Int32, r3 = some (.int v3) ∧ vp_in x5 (lenZ 47) ∧ WP g 45 59 (d + 1) M_X3_fork 39 [(0, .ref (eA g 45)), (1, .int x1), (2, .int x2), (3, .int x3), (4, .int x4), (5, .int (x5 + (nI 1)))] [] (uI σ3 47 x5.toNatClampNeg (vp_nar .boolean v3)) K)) ∧ (¬ v2 = nI 0 → Runs g 45 59 d M_X3_get [.ref (eA g 45), .int x3, .int x5] σ2 (fun r4 σ4 => ∃ v4 : Int32, r4 = some (.int v4) ∧ vp_in x5 (lenZ 47) ∧ WP g 45 59 (d + 1) M_X3_fork 39 [(0, .ref (eA g 45)), (1, .int x1), (2, .int x2), (3, .int x3), (4, .int x4), (5, .int (x5 + (nI 1)))] [] (uI σ4 47 x5.toNatClampNeg (vp_nar .boolean v4)) K))))))) : WP g 45 59 (d + 1) M_X3_fork 39 [(0, .ref (eA g 45)), (1, .int x1), (2, .int x2), (3, .int x3), (4, .int x4), (5, .int x5)] [] σ K := by
  refine wp_iload 5 dX3_fork_39 rfl ?_
  refine wp_aload_n 0 dX3_fork_41 rfl rfl ?_
  refine wp_get 45 2 1 (by decide) (by decide) rfl rfl inG3 (by decide) wf_X3_59 rfl dX3_fork_42 ?_
  refine wp_icmp_ge 89 dX3_fork_45 (by decide) (fun c => ?_) (fun c => ?_)
  · replace h := h.1 c
    refine wp_aload_n 0 dX3_fork_89 rfl rfl ?_
    refine wp_iload_n 1 dX3_fork_90 rfl rfl ?_
    refine wp_callV [.int x1] [] 45 2 (by decide) (by decide) rfl rfl wc_X3_puts wm_X3_99 ws_X3_puts we_X3_puts wi_X3 ok_X3_puts (by decide) (Nat.le_of_ble_eq_true rfl) dX3_fork_91 rfl h ?_
    rintro r1 σ1 ⟨v1, rfl, h⟩
    show WP g 45 59 (d + 1) M_X3_fork 94 [(0, .ref (eA g 45)), (1, .int x1), (2, .int x2), (3, .int x3), (4, .int x4), (5, .int x5)] [.int v1] σ1 K
    exact wp_iret rfl dX3_fork_94 h
  · replace h := h.2 c
    refine wp_aload_n 0 dX3_fork_48 rfl rfl ?_
    refine wp_get 45 2 4 (by decide) (by decide) rfl rfl inG3 (by decide) wf_X3_14 rfl dX3_fork_49 ?_
    refine wp_iload 5 dX3_fork_52 rfl ?_
    refine wp_aload_n 0 dX3_fork_54 rfl rfl ?_
    refine wp_iload_n 2 dX3_fork_55 rfl rfl ?_
    refine wp_iload 5 dX3_fork_56 rfl ?_
    refine wp_callV [.int x2, .int x5] [.int x5, .ref (eA g 47)] 45 2 (by decide) (by decide) rfl rfl wc_X3_get wm_X3_81 ws_X3_get we_X3_get wi_X3 ok_X3_get (by decide) (Nat.le_of_ble_eq_true rfl) dX3_fork_58 rfl h ?_
    rintro r2 σ2 ⟨v2, rfl, h⟩
    show WP g 45 59 (d + 1) M_X3_fork 61 [(0, .ref (eA g 45)), (1, .int x1), (2, .int x2), (3, .int x3), (4, .int x4), (5, .int x5)] [.int v2, .int x5, .ref (eA g 47)] σ2 K
    refine wp_if_eq 74 dX3_fork_61 (by decide) (fun c => ?_) (fun c => ?_)
    · replace h := h.1 c
      refine wp_aload_n 0 dX3_fork_74 rfl rfl ?_
      refine wp_iload 4 dX3_fork_75 rfl ?_
      refine wp_iload 5 dX3_fork_77 rfl ?_
      refine wp_callV [.int x4, .int x5] [.int x5, .ref (eA g 47)] 45 2 (by decide) (by decide) rfl rfl wc_X3_get wm_X3_81 ws_X3_get we_X3_get wi_X3 ok_X3_get (by decide) (Nat.le_of_ble_eq_true rfl) dX3_fork_79 rfl h ?_
      rintro r3 σ3 ⟨v3, rfl, h⟩
      show WP g 45 59 (d + 1) M_X3_fork 82 [(0, .ref (eA g 45)), (1, .int x1), (2, .int x2), (3, .int x3), (4, .int x4), (5, .int x5)] [.int v3, .int x5, .ref (eA g 47)] σ3 K
      refine wp_zast (by decide) (by decide) dX3_fork_82 h.1 ?_
      replace h := h.2
      refine wp_iinc 5 (nI 1) (lv' := [(5, .int (x5 + (nI 1))), (0, .ref (eA g 45)), (1, .int x1), (2, .int x2), (3, .int x3), (4, .int x4)]) dX3_fork_83 (by decide) rfl (by decide) rfl ?_
      refine wp_goto 39 dX3_fork_86 (by decide) ?_
      exact wp_sub [1, 2, 3, 4, 5, 0] rfl h
    · replace h := h.2 c
      refine wp_aload_n 0 dX3_fork_64 rfl rfl ?_
      refine wp_iload_n 3 dX3_fork_65 rfl rfl ?_
      refine wp_iload 5 dX3_fork_66 rfl ?_
      refine wp_callV [.int x3, .int x5] [.int x5, .ref (eA g 47)] 45 2 (by decide) (by decide) rfl rfl wc_X3_get wm_X3_81 ws_X3_get we_X3_get wi_X3 ok_X3_get (by decide) (Nat.le_of_ble_eq_true rfl) dX3_fork_68 rfl h ?_
      rintro r4 σ4 ⟨v4, rfl, h⟩
      show WP g 45 59 (d + 1) M_X3_fork 71 [(0, .ref (eA g 45)), (1, .int x1), (2, .int x2), (3, .int x3), (4, .int x4), (5, .int x5)] [.int v4, .int x5, .ref (eA g 47)] σ4 K
      refine wp_goto 82 dX3_fork_71 (by decide) ?_
      refine wp_zast (by decide) (by decide) dX3_fork_82 h.1 ?_
      replace h := h.2
      refine wp_iinc 5 (nI 1) (lv' := [(5, .int (x5 + (nI 1))), (0, .ref (eA g 45)), (1, .int x1), (2, .int x2), (3, .int x3), (4, .int x4)]) dX3_fork_83 (by decide) rfl (by decide) rfl ?_
      refine wp_goto 39 dX3_fork_86 (by decide) ?_
      exact wp_sub [1, 2, 3, 4, 5, 0] rfl h
set_option maxRecDepth 100000 in
set_option maxHeartbeats 4000000 in
theorem E_X3_with (g : Ev) (d : Nat) (x0 : Int32) (x1 : Int32) (x2 : Int32) (σ : St) (K : Option Value → St → Prop) (h : ((x2 = nI 0 → K (some (.int (x0 &&& ((jshl (nI 1) x1) ^^^ (-1))))) σ) ∧ (¬ x2 = nI 0 → K (some (.int (x0 ||| (jshl (nI 1) x1)))) σ))) : Runs g 45 59 (d + 1) M_X3_with [.int x0, .int x1, .int x2] σ K := by
  refine Runs.of (by decide) (Nat.le_of_ble_eq_true rfl) ?_
  show WP g 45 59 (d + 1) M_X3_with 0 [(0, .int x0), (1, .int x1), (2, .int x2)] [] σ K
  refine wp_iload_n 2 dX3_with_0 rfl rfl ?_
  refine wp_if_eq 12 dX3_with_1 (by decide) (fun c => ?_) (fun c => ?_)
  · replace h := h.1 c
    refine wp_iload_n 0 dX3_with_12 rfl rfl ?_
    refine wp_iconst (nI 1) dX3_with_13 (by decide) ?_
    refine wp_iload_n 1 dX3_with_14 rfl rfl ?_
    refine wp_ishl dX3_with_15 ?_
    refine wp_iconst (-1) dX3_with_16 (by decide) ?_
    refine wp_ixor dX3_with_17 ?_
    refine wp_iand dX3_with_18 ?_
    exact wp_iret rfl dX3_with_19 h
  · replace h := h.2 c
    refine wp_iload_n 0 dX3_with_4 rfl rfl ?_
    refine wp_iconst (nI 1) dX3_with_5 (by decide) ?_
    refine wp_iload_n 1 dX3_with_6 rfl rfl ?_
    refine wp_ishl dX3_with_7 ?_
    refine wp_ior dX3_with_8 ?_
    refine wp_goto 19 dX3_with_9 (by decide) ?_
    exact wp_iret rfl dX3_with_19 h
set_option maxRecDepth 100000 in
set_option maxHeartbeats 4000000 in
theorem E_X3_fix (g : Ev) (d : Nat) (x1 : Int32) (x2 : Int32) (x3 : Int32) (x4 : Int32) (σ : St) (K : Option Value → St → Prop) (h : Runs g 45 59 d M_X3_isRegister [.ref (eA g 45), .int x1] σ (fun r1 σ1 => ∃ v1 : Int32, r1 = some (.int v1) ∧ ((v1 = nI 0 → K (some (.int (-2))) σ1) ∧ (¬ v1 = nI 0 → Runs g 45 59 d M_X3_isRegister [.ref (eA g 45), .int x2] σ1 (fun r2 σ2 => ∃ v2 : Int32, r2 = some (.int v2) ∧ ((v2 = nI 0 → K (some (.int (-2))) σ2) ∧ (¬ v2 = nI 0 → Runs g 45 59 d M_X3_isLetter [.ref (eA g 45), .int x3] σ2 (fun r3 σ3 => ∃ v3 : Int32, r3 = some (.int v3) ∧ ((¬ v3 = nI 0 → WP g 45 59 (d + 1) M_X3_fix 30 [(0, .ref (eA g 45)), (1, .int x1), (2, .int x2), (3, .int x3), (4, .int x4), (5, .int (nI 0))] [] σ3 K) ∧ (v3 = nI 0 → K (some (.int (-2))) σ3)))))))))) : Runs g 45 59 (d + 1) M_X3_fix [.ref (eA g 45), .int x1, .int x2, .int x3, .int x4] σ K := by
  refine Runs.of (by decide) (Nat.le_of_ble_eq_true rfl) ?_
  show WP g 45 59 (d + 1) M_X3_fix 0 [(0, .ref (eA g 45)), (1, .int x1), (2, .int x2), (3, .int x3), (4, .int x4)] [] σ K
  refine wp_aload_n 0 dX3_fix_0 rfl rfl ?_
  refine wp_iload_n 1 dX3_fix_1 rfl rfl ?_
  refine wp_callV [.int x1] [] 45 2 (by decide) (by decide) rfl rfl wc_X3_isRegister wm_X3_92 ws_X3_isRegister we_X3_isRegister wi_X3 ok_X3_isRegister (by decide) (Nat.le_of_ble_eq_true rfl) dX3_fix_2 rfl h ?_
  rintro r1 σ1 ⟨v1, rfl, h⟩
  show WP g 45 59 (d + 1) M_X3_fix 5 [(0, .ref (eA g 45)), (1, .int x1), (2, .int x2), (3, .int x3), (4, .int x4)] [.int v1] σ1 K
  refine wp_if_eq 24 dX3_fix_5 (by decide) (fun c => ?_) (fun c => ?_)
  · replace h := h.1 c
    refine wp_bipush (-2) dX3_fix_24 (by decide) ?_
    exact wp_iret rfl dX3_fix_26 h
  · replace h := h.2 c
    refine wp_aload_n 0 dX3_fix_8 rfl rfl ?_
    refine wp_iload_n 2 dX3_fix_9 rfl rfl ?_
    refine wp_callV [.int x2] [] 45 2 (by decide) (by decide) rfl rfl wc_X3_isRegister wm_X3_92 ws_X3_isRegister we_X3_isRegister wi_X3 ok_X3_isRegister (by decide) (Nat.le_of_ble_eq_true rfl) dX3_fix_10 rfl h ?_
    rintro r2 σ2 ⟨v2, rfl, h⟩
    show WP g 45 59 (d + 1) M_X3_fix 13 [(0, .ref (eA g 45)), (1, .int x1), (2, .int x2), (3, .int x3), (4, .int x4)] [.int v2] σ2 K
    refine wp_if_eq 24 dX3_fix_13 (by decide) (fun c => ?_) (fun c => ?_)
    · replace h := h.1 c
      refine wp_bipush (-2) dX3_fix_24 (by decide) ?_
      exact wp_iret rfl dX3_fix_26 h
    · replace h := h.2 c
      refine wp_aload_n 0 dX3_fix_16 rfl rfl ?_
      refine wp_iload_n 3 dX3_fix_17 rfl rfl ?_
      refine wp_callV [.int x3] [] 45 2 (by decide) (by decide) rfl rfl wc_X3_isLetter wm_X3_96 ws_X3_isLetter we_X3_isLetter wi_X3 ok_X3_isLetter (by decide) (Nat.le_of_ble_eq_true rfl) dX3_fix_18 rfl h ?_
      rintro r3 σ3 ⟨v3, rfl, h⟩
      show WP g 45 59 (d + 1) M_X3_fix 21 [(0, .ref (eA g 45)), (1, .int x1), (2, .int x2), (3, .int x3), (4, .int x4)] [.int v3] σ3 K
      refine wp_if_ne 27 dX3_fix_21 (by decide) (fun c => ?_) (fun c => ?_)
      · replace h := h.1 c
        refine wp_iconst (nI 0) dX3_fix_27 (by decide) ?_
        refine wp_istore (lv' := [(5, .int (nI 0)), (0, .ref (eA g 45)), (1, .int x1), (2, .int x2), (3, .int x3), (4, .int x4)]) dX3_fix_28 (by decide) rfl ?_
        exact wp_sub [1, 2, 3, 4, 5, 0] rfl h
      · replace h := h.2 c
        refine wp_bipush (-2) dX3_fix_24 (by decide) ?_
        exact wp_iret rfl dX3_fix_26 h
set_option maxRecDepth 100000 in
set_option maxHeartbeats 4000000 in
theorem R_X3_fix_30 (g : Ev) (d : Nat) (x1 : Int32) (x2 : Int32) (x3 : Int32) (x4 : Int32) (x5 : Int32) (σ : St) (K : Option Value → St → Prop) (h : (((sV σ 9) ≤ x5 → Runs g 45 59 d M_X3_puts [.ref (eA g 45), .int x1] σ (fun r1 σ1 => ∃ v1 : Int32, r1 = some (.int v1) ∧ K (some (.int v1)) σ1)) ∧ (¬ (sV σ 9) ≤ x5 → Runs g 45 59 d M_X3_with [.int x5, .int x3, .int x4] σ (fun r2 σ2 => ∃ v2 : Int32, r2 = some (.int v2) ∧ Runs g 45 59 d M_X3_get [.ref (eA g 45), .int x2, .int v2] σ2 (fun r3 σ3 => ∃ v3 : Int32, r3 = some (.int v3) ∧ vp_in x5 (lenZ 47) ∧ WP g 45 59 (d + 1) M_X3_fix 30 [(0, .ref (eA g 45)), (1, .int x1), (2, .int x2), (3, .int x3), (4, .int x4), (5, .int (x5 + (nI 1)))] [] (uI σ3 47 x5.toNatClampNeg (vp_nar .boolean v3)) K))))) : WP g 45 59 (d + 1) M_X3_fix 30 [(0, .ref (eA g 45)), (1, .int x1), (2, .int x2), (3, .int x3), (4, .int x4), (5, .int x5)] [] σ K := by
  refine wp_iload 5 dX3_fix_30 rfl ?_
  refine wp_aload_n 0 dX3_fix_32 rfl rfl ?_
  refine wp_get 45 2 1 (by decide) (by decide) rfl rfl inG3 (by decide) wf_X3_59 rfl dX3_fix_33 ?_
  refine wp_icmp_ge 65 dX3_fix_36 (by decide) (fun c => ?_) (fun c => ?_)
  · replace h := h.1 c
    refine wp_aload_n 0 dX3_fix_65 rfl rfl ?_
    refine wp_iload_n 1 dX3_fix_66 rfl rfl ?_
    refine wp_callV [.int x1] [] 45 2 (by decide) (by decide) rfl rfl wc_X3_puts wm_X3_99 ws_X3_puts we_X3_puts wi_X3 ok_X3_puts (by decide) (Nat.le_of_ble_eq_true rfl) dX3_fix_67 rfl h ?_
    rintro r1 σ1 ⟨v1, rfl, h⟩
    show WP g 45 59 (d + 1) M_X3_fix 70 [(0, .ref (eA g 45)), (1, .int x1), (2, .int x2), (3, .int x3), (4, .int x4), (5, .int x5)] [.int v1] σ1 K
    exact wp_iret rfl dX3_fix_70 h
  · replace h := h.2 c
    refine wp_aload_n 0 dX3_fix_39 rfl rfl ?_
    refine wp_get 45 2 4 (by decide) (by decide) rfl rfl inG3 (by decide) wf_X3_14 rfl dX3_fix_40 ?_
    refine wp_iload 5 dX3_fix_43 rfl ?_
    refine wp_aload_n 0 dX3_fix_45 rfl rfl ?_
    refine wp_iload_n 2 dX3_fix_46 rfl rfl ?_
    refine wp_iload 5 dX3_fix_47 rfl ?_
    refine wp_iload_n 3 dX3_fix_49 rfl rfl ?_
    refine wp_iload 4 dX3_fix_50 rfl ?_
    refine wp_callS [.int x5, .int x3, .int x4] [.int x2, .ref (eA g 45), .int x5, .ref (eA g 47)] wc_X3_with wm_X3_103 ws_X3_with wi_X3 ok_X3_with (by decide) (Nat.le_of_ble_eq_true rfl) dX3_fix_52 rfl h ?_
    rintro r2 σ2 ⟨v2, rfl, h⟩
    show WP g 45 59 (d + 1) M_X3_fix 55 [(0, .ref (eA g 45)), (1, .int x1), (2, .int x2), (3, .int x3), (4, .int x4), (5, .int x5)] [.int v2, .int x2, .ref (eA g 45), .int x5, .ref (eA g 47)] σ2 K
    refine wp_callV [.int x2, .int v2] [.int x5, .ref (eA g 47)] 45 2 (by decide) (by decide) rfl rfl wc_X3_get wm_X3_81 ws_X3_get we_X3_get wi_X3 ok_X3_get (by decide) (Nat.le_of_ble_eq_true rfl) dX3_fix_55 rfl h ?_
    rintro r3 σ3 ⟨v3, rfl, h⟩
    show WP g 45 59 (d + 1) M_X3_fix 58 [(0, .ref (eA g 45)), (1, .int x1), (2, .int x2), (3, .int x3), (4, .int x4), (5, .int x5)] [.int v3, .int x5, .ref (eA g 47)] σ3 K
    refine wp_zast (by decide) (by decide) dX3_fix_58 h.1 ?_
    replace h := h.2
    refine wp_iinc 5 (nI 1) (lv' := [(5, .int (x5 + (nI 1))), (0, .ref (eA g 45)), (1, .int x1), (2, .int x2), (3, .int x3), (4, .int x4)]) dX3_fix_59 (by decide) rfl (by decide) rfl ?_
    refine wp_goto 30 dX3_fix_62 (by decide) ?_
    exact wp_sub [1, 2, 3, 4, 5, 0] rfl h
set_option maxRecDepth 100000 in
set_option maxHeartbeats 4000000 in
theorem E_X3_put (g : Ev) (d : Nat) (x1 : Int32) (x2 : Int32) (x3 : Int32) (x4 : Int32) (σ : St) (K : Option Value → St → Prop) (h : Runs g 45 59 d M_X3_isRegister [.ref (eA g 45), .int x1] σ (fun r1 σ1 => ∃ v1 : Int32, r1 = some (.int v1) ∧ ((v1 = nI 0 → K (some (.int (-2))) σ1) ∧ (¬ v1 = nI 0 → Runs g 45 59 d M_X3_isRegister [.ref (eA g 45), .int x2] σ1 (fun r2 σ2 => ∃ v2 : Int32, r2 = some (.int v2) ∧ ((v2 = nI 0 → K (some (.int (-2))) σ2) ∧ (¬ v2 = nI 0 → Runs g 45 59 d M_X3_isLetter [.ref (eA g 45), .int x3] σ2 (fun r3 σ3 => ∃ v3 : Int32, r3 = some (.int v3) ∧ ((v3 = nI 0 → K (some (.int (-2))) σ3) ∧ (¬ v3 = nI 0 → Runs g 45 59 d M_X3_isRegister [.ref (eA g 45), .int x4] σ3 (fun r4 σ4 => ∃ v4 : Int32, r4 = some (.int v4) ∧ ((¬ v4 = nI 0 → WP g 45 59 (d + 1) M_X3_put 39 [(0, .ref (eA g 45)), (1, .int x1), (2, .int x2), (3, .int x3), (4, .int x4), (5, .int (nI 0))] [] σ4 K) ∧ (v4 = nI 0 → K (some (.int (-2))) σ4))))))))))))) : Runs g 45 59 (d + 1) M_X3_put [.ref (eA g 45), .int x1, .int x2, .int x3, .int x4] σ K := by
  refine Runs.of (by decide) (Nat.le_of_ble_eq_true rfl) ?_
  show WP g 45 59 (d + 1) M_X3_put 0 [(0, .ref (eA g 45)), (1, .int x1), (2, .int x2), (3, .int x3), (4, .int x4)] [] σ K
  refine wp_aload_n 0 dX3_put_0 rfl rfl ?_
  refine wp_iload_n 1 dX3_put_1 rfl rfl ?_
  refine wp_callV [.int x1] [] 45 2 (by decide) (by decide) rfl rfl wc_X3_isRegister wm_X3_92 ws_X3_isRegister we_X3_isRegister wi_X3 ok_X3_isRegister (by decide) (Nat.le_of_ble_eq_true rfl) dX3_put_2 rfl h ?_
  rintro r1 σ1 ⟨v1, rfl, h⟩
  show WP g 45 59 (d + 1) M_X3_put 5 [(0, .ref (eA g 45)), (1, .int x1), (2, .int x2), (3, .int x3), (4, .int x4)] [.int v1] σ1 K
  refine wp_if_eq 33 dX3_put_5 (by decide) (fun c => ?_) (fun c => ?_)
  · replace h := h.1 c
    refine wp_bipush (-2) dX3_put_33 (by decide) ?_
    exact wp_iret rfl dX3_put_35 h
  · replace h := h.2 c
    refine wp_aload_n 0 dX3_put_8 rfl rfl ?_
    refine wp_iload_n 2 dX3_put_9 rfl rfl ?_
    refine wp_callV [.int x2] [] 45 2 (by decide) (by decide) rfl rfl wc_X3_isRegister wm_X3_92 ws_X3_isRegister we_X3_isRegister wi_X3 ok_X3_isRegister (by decide) (Nat.le_of_ble_eq_true rfl) dX3_put_10 rfl h ?_
    rintro r2 σ2 ⟨v2, rfl, h⟩
    show WP g 45 59 (d + 1) M_X3_put 13 [(0, .ref (eA g 45)), (1, .int x1), (2, .int x2), (3, .int x3), (4, .int x4)] [.int v2] σ2 K
    refine wp_if_eq 33 dX3_put_13 (by decide) (fun c => ?_) (fun c => ?_)
    · replace h := h.1 c
      refine wp_bipush (-2) dX3_put_33 (by decide) ?_
      exact wp_iret rfl dX3_put_35 h
    · replace h := h.2 c
      refine wp_aload_n 0 dX3_put_16 rfl rfl ?_
      refine wp_iload_n 3 dX3_put_17 rfl rfl ?_
      refine wp_callV [.int x3] [] 45 2 (by decide) (by decide) rfl rfl wc_X3_isLetter wm_X3_96 ws_X3_isLetter we_X3_isLetter wi_X3 ok_X3_isLetter (by decide) (Nat.le_of_ble_eq_true rfl) dX3_put_18 rfl h ?_
      rintro r3 σ3 ⟨v3, rfl, h⟩
      show WP g 45 59 (d + 1) M_X3_put 21 [(0, .ref (eA g 45)), (1, .int x1), (2, .int x2), (3, .int x3), (4, .int x4)] [.int v3] σ3 K
      refine wp_if_eq 33 dX3_put_21 (by decide) (fun c => ?_) (fun c => ?_)
      · replace h := h.1 c
        refine wp_bipush (-2) dX3_put_33 (by decide) ?_
        exact wp_iret rfl dX3_put_35 h
      · replace h := h.2 c
        refine wp_aload_n 0 dX3_put_24 rfl rfl ?_
        refine wp_iload 4 dX3_put_25 rfl ?_
        refine wp_callV [.int x4] [] 45 2 (by decide) (by decide) rfl rfl wc_X3_isRegister wm_X3_92 ws_X3_isRegister we_X3_isRegister wi_X3 ok_X3_isRegister (by decide) (Nat.le_of_ble_eq_true rfl) dX3_put_27 rfl h ?_
        rintro r4 σ4 ⟨v4, rfl, h⟩
        show WP g 45 59 (d + 1) M_X3_put 30 [(0, .ref (eA g 45)), (1, .int x1), (2, .int x2), (3, .int x3), (4, .int x4)] [.int v4] σ4 K
        refine wp_if_ne 36 dX3_put_30 (by decide) (fun c => ?_) (fun c => ?_)
        · replace h := h.1 c
          refine wp_iconst (nI 0) dX3_put_36 (by decide) ?_
          refine wp_istore (lv' := [(5, .int (nI 0)), (0, .ref (eA g 45)), (1, .int x1), (2, .int x2), (3, .int x3), (4, .int x4)]) dX3_put_37 (by decide) rfl ?_
          exact wp_sub [1, 2, 3, 4, 5, 0] rfl h
        · replace h := h.2 c
          refine wp_bipush (-2) dX3_put_33 (by decide) ?_
          exact wp_iret rfl dX3_put_35 h
set_option maxRecDepth 100000 in
set_option maxHeartbeats 4000000 in
theorem R_X3_put_39 (g : Ev) (d : Nat) (x1 : Int32) (x2 : Int32) (x3 : Int32) (x4 : Int32) (x5 : Int32) (σ : St) (K : Option Value → St → Prop) (h : (((sV σ 9) ≤ x5 → Runs g 45 59 d M_X3_puts [.ref (eA g 45), .int x1] σ (fun r1 σ1 => ∃ v1 : Int32, r1 = some (.int v1) ∧ K (some (.int v1)) σ1)) ∧ (¬ (sV σ 9) ≤ x5 → Runs g 45 59 d M_X3_get [.ref (eA g 45), .int x4, .int x5] σ (fun r2 σ2 => ∃ v2 : Int32, r2 = some (.int v2) ∧ Runs g 45 59 d M_X3_with [.int x5, .int x3, .int v2] σ2 (fun r3 σ3 => ∃ v3 : Int32, r3 = some (.int v3) ∧ Runs g 45 59 d M_X3_get [.ref (eA g 45), .int x2, .int v3] σ3 (fun r4 σ4 => ∃ v4 : Int32, r4 = some (.int v4) ∧ vp_in x5 (lenZ 47) ∧ WP g 45 59 (d + 1) M_X3_put 39 [(0, .ref (eA g 45)), (1, .int x1), (2, .int x2), (3, .int x3), (4, .int x4), (5, .int (x5 + (nI 1)))] [] (uI σ4 47 x5.toNatClampNeg (vp_nar .boolean v4)) K)))))) : WP g 45 59 (d + 1) M_X3_put 39 [(0, .ref (eA g 45)), (1, .int x1), (2, .int x2), (3, .int x3), (4, .int x4), (5, .int x5)] [] σ K := by
  refine wp_iload 5 dX3_put_39 rfl ?_
  refine wp_aload_n 0 dX3_put_41 rfl rfl ?_
  refine wp_get 45 2 1 (by decide) (by decide) rfl rfl inG3 (by decide) wf_X3_59 rfl dX3_put_42 ?_
  refine wp_icmp_ge 80 dX3_put_45 (by decide) (fun c => ?_) (fun c => ?_)
  · replace h := h.1 c
    refine wp_aload_n 0 dX3_put_80 rfl rfl ?_
    refine wp_iload_n 1 dX3_put_81 rfl rfl ?_
    refine wp_callV [.int x1] [] 45 2 (by decide) (by decide) rfl rfl wc_X3_puts wm_X3_99 ws_X3_puts we_X3_puts wi_X3 ok_X3_puts (by decide) (Nat.le_of_ble_eq_true rfl) dX3_put_82 rfl h ?_
    rintro r1 σ1 ⟨v1, rfl, h⟩
    show WP g 45 59 (d + 1) M_X3_put 85 [(0, .ref (eA g 45)), (1, .int x1), (2, .int x2), (3, .int x3), (4, .int x4), (5, .int x5)] [.int v1] σ1 K
    exact wp_iret rfl dX3_put_85 h
  · replace h := h.2 c
    refine wp_aload_n 0 dX3_put_48 rfl rfl ?_
    refine wp_get 45 2 4 (by decide) (by decide) rfl rfl inG3 (by decide) wf_X3_14 rfl dX3_put_49 ?_
    refine wp_iload 5 dX3_put_52 rfl ?_
    refine wp_aload_n 0 dX3_put_54 rfl rfl ?_
    refine wp_iload_n 2 dX3_put_55 rfl rfl ?_
    refine wp_iload 5 dX3_put_56 rfl ?_
    refine wp_iload_n 3 dX3_put_58 rfl rfl ?_
    refine wp_aload_n 0 dX3_put_59 rfl rfl ?_
    refine wp_iload 4 dX3_put_60 rfl ?_
    refine wp_iload 5 dX3_put_62 rfl ?_
    refine wp_callV [.int x4, .int x5] [.int x3, .int x5, .int x2, .ref (eA g 45), .int x5, .ref (eA g 47)] 45 2 (by decide) (by decide) rfl rfl wc_X3_get wm_X3_81 ws_X3_get we_X3_get wi_X3 ok_X3_get (by decide) (Nat.le_of_ble_eq_true rfl) dX3_put_64 rfl h ?_
    rintro r2 σ2 ⟨v2, rfl, h⟩
    show WP g 45 59 (d + 1) M_X3_put 67 [(0, .ref (eA g 45)), (1, .int x1), (2, .int x2), (3, .int x3), (4, .int x4), (5, .int x5)] [.int v2, .int x3, .int x5, .int x2, .ref (eA g 45), .int x5, .ref (eA g 47)] σ2 K
    refine wp_callS [.int x5, .int x3, .int v2] [.int x2, .ref (eA g 45), .int x5, .ref (eA g 47)] wc_X3_with wm_X3_103 ws_X3_with wi_X3 ok_X3_with (by decide) (Nat.le_of_ble_eq_true rfl) dX3_put_67 rfl h ?_
    rintro r3 σ3 ⟨v3, rfl, h⟩
    show WP g 45 59 (d + 1) M_X3_put 70 [(0, .ref (eA g 45)), (1, .int x1), (2, .int x2), (3, .int x3), (4, .int x4), (5, .int x5)] [.int v3, .int x2, .ref (eA g 45), .int x5, .ref (eA g 47)] σ3 K
    refine wp_callV [.int x2, .int v3] [.int x5, .ref (eA g 47)] 45 2 (by decide) (by decide) rfl rfl wc_X3_get wm_X3_81 ws_X3_get we_X3_get wi_X3 ok_X3_get (by decide) (Nat.le_of_ble_eq_true rfl) dX3_put_70 rfl h ?_
    rintro r4 σ4 ⟨v4, rfl, h⟩
    show WP g 45 59 (d + 1) M_X3_put 73 [(0, .ref (eA g 45)), (1, .int x1), (2, .int x2), (3, .int x3), (4, .int x4), (5, .int x5)] [.int v4, .int x5, .ref (eA g 47)] σ4 K
    refine wp_zast (by decide) (by decide) dX3_put_73 h.1 ?_
    replace h := h.2
    refine wp_iinc 5 (nI 1) (lv' := [(5, .int (x5 + (nI 1))), (0, .ref (eA g 45)), (1, .int x1), (2, .int x2), (3, .int x3), (4, .int x4)]) dX3_put_74 (by decide) rfl (by decide) rfl ?_
    refine wp_goto 39 dX3_put_77 (by decide) ?_
    exact wp_sub [1, 2, 3, 4, 5, 0] rfl h
set_option maxRecDepth 100000 in
set_option maxHeartbeats 4000000 in
theorem E_X3_sum (g : Ev) (d : Nat) (x1 : Int32) (x2 : Int32) (x3 : Int32) (x4 : Int32) (σ : St) (K : Option Value → St → Prop) (h : Runs g 45 59 d M_X3_isRegister [.ref (eA g 45), .int x1] σ (fun r1 σ1 => ∃ v1 : Int32, r1 = some (.int v1) ∧ ((v1 = nI 0 → K (some (.int (-2))) σ1) ∧ (¬ v1 = nI 0 → Runs g 45 59 d M_X3_isRegister [.ref (eA g 45), .int x2] σ1 (fun r2 σ2 => ∃ v2 : Int32, r2 = some (.int v2) ∧ ((v2 = nI 0 → K (some (.int (-2))) σ2) ∧ (¬ v2 = nI 0 → ((x3 < nI 0 → K (some (.int (-2))) σ2) ∧ (¬ x3 < nI 0 → ((x3 < (sV σ2 9) → WP g 45 59 (d + 1) M_X3_sum 34 [(0, .ref (eA g 45)), (1, .int x1), (2, .int x2), (3, .int x3), (4, .int x4), (5, .int (nI 0))] [] σ2 K) ∧ (¬ x3 < (sV σ2 9) → K (some (.int (-2))) σ2))))))))))) : Runs g 45 59 (d + 1) M_X3_sum [.ref (eA g 45), .int x1, .int x2, .int x3, .int x4] σ K := by
  refine Runs.of (by decide) (Nat.le_of_ble_eq_true rfl) ?_
  show WP g 45 59 (d + 1) M_X3_sum 0 [(0, .ref (eA g 45)), (1, .int x1), (2, .int x2), (3, .int x3), (4, .int x4)] [] σ K
  refine wp_aload_n 0 dX3_sum_0 rfl rfl ?_
  refine wp_iload_n 1 dX3_sum_1 rfl rfl ?_
  refine wp_callV [.int x1] [] 45 2 (by decide) (by decide) rfl rfl wc_X3_isRegister wm_X3_92 ws_X3_isRegister we_X3_isRegister wi_X3 ok_X3_isRegister (by decide) (Nat.le_of_ble_eq_true rfl) dX3_sum_2 rfl h ?_
  rintro r1 σ1 ⟨v1, rfl, h⟩
  show WP g 45 59 (d + 1) M_X3_sum 5 [(0, .ref (eA g 45)), (1, .int x1), (2, .int x2), (3, .int x3), (4, .int x4)] [.int v1] σ1 K
  refine wp_if_eq 28 dX3_sum_5 (by decide) (fun c => ?_) (fun c => ?_)
  · replace h := h.1 c
    refine wp_bipush (-2) dX3_sum_28 (by decide) ?_
    exact wp_iret rfl dX3_sum_30 h
  · replace h := h.2 c
    refine wp_aload_n 0 dX3_sum_8 rfl rfl ?_
    refine wp_iload_n 2 dX3_sum_9 rfl rfl ?_
    refine wp_callV [.int x2] [] 45 2 (by decide) (by decide) rfl rfl wc_X3_isRegister wm_X3_92 ws_X3_isRegister we_X3_isRegister wi_X3 ok_X3_isRegister (by decide) (Nat.le_of_ble_eq_true rfl) dX3_sum_10 rfl h ?_
    rintro r2 σ2 ⟨v2, rfl, h⟩
    show WP g 45 59 (d + 1) M_X3_sum 13 [(0, .ref (eA g 45)), (1, .int x1), (2, .int x2), (3, .int x3), (4, .int x4)] [.int v2] σ2 K
    refine wp_if_eq 28 dX3_sum_13 (by decide) (fun c => ?_) (fun c => ?_)
    · replace h := h.1 c
      refine wp_bipush (-2) dX3_sum_28 (by decide) ?_
      exact wp_iret rfl dX3_sum_30 h
    · replace h := h.2 c
      refine wp_iload_n 3 dX3_sum_16 rfl rfl ?_
      refine wp_if_lt 28 dX3_sum_17 (by decide) (fun c => ?_) (fun c => ?_)
      · replace h := h.1 c
        refine wp_bipush (-2) dX3_sum_28 (by decide) ?_
        exact wp_iret rfl dX3_sum_30 h
      · replace h := h.2 c
        refine wp_iload_n 3 dX3_sum_20 rfl rfl ?_
        refine wp_aload_n 0 dX3_sum_21 rfl rfl ?_
        refine wp_get 45 2 1 (by decide) (by decide) rfl rfl inG3 (by decide) wf_X3_59 rfl dX3_sum_22 ?_
        refine wp_icmp_lt 31 dX3_sum_25 (by decide) (fun c => ?_) (fun c => ?_)
        · replace h := h.1 c
          refine wp_iconst (nI 0) dX3_sum_31 (by decide) ?_
          refine wp_istore (lv' := [(5, .int (nI 0)), (0, .ref (eA g 45)), (1, .int x1), (2, .int x2), (3, .int x3), (4, .int x4)]) dX3_sum_32 (by decide) rfl ?_
          exact wp_sub [1, 2, 3, 4, 5, 0] rfl h
        · replace h := h.2 c
          refine wp_bipush (-2) dX3_sum_28 (by decide) ?_
          exact wp_iret rfl dX3_sum_30 h
set_option maxRecDepth 100000 in
set_option maxHeartbeats 4000000 in
theorem R_X3_sum_34 (g : Ev) (d : Nat) (x1 : Int32) (x2 : Int32) (x3 : Int32) (x4 : Int32) (x5 : Int32) (σ : St) (K : Option Value → St → Prop) (h : (((sV σ 9) ≤ x5 → WP g 45 59 (d + 1) M_X3_sum 66 [(0, .ref (eA g 45)), (1, .int x1), (3, .int x3), (4, .int x4), (5, .int (nI 0))] [] σ K) ∧ (¬ (sV σ 9) ≤ x5 → Runs g 45 59 d M_X3_get [.ref (eA g 45), .int x2, .int x5] σ (fun r1 σ1 => ∃ v1 : Int32, r1 = some (.int v1) ∧ vp_in x5 (lenZ 47) ∧ WP g 45 59 (d + 1) M_X3_sum 34 [(0, .ref (eA g 45)), (1, .int x1), (2, .int x2), (3, .int x3), (4, .int x4), (5, .int (x5 + (nI 1)))] [] (uI σ1 47 x5.toNatClampNeg (vp_nar .boolean v1)) K)))) : WP g 45 59 (d + 1) M_X3_sum 34 [(0, .ref (eA g 45)), (1, .int x1), (2, .int x2), (3, .int x3), (4, .int x4), (5, .int x5)] [] σ K := by
  refine wp_iload 5 dX3_sum_34 rfl ?_
  refine wp_aload_n 0 dX3_sum_36 rfl rfl ?_
  refine wp_get 45 2 1 (by decide) (by decide) rfl rfl inG3 (by decide) wf_X3_59 rfl dX3_sum_37 ?_
  refine wp_icmp_ge 63 dX3_sum_40 (by decide) (fun c => ?_) (fun c => ?_)
  · replace h := h.1 c
    refine wp_iconst (nI 0) dX3_sum_63 (by decide) ?_
    refine wp_istore (lv' := [(5, .int (nI 0)), (0, .ref (eA g 45)), (1, .int x1), (2, .int x2), (3, .int x3), (4, .int x4)]) dX3_sum_64 (by decide) rfl ?_
    exact wp_sub [1, 2, 4, 5, 0] rfl h
  · replace h := h.2 c
    refine wp_aload_n 0 dX3_sum_43 rfl rfl ?_
    refine wp_get 45 2 4 (by decide) (by decide) rfl rfl inG3 (by decide) wf_X3_14 rfl dX3_sum_44 ?_
    refine wp_iload 5 dX3_sum_47 rfl ?_
    refine wp_aload_n 0 dX3_sum_49 rfl rfl ?_
    refine wp_iload_n 2 dX3_sum_50 rfl rfl ?_
    refine wp_iload 5 dX3_sum_51 rfl ?_
    refine wp_callV [.int x2, .int x5] [.int x5, .ref (eA g 47)] 45 2 (by decide) (by decide) rfl rfl wc_X3_get wm_X3_81 ws_X3_get we_X3_get wi_X3 ok_X3_get (by decide) (Nat.le_of_ble_eq_true rfl) dX3_sum_53 rfl h ?_
    rintro r1 σ1 ⟨v1, rfl, h⟩
    show WP g 45 59 (d + 1) M_X3_sum 56 [(0, .ref (eA g 45)), (1, .int x1), (2, .int x2), (3, .int x3), (4, .int x4), (5, .int x5)] [.int v1, .int x5, .ref (eA g 47)] σ1 K
    refine wp_zast (by decide) (by decide) dX3_sum_56 h.1 ?_
    replace h := h.2
    refine wp_iinc 5 (nI 1) (lv' := [(5, .int (x5 + (nI 1))), (0, .ref (eA g 45)), (1, .int x1), (2, .int x2), (3, .int x3), (4, .int x4)]) dX3_sum_57 (by decide) rfl (by decide) rfl ?_
    refine wp_goto 34 dX3_sum_60 (by decide) ?_
    exact wp_sub [1, 2, 3, 4, 5, 0] rfl h
set_option maxRecDepth 100000 in
set_option maxHeartbeats 4000000 in
theorem R_X3_sum_66 (g : Ev) (d : Nat) (x1 : Int32) (x3 : Int32) (x4 : Int32) (x5 : Int32) (σ : St) (K : Option Value → St → Prop) (h : (((sV σ 8) ≤ x5 → Runs g 45 59 d M_X3_puts [.ref (eA g 45), .int x1] σ (fun r1 σ1 => ∃ v1 : Int32, r1 = some (.int v1) ∧ K (some (.int v1)) σ1)) ∧ (¬ (sV σ 8) ≤ x5 → ((¬ ((jshr x3 x5) &&& (nI 1)) = nI 0 → WP g 45 59 (d + 1) M_X3_sum 90 [(0, .ref (eA g 45)), (1, .int x1), (3, .int x3), (4, .int x4), (5, .int x5), (6, .int (nI 0))] [] σ K) ∧ (((jshr x3 x5) &&& (nI 1)) = nI 0 → WP g 45 59 (d + 1) M_X3_sum 66 [(0, .ref (eA g 45)), (1, .int x1), (3, .int x3), (4, .int x4), (5, .int (x5 + (nI 1)))] [] σ K))))) : WP g 45 59 (d + 1) M_X3_sum 66 [(0, .ref (eA g 45)), (1, .int x1), (3, .int x3), (4, .int x4), (5, .int x5)] [] σ K := by
  refine wp_iload 4 dX3_sum_66 rfl ?_
  refine wp_aload_n 0 dX3_sum_68 rfl rfl ?_
  refine wp_get 45 2 0 (by decide) (by decide) rfl rfl inG3 (by decide) wf_X3_55 rfl dX3_sum_69 ?_
  refine wp_icmp_ge 212 dX3_sum_72 (by decide) (fun c => ?_) (fun c => ?_)
  · replace h := h.1 c
    refine wp_aload_n 0 dX3_sum_212 rfl rfl ?_
    refine wp_iload_n 1 dX3_sum_213 rfl rfl ?_
    refine wp_callV [.int x1] [] 45 2 (by decide) (by decide) rfl rfl wc_X3_puts wm_X3_99 ws_X3_puts we_X3_puts wi_X3 ok_X3_puts (by decide) (Nat.le_of_ble_eq_true rfl) dX3_sum_214 rfl h ?_
    rintro r1 σ1 ⟨v1, rfl, h⟩
    show WP g 45 59 (d + 1) M_X3_sum 217 [(0, .ref (eA g 45)), (1, .int x1), (3, .int x3), (4, .int x4), (5, .int x5)] [.int v1] σ1 K
    exact wp_iret rfl dX3_sum_217 h
  · replace h := h.2 c
    refine wp_iload_n 2 dX3_sum_75 rfl rfl ?_
    refine wp_iload 4 dX3_sum_76 rfl ?_
    refine wp_ishr dX3_sum_78 ?_
    refine wp_iconst (nI 1) dX3_sum_79 (by decide) ?_
    refine wp_iand dX3_sum_80 ?_
    refine wp_if_ne 87 dX3_sum_81 (by decide) (fun c => ?_) (fun c => ?_)
    · replace h := h.1 c
      refine wp_iconst (nI 0) dX3_sum_87 (by decide) ?_
      refine wp_istore (lv' := [(6, .int (nI 0)), (0, .ref (eA g 45)), (1, .int x1), (3, .int x3), (4, .int x4), (5, .int x5)]) dX3_sum_88 (by decide) rfl ?_
      exact wp_sub [1, 2, 3, 4, 5, 0] rfl h
    · replace h := h.2 c
      refine wp_goto 206 dX3_sum_84 (by decide) ?_
      refine wp_iinc 4 (nI 1) (lv' := [(5, .int (x5 + (nI 1))), (0, .ref (eA g 45)), (1, .int x1), (3, .int x3), (4, .int x4)]) dX3_sum_206 (by decide) rfl (by decide) rfl ?_
      refine wp_goto 66 dX3_sum_209 (by decide) ?_
      exact wp_sub [1, 2, 3, 4, 0] rfl h
set_option maxRecDepth 100000 in
set_option maxHeartbeats 4000000 in
theorem R_X3_sum_90 (g : Ev) (d : Nat) (x1 : Int32) (x3 : Int32) (x4 : Int32) (x5 : Int32) (x6 : Int32) (σ : St) (K : Option Value → St → Prop) (h : (((sV σ 9) ≤ x6 → WP g 45 59 (d + 1) M_X3_sum 66 [(0, .ref (eA g 45)), (1, .int x1), (3, .int x3), (4, .int x4), (5, .int (x5 + (nI 1)))] [] σ K) ∧ (¬ (sV σ 9) ≤ x6 → ((¬ ((jshr x6 x5) &&& (nI 1)) = (nI 1) → ((x4 = nI 0 → vp_in x6 (lenZ 47) ∧ ((¬ (sI σ 47 x6.toNatClampNeg) = nI 0 → vp_in x6 (lenZ 47) ∧ vp_in (x6 ||| (jshl (nI 1) x5)) (lenZ 47) ∧ WP g 45 59 (d + 1) M_X3_sum 90 [(0, .ref (eA g 45)), (1, .int x1), (3, .int x3), (4, .int x4), (5, .int x5), (6, .int (x6 + (nI 1)))] [] (uI (uI σ 47 x6.toNatClampNeg (vp_nar .boolean (nI 1))) 47 (x6 ||| (jshl (nI 1) x5)).toNatClampNeg (vp_nar .boolean (nI 1))) K) ∧ ((sI σ 47 x6.toNatClampNeg) = nI 0 → vp_in (x6 ||| (jshl (nI 1) x5)) (lenZ 47) ∧ (((sI σ 47 (x6 ||| (jshl (nI 1) x5)).toNatClampNeg) = nI 0 → vp_in x6 (lenZ 47) ∧ vp_in (x6 ||| (jshl (nI 1) x5)) (lenZ 47) ∧ WP g 45 59 (d + 1) M_X3_sum 90 [(0, .ref (eA g 45)), (1, .int x1), (3, .int x3), (4, .int x4), (5, .int x5), (6, .int (x6 + (nI 1)))] [] (uI (uI σ 47 x6.toNatClampNeg (vp_nar .boolean (nI 0))) 47 (x6 ||| (jshl (nI 1) x5)).toNatClampNeg (vp_nar .boolean (nI 0))) K) ∧ (¬ (sI σ 47 (x6 ||| (jshl (nI 1) x5)).toNatClampNeg) = nI 0 → vp_in x6 (lenZ 47) ∧ vp_in (x6 ||| (jshl (nI 1) x5)) (lenZ 47) ∧ WP g 45 59 (d + 1) M_X3_sum 90 [(0, .ref (eA g 45)), (1, .int x1), (3, .int x3), (4, .int x4), (5, .int x5), (6, .int (x6 + (nI 1)))] [] (uI (uI σ 47 x6.toNatClampNeg (vp_nar .boolean (nI 1))) 47 (x6 ||| (jshl (nI 1) x5)).toNatClampNeg (vp_nar .boolean (nI 1))) K))))) ∧ (¬ x4 = nI 0 → vp_in x6 (lenZ 47) ∧ (((sI σ 47 x6.toNatClampNeg) = nI 0 → vp_in x6 (lenZ 47) ∧ vp_in (x6 ||| (jshl (nI 1) x5)) (lenZ 47) ∧ WP g 45 59 (d + 1) M_X3_sum 90 [(0, .ref (eA g 45)), (1, .int x1), (3, .int x3), (4, .int x4), (5, .int x5), (6, .int (x6 + (nI 1)))] [] (uI (uI σ 47 x6.toNatClampNeg (vp_nar .boolean (nI 0))) 47 (x6 ||| (jshl (nI 1) x5)).toNatClampNeg (vp_nar .boolean (nI 0))) K) ∧ (¬ (sI σ 47 x6.toNatClampNeg) = nI 0 → vp_in (x6 ||| (jshl (nI 1) x5)) (lenZ 47) ∧ (((sI σ 47 (x6 ||| (jshl (nI 1) x5)).toNatClampNeg) = nI 0 → vp_in x6 (lenZ 47) ∧ vp_in (x6 ||| (jshl (nI 1) x5)) (lenZ 47) ∧ WP g 45 59 (d + 1) M_X3_sum 90 [(0, .ref (eA g 45)), (1, .int x1), (3, .int x3), (4, .int x4), (5, .int x5), (6, .int (x6 + (nI 1)))] [] (uI (uI σ 47 x6.toNatClampNeg (vp_nar .boolean (nI 0))) 47 (x6 ||| (jshl (nI 1) x5)).toNatClampNeg (vp_nar .boolean (nI 0))) K) ∧ (¬ (sI σ 47 (x6 ||| (jshl (nI 1) x5)).toNatClampNeg) = nI 0 → vp_in x6 (lenZ 47) ∧ vp_in (x6 ||| (jshl (nI 1) x5)) (lenZ 47) ∧ WP g 45 59 (d + 1) M_X3_sum 90 [(0, .ref (eA g 45)), (1, .int x1), (3, .int x3), (4, .int x4), (5, .int x5), (6, .int (x6 + (nI 1)))] [] (uI (uI σ 47 x6.toNatClampNeg (vp_nar .boolean (nI 1))) 47 (x6 ||| (jshl (nI 1) x5)).toNatClampNeg (vp_nar .boolean (nI 1))) K))))))) ∧ (((jshr x6 x5) &&& (nI 1)) = (nI 1) → WP g 45 59 (d + 1) M_X3_sum 90 [(0, .ref (eA g 45)), (1, .int x1), (3, .int x3), (4, .int x4), (5, .int x5), (6, .int (x6 + (nI 1)))] [] σ K))))) : WP g 45 59 (d + 1) M_X3_sum 90 [(0, .ref (eA g 45)), (1, .int x1), (3, .int x3), (4, .int x4), (5, .int x5), (6, .int x6)] [] σ K := by
  refine wp_iload 5 dX3_sum_90 rfl ?_
  refine wp_aload_n 0 dX3_sum_92 rfl rfl ?_
  refine wp_get 45 2 1 (by decide) (by decide) rfl rfl inG3 (by decide) wf_X3_59 rfl dX3_sum_93 ?_
  refine wp_icmp_ge 206 dX3_sum_96 (by decide) (fun c => ?_) (fun c => ?_)
  · replace h := h.1 c
    refine wp_iinc 4 (nI 1) (lv' := [(5, .int (x5 + (nI 1))), (0, .ref (eA g 45)), (1, .int x1), (3, .int x3), (4, .int x4), (6, .int x6)]) dX3_sum_206 (by decide) rfl (by decide) rfl ?_
    refine wp_goto 66 dX3_sum_209 (by decide) ?_
    exact wp_sub [1, 2, 3, 4, 0] rfl h
  · replace h := h.2 c
    refine wp_iload 5 dX3_sum_99 rfl ?_
    refine wp_iload 4 dX3_sum_101 rfl ?_
    refine wp_ishr dX3_sum_103 ?_
    refine wp_iconst (nI 1) dX3_sum_104 (by decide) ?_
    refine wp_iand dX3_sum_105 ?_
    refine wp_iconst (nI 1) dX3_sum_106 (by decide) ?_
    refine wp_icmp_ne 113 dX3_sum_107 (by decide) (fun c => ?_) (fun c => ?_)
    · replace h := h.1 c
      refine wp_iload 5 dX3_sum_113 rfl ?_
      refine wp_iconst (nI 1) dX3_sum_115 (by decide) ?_
      refine wp_iload 4 dX3_sum_116 rfl ?_
      refine wp_ishl dX3_sum_118 ?_
      refine wp_ior dX3_sum_119 ?_
      refine wp_istore (lv' := [(7, .int (x6 ||| (jshl (nI 1) x5))), (0, .ref (eA g 45)), (1, .int x1), (3, .int x3), (4, .int x4), (5, .int x5), (6, .int x6)]) dX3_sum_120 (by decide) rfl ?_
      refine wp_iload 4 dX3_sum_122 rfl ?_
      refine wp_if_eq 155 dX3_sum_124 (by decide) (fun c => ?_) (fun c => ?_)
      · replace h := h.1 c
        refine wp_aload_n 1 dX3_sum_155 rfl rfl ?_
        refine wp_get 45 2 4 (by decide) (by decide) rfl rfl inG3 (by decide) wf_X3_14 rfl dX3_sum_156 ?_
        refine wp_iload 6 dX3_sum_159 rfl ?_
        refine wp_zald (by decide) (by decide) dX3_sum_161 h.1 ?_
        replace h := h.2
        refine wp_if_ne 175 dX3_sum_162 (by decide) (fun c => ?_) (fun c => ?_)
        · replace h := h.1 c
          refine wp_iconst (nI 1) dX3_sum_175 (by decide) ?_
          refine wp_goto 180 dX3_sum_176 (by decide) ?_
          refine wp_istore (lv' := [(8, .int (nI 1)), (7, .int (x6 ||| (jshl (nI 1) x5))), (0, .ref (eA g 45)), (1, .int x1), (3, .int x3), (4, .int x4), (5, .int x5), (6, .int x6)]) dX3_sum_180 (by decide) rfl ?_
          refine wp_aload_n 2 dX3_sum_182 rfl rfl ?_
          refine wp_get 45 2 4 (by decide) (by decide) rfl rfl inG3 (by decide) wf_X3_14 rfl dX3_sum_183 ?_
          refine wp_iload 7 dX3_sum_186 rfl ?_
          refine wp_iload 0 dX3_sum_188 rfl ?_
          refine wp_zast (by decide) (by decide) dX3_sum_190 h.1 ?_
          replace h := h.2
          refine wp_aload_n 2 dX3_sum_191 rfl rfl ?_
          refine wp_get 45 2 4 (by decide) (by decide) rfl rfl inG3 (by decide) wf_X3_14 rfl dX3_sum_192 ?_
          refine wp_iload 1 dX3_sum_195 rfl ?_
          refine wp_iload 0 dX3_sum_197 rfl ?_
          refine wp_zast (by decide) (by decide) dX3_sum_199 h.1 ?_
          replace h := h.2
          refine wp_iinc 7 (nI 1) (lv' := [(6, .int (x6 + (nI 1))), (8, .int (nI 1)), (7, .int (x6 ||| (jshl (nI 1) x5))), (0, .ref (eA g 45)), (1, .int x1), (3, .int x3), (4, .int x4), (5, .int x5)]) dX3_sum_200 (by decide) rfl (by decide) rfl ?_
          refine wp_goto 90 dX3_sum_203 (by decide) ?_
          exact wp_sub [3, 4, 5, 6, 7, 0] rfl h
        · replace h := h.2 c
          refine wp_aload_n 1 dX3_sum_165 rfl rfl ?_
          refine wp_get 45 2 4 (by decide) (by decide) rfl rfl inG3 (by decide) wf_X3_14 rfl dX3_sum_166 ?_
          refine wp_iload 0 dX3_sum_169 rfl ?_
          refine wp_zald (by decide) (by decide) dX3_sum_171 h.1 ?_
          replace h := h.2
          refine wp_if_eq 179 dX3_sum_172 (by decide) (fun c => ?_) (fun c => ?_)
          · replace h := h.1 c
            refine wp_iconst (nI 0) dX3_sum_179 (by decide) ?_
            refine wp_istore (lv' := [(8, .int (nI 0)), (7, .int (x6 ||| (jshl (nI 1) x5))), (0, .ref (eA g 45)), (1, .int x1), (3, .int x3), (4, .int x4), (5, .int x5), (6, .int x6)]) dX3_sum_180 (by decide) rfl ?_
            refine wp_aload_n 2 dX3_sum_182 rfl rfl ?_
            refine wp_get 45 2 4 (by decide) (by decide) rfl rfl inG3 (by decide) wf_X3_14 rfl dX3_sum_183 ?_
            refine wp_iload 7 dX3_sum_186 rfl ?_
            refine wp_iload 0 dX3_sum_188 rfl ?_
            refine wp_zast (by decide) (by decide) dX3_sum_190 h.1 ?_
            replace h := h.2
            refine wp_aload_n 2 dX3_sum_191 rfl rfl ?_
            refine wp_get 45 2 4 (by decide) (by decide) rfl rfl inG3 (by decide) wf_X3_14 rfl dX3_sum_192 ?_
            refine wp_iload 1 dX3_sum_195 rfl ?_
            refine wp_iload 0 dX3_sum_197 rfl ?_
            refine wp_zast (by decide) (by decide) dX3_sum_199 h.1 ?_
            replace h := h.2
            refine wp_iinc 7 (nI 1) (lv' := [(6, .int (x6 + (nI 1))), (8, .int (nI 0)), (7, .int (x6 ||| (jshl (nI 1) x5))), (0, .ref (eA g 45)), (1, .int x1), (3, .int x3), (4, .int x4), (5, .int x5)]) dX3_sum_200 (by decide) rfl (by decide) rfl ?_
            refine wp_goto 90 dX3_sum_203 (by decide) ?_
            exact wp_sub [3, 4, 5, 6, 7, 0] rfl h
          · replace h := h.2 c
            refine wp_iconst (nI 1) dX3_sum_175 (by decide) ?_
            refine wp_goto 180 dX3_sum_176 (by decide) ?_
            refine wp_istore (lv' := [(8, .int (nI 1)), (7, .int (x6 ||| (jshl (nI 1) x5))), (0, .ref (eA g 45)), (1, .int x1), (3, .int x3), (4, .int x4), (5, .int x5), (6, .int x6)]) dX3_sum_180 (by decide) rfl ?_
            refine wp_aload_n 2 dX3_sum_182 rfl rfl ?_
            refine wp_get 45 2 4 (by decide) (by decide) rfl rfl inG3 (by decide) wf_X3_14 rfl dX3_sum_183 ?_
            refine wp_iload 7 dX3_sum_186 rfl ?_
            refine wp_iload 0 dX3_sum_188 rfl ?_
            refine wp_zast (by decide) (by decide) dX3_sum_190 h.1 ?_
            replace h := h.2
            refine wp_aload_n 2 dX3_sum_191 rfl rfl ?_
            refine wp_get 45 2 4 (by decide) (by decide) rfl rfl inG3 (by decide) wf_X3_14 rfl dX3_sum_192 ?_
            refine wp_iload 1 dX3_sum_195 rfl ?_
            refine wp_iload 0 dX3_sum_197 rfl ?_
            refine wp_zast (by decide) (by decide) dX3_sum_199 h.1 ?_
            replace h := h.2
            refine wp_iinc 7 (nI 1) (lv' := [(6, .int (x6 + (nI 1))), (8, .int (nI 1)), (7, .int (x6 ||| (jshl (nI 1) x5))), (0, .ref (eA g 45)), (1, .int x1), (3, .int x3), (4, .int x4), (5, .int x5)]) dX3_sum_200 (by decide) rfl (by decide) rfl ?_
            refine wp_goto 90 dX3_sum_203 (by decide) ?_
            exact wp_sub [3, 4, 5, 6, 7, 0] rfl h
      · replace h := h.2 c
        refine wp_aload_n 1 dX3_sum_127 rfl rfl ?_
        refine wp_get 45 2 4 (by decide) (by decide) rfl rfl inG3 (by decide) wf_X3_14 rfl dX3_sum_128 ?_
        refine wp_iload 6 dX3_sum_131 rfl ?_
        refine wp_zald (by decide) (by decide) dX3_sum_133 h.1 ?_
        replace h := h.2
        refine wp_if_eq 151 dX3_sum_134 (by decide) (fun c => ?_) (fun c => ?_)
        · replace h := h.1 c
          refine wp_iconst (nI 0) dX3_sum_151 (by decide) ?_
          refine wp_goto 180 dX3_sum_152 (by decide) ?_
          refine wp_istore (lv' := [(8, .int (nI 0)), (7, .int (x6 ||| (jshl (nI 1) x5))), (0, .ref (eA g 45)), (1, .int x1), (3, .int x3), (4, .int x4), (5, .int x5), (6, .int x6)]) dX3_sum_180 (by decide) rfl ?_
          refine wp_aload_n 2 dX3_sum_182 rfl rfl ?_
          refine wp_get 45 2 4 (by decide) (by decide) rfl rfl inG3 (by decide) wf_X3_14 rfl dX3_sum_183 ?_
          refine wp_iload 7 dX3_sum_186 rfl ?_
          refine wp_iload 0 dX3_sum_188 rfl ?_
          refine wp_zast (by decide) (by decide) dX3_sum_190 h.1 ?_
          replace h := h.2
          refine wp_aload_n 2 dX3_sum_191 rfl rfl ?_
          refine wp_get 45 2 4 (by decide) (by decide) rfl rfl inG3 (by decide) wf_X3_14 rfl dX3_sum_192 ?_
          refine wp_iload 1 dX3_sum_195 rfl ?_
          refine wp_iload 0 dX3_sum_197 rfl ?_
          refine wp_zast (by decide) (by decide) dX3_sum_199 h.1 ?_
          replace h := h.2
          refine wp_iinc 7 (nI 1) (lv' := [(6, .int (x6 + (nI 1))), (8, .int (nI 0)), (7, .int (x6 ||| (jshl (nI 1) x5))), (0, .ref (eA g 45)), (1, .int x1), (3, .int x3), (4, .int x4), (5, .int x5)]) dX3_sum_200 (by decide) rfl (by decide) rfl ?_
          refine wp_goto 90 dX3_sum_203 (by decide) ?_
          exact wp_sub [3, 4, 5, 6, 7, 0] rfl h
        · replace h := h.2 c
          refine wp_aload_n 1 dX3_sum_137 rfl rfl ?_
          refine wp_get 45 2 4 (by decide) (by decide) rfl rfl inG3 (by decide) wf_X3_14 rfl dX3_sum_138 ?_
          refine wp_iload 0 dX3_sum_141 rfl ?_
          refine wp_zald (by decide) (by decide) dX3_sum_143 h.1 ?_
          replace h := h.2
          refine wp_if_eq 151 dX3_sum_144 (by decide) (fun c => ?_) (fun c => ?_)
          · replace h := h.1 c
            refine wp_iconst (nI 0) dX3_sum_151 (by decide) ?_
            refine wp_goto 180 dX3_sum_152 (by decide) ?_
            refine wp_istore (lv' := [(8, .int (nI 0)), (7, .int (x6 ||| (jshl (nI 1) x5))), (0, .ref (eA g 45)), (1, .int x1), (3, .int x3), (4, .int x4), (5, .int x5), (6, .int x6)]) dX3_sum_180 (by decide) rfl ?_
            refine wp_aload_n 2 dX3_sum_182 rfl rfl ?_
            refine wp_get 45 2 4 (by decide) (by decide) rfl rfl inG3 (by decide) wf_X3_14 rfl dX3_sum_183 ?_
            refine wp_iload 7 dX3_sum_186 rfl ?_
            refine wp_iload 0 dX3_sum_188 rfl ?_
            refine wp_zast (by decide) (by decide) dX3_sum_190 h.1 ?_
            replace h := h.2
            refine wp_aload_n 2 dX3_sum_191 rfl rfl ?_
            refine wp_get 45 2 4 (by decide) (by decide) rfl rfl inG3 (by decide) wf_X3_14 rfl dX3_sum_192 ?_
            refine wp_iload 1 dX3_sum_195 rfl ?_
            refine wp_iload 0 dX3_sum_197 rfl ?_
            refine wp_zast (by decide) (by decide) dX3_sum_199 h.1 ?_
            replace h := h.2
            refine wp_iinc 7 (nI 1) (lv' := [(6, .int (x6 + (nI 1))), (8, .int (nI 0)), (7, .int (x6 ||| (jshl (nI 1) x5))), (0, .ref (eA g 45)), (1, .int x1), (3, .int x3), (4, .int x4), (5, .int x5)]) dX3_sum_200 (by decide) rfl (by decide) rfl ?_
            refine wp_goto 90 dX3_sum_203 (by decide) ?_
            exact wp_sub [3, 4, 5, 6, 7, 0] rfl h
          · replace h := h.2 c
            refine wp_iconst (nI 1) dX3_sum_147 (by decide) ?_
            refine wp_goto 180 dX3_sum_148 (by decide) ?_
            refine wp_istore (lv' := [(8, .int (nI 1)), (7, .int (x6 ||| (jshl (nI 1) x5))), (0, .ref (eA g 45)), (1, .int x1), (3, .int x3), (4, .int x4), (5, .int x5), (6, .int x6)]) dX3_sum_180 (by decide) rfl ?_
            refine wp_aload_n 2 dX3_sum_182 rfl rfl ?_
            refine wp_get 45 2 4 (by decide) (by decide) rfl rfl inG3 (by decide) wf_X3_14 rfl dX3_sum_183 ?_
            refine wp_iload 7 dX3_sum_186 rfl ?_
            refine wp_iload 0 dX3_sum_188 rfl ?_
            refine wp_zast (by decide) (by decide) dX3_sum_190 h.1 ?_
            replace h := h.2
            refine wp_aload_n 2 dX3_sum_191 rfl rfl ?_
            refine wp_get 45 2 4 (by decide) (by decide) rfl rfl inG3 (by decide) wf_X3_14 rfl dX3_sum_192 ?_
            refine wp_iload 1 dX3_sum_195 rfl ?_
            refine wp_iload 0 dX3_sum_197 rfl ?_
            refine wp_zast (by decide) (by decide) dX3_sum_199 h.1 ?_
            replace h := h.2
            refine wp_iinc 7 (nI 1) (lv' := [(6, .int (x6 + (nI 1))), (8, .int (nI 1)), (7, .int (x6 ||| (jshl (nI 1) x5))), (0, .ref (eA g 45)), (1, .int x1), (3, .int x3), (4, .int x4), (5, .int x5)]) dX3_sum_200 (by decide) rfl (by decide) rfl ?_
            refine wp_goto 90 dX3_sum_203 (by decide) ?_
            exact wp_sub [3, 4, 5, 6, 7, 0] rfl h
    · replace h := h.2 c
      refine wp_goto 200 dX3_sum_110 (by decide) ?_
      refine wp_iinc 5 (nI 1) (lv' := [(6, .int (x6 + (nI 1))), (0, .ref (eA g 45)), (1, .int x1), (3, .int x3), (4, .int x4), (5, .int x5)]) dX3_sum_200 (by decide) rfl (by decide) rfl ?_
      refine wp_goto 90 dX3_sum_203 (by decide) ?_
      exact wp_sub [1, 2, 3, 4, 5, 0] rfl h
set_option maxRecDepth 100000 in
set_option maxHeartbeats 4000000 in
theorem E_X3_trade (g : Ev) (d : Nat) (x1 : Int32) (x2 : Int32) (x3 : Int32) (x4 : Int32) (σ : St) (K : Option Value → St → Prop) (h : Runs g 45 59 d M_X3_isRegister [.ref (eA g 45), .int x1] σ (fun r1 σ1 => ∃ v1 : Int32, r1 = some (.int v1) ∧ ((v1 = nI 0 → K (some (.int (-2))) σ1) ∧ (¬ v1 = nI 0 → Runs g 45 59 d M_X3_isRegister [.ref (eA g 45), .int x2] σ1 (fun r2 σ2 => ∃ v2 : Int32, r2 = some (.int v2) ∧ ((v2 = nI 0 → K (some (.int (-2))) σ2) ∧ (¬ v2 = nI 0 → Runs g 45 59 d M_X3_isLetter [.ref (eA g 45), .int x3] σ2 (fun r3 σ3 => ∃ v3 : Int32, r3 = some (.int v3) ∧ ((v3 = nI 0 → K (some (.int (-2))) σ3) ∧ (¬ v3 = nI 0 → Runs g 45 59 d M_X3_isLetter [.ref (eA g 45), .int x4] σ3 (fun r4 σ4 => ∃ v4 : Int32, r4 = some (.int v4) ∧ ((¬ v4 = nI 0 → WP g 45 59 (d + 1) M_X3_trade 39 [(0, .ref (eA g 45)), (1, .int x1), (2, .int x2), (3, .int x3), (4, .int x4), (5, .int (nI 0))] [] σ4 K) ∧ (v4 = nI 0 → K (some (.int (-2))) σ4))))))))))))) : Runs g 45 59 (d + 1) M_X3_trade [.ref (eA g 45), .int x1, .int x2, .int x3, .int x4] σ K := by
  refine Runs.of (by decide) (Nat.le_of_ble_eq_true rfl) ?_
  show WP g 45 59 (d + 1) M_X3_trade 0 [(0, .ref (eA g 45)), (1, .int x1), (2, .int x2), (3, .int x3), (4, .int x4)] [] σ K
  refine wp_aload_n 0 dX3_trade_0 rfl rfl ?_
  refine wp_iload_n 1 dX3_trade_1 rfl rfl ?_
  refine wp_callV [.int x1] [] 45 2 (by decide) (by decide) rfl rfl wc_X3_isRegister wm_X3_92 ws_X3_isRegister we_X3_isRegister wi_X3 ok_X3_isRegister (by decide) (Nat.le_of_ble_eq_true rfl) dX3_trade_2 rfl h ?_
  rintro r1 σ1 ⟨v1, rfl, h⟩
  show WP g 45 59 (d + 1) M_X3_trade 5 [(0, .ref (eA g 45)), (1, .int x1), (2, .int x2), (3, .int x3), (4, .int x4)] [.int v1] σ1 K
  refine wp_if_eq 33 dX3_trade_5 (by decide) (fun c => ?_) (fun c => ?_)
  · replace h := h.1 c
    refine wp_bipush (-2) dX3_trade_33 (by decide) ?_
    exact wp_iret rfl dX3_trade_35 h
  · replace h := h.2 c
    refine wp_aload_n 0 dX3_trade_8 rfl rfl ?_
    refine wp_iload_n 2 dX3_trade_9 rfl rfl ?_
    refine wp_callV [.int x2] [] 45 2 (by decide) (by decide) rfl rfl wc_X3_isRegister wm_X3_92 ws_X3_isRegister we_X3_isRegister wi_X3 ok_X3_isRegister (by decide) (Nat.le_of_ble_eq_true rfl) dX3_trade_10 rfl h ?_
    rintro r2 σ2 ⟨v2, rfl, h⟩
    show WP g 45 59 (d + 1) M_X3_trade 13 [(0, .ref (eA g 45)), (1, .int x1), (2, .int x2), (3, .int x3), (4, .int x4)] [.int v2] σ2 K
    refine wp_if_eq 33 dX3_trade_13 (by decide) (fun c => ?_) (fun c => ?_)
    · replace h := h.1 c
      refine wp_bipush (-2) dX3_trade_33 (by decide) ?_
      exact wp_iret rfl dX3_trade_35 h
    · replace h := h.2 c
      refine wp_aload_n 0 dX3_trade_16 rfl rfl ?_
      refine wp_iload_n 3 dX3_trade_17 rfl rfl ?_
      refine wp_callV [.int x3] [] 45 2 (by decide) (by decide) rfl rfl wc_X3_isLetter wm_X3_96 ws_X3_isLetter we_X3_isLetter wi_X3 ok_X3_isLetter (by decide) (Nat.le_of_ble_eq_true rfl) dX3_trade_18 rfl h ?_
      rintro r3 σ3 ⟨v3, rfl, h⟩
      show WP g 45 59 (d + 1) M_X3_trade 21 [(0, .ref (eA g 45)), (1, .int x1), (2, .int x2), (3, .int x3), (4, .int x4)] [.int v3] σ3 K
      refine wp_if_eq 33 dX3_trade_21 (by decide) (fun c => ?_) (fun c => ?_)
      · replace h := h.1 c
        refine wp_bipush (-2) dX3_trade_33 (by decide) ?_
        exact wp_iret rfl dX3_trade_35 h
      · replace h := h.2 c
        refine wp_aload_n 0 dX3_trade_24 rfl rfl ?_
        refine wp_iload 4 dX3_trade_25 rfl ?_
        refine wp_callV [.int x4] [] 45 2 (by decide) (by decide) rfl rfl wc_X3_isLetter wm_X3_96 ws_X3_isLetter we_X3_isLetter wi_X3 ok_X3_isLetter (by decide) (Nat.le_of_ble_eq_true rfl) dX3_trade_27 rfl h ?_
        rintro r4 σ4 ⟨v4, rfl, h⟩
        show WP g 45 59 (d + 1) M_X3_trade 30 [(0, .ref (eA g 45)), (1, .int x1), (2, .int x2), (3, .int x3), (4, .int x4)] [.int v4] σ4 K
        refine wp_if_ne 36 dX3_trade_30 (by decide) (fun c => ?_) (fun c => ?_)
        · replace h := h.1 c
          refine wp_iconst (nI 0) dX3_trade_36 (by decide) ?_
          refine wp_istore (lv' := [(5, .int (nI 0)), (0, .ref (eA g 45)), (1, .int x1), (2, .int x2), (3, .int x3), (4, .int x4)]) dX3_trade_37 (by decide) rfl ?_
          exact wp_sub [1, 2, 3, 4, 5, 0] rfl h
        · replace h := h.2 c
          refine wp_bipush (-2) dX3_trade_33 (by decide) ?_
          exact wp_iret rfl dX3_trade_35 h
set_option maxRecDepth 100000 in
set_option maxHeartbeats 4000000 in
theorem R_X3_trade_39 (g : Ev) (d : Nat) (x1 : Int32) (x2 : Int32) (x3 : Int32) (x4 : Int32) (x5 : Int32) (σ : St) (K : Option Value → St → Prop) (h : (((sV σ 9) ≤ x5 → Runs g 45 59 d M_X3_puts [.ref (eA g 45), .int x1] σ (fun r1 σ1 => ∃ v1 : Int32, r1 = some (.int v1) ∧ K (some (.int v1)) σ1)) ∧ (¬ (sV σ 9) ≤ x5 → ((¬ ((jshr x5 x4) &&& (nI 1)) = (nI 1) → Runs g 45 59 d M_X3_with [.int x5, .int x3, .int (nI 0)] σ (fun r2 σ2 => ∃ v2 : Int32, r2 = some (.int v2) ∧ ((¬ ((jshr x5 x3) &&& (nI 1)) = (nI 1) → Runs g 45 59 d M_X3_with [.int v2, .int x4, .int (nI 0)] σ2 (fun r3 σ3 => ∃ v3 : Int32, r3 = some (.int v3) ∧ Runs g 45 59 d M_X3_get [.ref (eA g 45), .int x2, .int v3] σ3 (fun r4 σ4 => ∃ v4 : Int32, r4 = some (.int v4) ∧ vp_in x5 (lenZ 47) ∧ WP g 45 59 (d + 1) M_X3_trade 39 [(0, .ref (eA g 45)), (1, .int x1), (2, .int x2), (3, .int x3), (4, .int x4), (5, .int (x5 + (nI 1)))] [] (uI σ4 47 x5.toNatClampNeg (vp_nar .boolean v4)) K))) ∧ (((jshr x5 x3) &&& (nI 1)) = (nI 1) → Runs g 45 59 d M_X3_with [.int v2, .int x4, .int (nI 1)] σ2 (fun r5 σ5 => ∃ v5 : Int32, r5 = some (.int v5) ∧ Runs g 45 59 d M_X3_get [.ref (eA g 45), .int x2, .int v5] σ5 (fun r6 σ6 => ∃ v6 : Int32, r6 = some (.int v6) ∧ vp_in x5 (lenZ 47) ∧ WP g 45 59 (d + 1) M_X3_trade 39 [(0, .ref (eA g 45)), (1, .int x1), (2, .int x2), (3, .int x3), (4, .int x4), (5, .int (x5 + (nI 1)))] [] (uI σ6 47 x5.toNatClampNeg (vp_nar .boolean v6)) K)))))) ∧ (((jshr x5 x4) &&& (nI 1)) = (nI 1) → Runs g 45 59 d M_X3_with [.int x5, .int x3, .int (nI 1)] σ (fun r7 σ7 => ∃ v7 : Int32, r7 = some (.int v7) ∧ ((¬ ((jshr x5 x3) &&& (nI 1)) = (nI 1) → Runs g 45 59 d M_X3_with [.int v7, .int x4, .int (nI 0)] σ7 (fun r8 σ8 => ∃ v8 : Int32, r8 = some (.int v8) ∧ Runs g 45 59 d M_X3_get [.ref (eA g 45), .int x2, .int v8] σ8 (fun r9 σ9 => ∃ v9 : Int32, r9 = some (.int v9) ∧ vp_in x5 (lenZ 47) ∧ WP g 45 59 (d + 1) M_X3_trade 39 [(0, .ref (eA g 45)), (1, .int x1), (2, .int x2), (3, .int x3), (4, .int x4), (5, .int (x5 + (nI 1)))] [] (uI σ9 47 x5.toNatClampNeg (vp_nar .boolean v9)) K))) ∧ (((jshr x5 x3) &&& (nI 1)) = (nI 1) → Runs g 45 59 d M_X3_with [.int v7, .int x4, .int (nI 1)] σ7 (fun r10 σ10 => ∃ v10 : Int32, r10 = some (.int v10) ∧ Runs g 45 59 d M_X3_get [.ref (eA g 45), .int x2, .int v10] σ10 (fun r11 σ11 => ∃ v11 : Int32, r11 = some (.int v11) ∧ vp_in x5 (lenZ 47) ∧ WP g 45 59 (d + 1) M_X3_trade 39 [(0, .ref (eA g 45)), (1, .int x1), (2, .int x2), (3, .int x3), (4, .int x4), (5, .int (x5 + (nI 1)))] [] (uI σ11 47 x5.toNatClampNeg (vp_nar .boolean v11)) K)))))))))) : WP g 45 59 (d + 1) M_X3_trade 39 [(0, .ref (eA g 45)), (1, .int x1), (2, .int x2), (3, .int x3), (4, .int x4), (5, .int x5)] [] σ K := by
  refine wp_iload 5 dX3_trade_39 rfl ?_
  refine wp_aload_n 0 dX3_trade_41 rfl rfl ?_
  refine wp_get 45 2 1 (by decide) (by decide) rfl rfl inG3 (by decide) wf_X3_59 rfl dX3_trade_42 ?_
  refine wp_icmp_ge 108 dX3_trade_45 (by decide) (fun c => ?_) (fun c => ?_)
  · replace h := h.1 c
    refine wp_aload_n 0 dX3_trade_108 rfl rfl ?_
    refine wp_iload_n 1 dX3_trade_109 rfl rfl ?_
    refine wp_callV [.int x1] [] 45 2 (by decide) (by decide) rfl rfl wc_X3_puts wm_X3_99 ws_X3_puts we_X3_puts wi_X3 ok_X3_puts (by decide) (Nat.le_of_ble_eq_true rfl) dX3_trade_110 rfl h ?_
    rintro r1 σ1 ⟨v1, rfl, h⟩
    show WP g 45 59 (d + 1) M_X3_trade 113 [(0, .ref (eA g 45)), (1, .int x1), (2, .int x2), (3, .int x3), (4, .int x4), (5, .int x5)] [.int v1] σ1 K
    exact wp_iret rfl dX3_trade_113 h
  · replace h := h.2 c
    refine wp_aload_n 0 dX3_trade_48 rfl rfl ?_
    refine wp_get 45 2 4 (by decide) (by decide) rfl rfl inG3 (by decide) wf_X3_14 rfl dX3_trade_49 ?_
    refine wp_iload 5 dX3_trade_52 rfl ?_
    refine wp_aload_n 0 dX3_trade_54 rfl rfl ?_
    refine wp_iload_n 2 dX3_trade_55 rfl rfl ?_
    refine wp_iload 5 dX3_trade_56 rfl ?_
    refine wp_iload_n 3 dX3_trade_58 rfl rfl ?_
    refine wp_iload 5 dX3_trade_59 rfl ?_
    refine wp_iload 4 dX3_trade_61 rfl ?_
    refine wp_ishr dX3_trade_63 ?_
    refine wp_iconst (nI 1) dX3_trade_64 (by decide) ?_
    refine wp_iand dX3_trade_65 ?_
    refine wp_iconst (nI 1) dX3_trade_66 (by decide) ?_
    refine wp_icmp_ne 74 dX3_trade_67 (by decide) (fun c => ?_) (fun c => ?_)
    · replace h := h.1 c
      refine wp_iconst (nI 0) dX3_trade_74 (by decide) ?_
      refine wp_callS [.int x5, .int x3, .int (nI 0)] [.int x2, .ref (eA g 45), .int x5, .ref (eA g 47)] wc_X3_with wm_X3_103 ws_X3_with wi_X3 ok_X3_with (by decide) (Nat.le_of_ble_eq_true rfl) dX3_trade_75 rfl h ?_
      rintro r2 σ2 ⟨v2, rfl, h⟩
      show WP g 45 59 (d + 1) M_X3_trade 78 [(0, .ref (eA g 45)), (1, .int x1), (2, .int x2), (3, .int x3), (4, .int x4), (5, .int x5)] [.int v2, .int x2, .ref (eA g 45), .int x5, .ref (eA g 47)] σ2 K
      refine wp_iload 4 dX3_trade_78 rfl ?_
      refine wp_iload 5 dX3_trade_80 rfl ?_
      refine wp_iload_n 3 dX3_trade_82 rfl rfl ?_
      refine wp_ishr dX3_trade_83 ?_
      refine wp_iconst (nI 1) dX3_trade_84 (by decide) ?_
      refine wp_iand dX3_trade_85 ?_
      refine wp_iconst (nI 1) dX3_trade_86 (by decide) ?_
      refine wp_icmp_ne 94 dX3_trade_87 (by decide) (fun c => ?_) (fun c => ?_)
      · replace h := h.1 c
        refine wp_iconst (nI 0) dX3_trade_94 (by decide) ?_
        refine wp_callS [.int v2, .int x4, .int (nI 0)] [.int x2, .ref (eA g 45), .int x5, .ref (eA g 47)] wc_X3_with wm_X3_103 ws_X3_with wi_X3 ok_X3_with (by decide) (Nat.le_of_ble_eq_true rfl) dX3_trade_95 rfl h ?_
        rintro r3 σ3 ⟨v3, rfl, h⟩
        show WP g 45 59 (d + 1) M_X3_trade 98 [(0, .ref (eA g 45)), (1, .int x1), (2, .int x2), (3, .int x3), (4, .int x4), (5, .int x5)] [.int v3, .int x2, .ref (eA g 45), .int x5, .ref (eA g 47)] σ3 K
        refine wp_callV [.int x2, .int v3] [.int x5, .ref (eA g 47)] 45 2 (by decide) (by decide) rfl rfl wc_X3_get wm_X3_81 ws_X3_get we_X3_get wi_X3 ok_X3_get (by decide) (Nat.le_of_ble_eq_true rfl) dX3_trade_98 rfl h ?_
        rintro r4 σ4 ⟨v4, rfl, h⟩
        show WP g 45 59 (d + 1) M_X3_trade 101 [(0, .ref (eA g 45)), (1, .int x1), (2, .int x2), (3, .int x3), (4, .int x4), (5, .int x5)] [.int v4, .int x5, .ref (eA g 47)] σ4 K
        refine wp_zast (by decide) (by decide) dX3_trade_101 h.1 ?_
        replace h := h.2
        refine wp_iinc 5 (nI 1) (lv' := [(5, .int (x5 + (nI 1))), (0, .ref (eA g 45)), (1, .int x1), (2, .int x2), (3, .int x3), (4, .int x4)]) dX3_trade_102 (by decide) rfl (by decide) rfl ?_
        refine wp_goto 39 dX3_trade_105 (by decide) ?_
        exact wp_sub [1, 2, 3, 4, 5, 0] rfl h
      · replace h := h.2 c
        refine wp_iconst (nI 1) dX3_trade_90 (by decide) ?_
        refine wp_goto 95 dX3_trade_91 (by decide) ?_
        refine wp_callS [.int v2, .int x4, .int (nI 1)] [.int x2, .ref (eA g 45), .int x5, .ref (eA g 47)] wc_X3_with wm_X3_103 ws_X3_with wi_X3 ok_X3_with (by decide) (Nat.le_of_ble_eq_true rfl) dX3_trade_95 rfl h ?_
        rintro r5 σ5 ⟨v5, rfl, h⟩
        show WP g 45 59 (d + 1) M_X3_trade 98 [(0, .ref (eA g 45)), (1, .int x1), (2, .int x2), (3, .int x3), (4, .int x4), (5, .int x5)] [.int v5, .int x2, .ref (eA g 45), .int x5, .ref (eA g 47)] σ5 K
        refine wp_callV [.int x2, .int v5] [.int x5, .ref (eA g 47)] 45 2 (by decide) (by decide) rfl rfl wc_X3_get wm_X3_81 ws_X3_get we_X3_get wi_X3 ok_X3_get (by decide) (Nat.le_of_ble_eq_true rfl) dX3_trade_98 rfl h ?_
        rintro r6 σ6 ⟨v6, rfl, h⟩
        show WP g 45 59 (d + 1) M_X3_trade 101 [(0, .ref (eA g 45)), (1, .int x1), (2, .int x2), (3, .int x3), (4, .int x4), (5, .int x5)] [.int v6, .int x5, .ref (eA g 47)] σ6 K
        refine wp_zast (by decide) (by decide) dX3_trade_101 h.1 ?_
        replace h := h.2
        refine wp_iinc 5 (nI 1) (lv' := [(5, .int (x5 + (nI 1))), (0, .ref (eA g 45)), (1, .int x1), (2, .int x2), (3, .int x3), (4, .int x4)]) dX3_trade_102 (by decide) rfl (by decide) rfl ?_
        refine wp_goto 39 dX3_trade_105 (by decide) ?_
        exact wp_sub [1, 2, 3, 4, 5, 0] rfl h
    · replace h := h.2 c
      refine wp_iconst (nI 1) dX3_trade_70 (by decide) ?_
      refine wp_goto 75 dX3_trade_71 (by decide) ?_
      refine wp_callS [.int x5, .int x3, .int (nI 1)] [.int x2, .ref (eA g 45), .int x5, .ref (eA g 47)] wc_X3_with wm_X3_103 ws_X3_with wi_X3 ok_X3_with (by decide) (Nat.le_of_ble_eq_true rfl) dX3_trade_75 rfl h ?_
      rintro r7 σ7 ⟨v7, rfl, h⟩
      show WP g 45 59 (d + 1) M_X3_trade 78 [(0, .ref (eA g 45)), (1, .int x1), (2, .int x2), (3, .int x3), (4, .int x4), (5, .int x5)] [.int v7, .int x2, .ref (eA g 45), .int x5, .ref (eA g 47)] σ7 K
      refine wp_iload 4 dX3_trade_78 rfl ?_
      refine wp_iload 5 dX3_trade_80 rfl ?_
      refine wp_iload_n 3 dX3_trade_82 rfl rfl ?_
      refine wp_ishr dX3_trade_83 ?_
      refine wp_iconst (nI 1) dX3_trade_84 (by decide) ?_
      refine wp_iand dX3_trade_85 ?_
      refine wp_iconst (nI 1) dX3_trade_86 (by decide) ?_
      refine wp_icmp_ne 94 dX3_trade_87 (by decide) (fun c => ?_) (fun c => ?_)
      · replace h := h.1 c
        refine wp_iconst (nI 0) dX3_trade_94 (by decide) ?_
        refine wp_callS [.int v7, .int x4, .int (nI 0)] [.int x2, .ref (eA g 45), .int x5, .ref (eA g 47)] wc_X3_with wm_X3_103 ws_X3_with wi_X3 ok_X3_with (by decide) (Nat.le_of_ble_eq_true rfl) dX3_trade_95 rfl h ?_
        rintro r8 σ8 ⟨v8, rfl, h⟩
        show WP g 45 59 (d + 1) M_X3_trade 98 [(0, .ref (eA g 45)), (1, .int x1), (2, .int x2), (3, .int x3), (4, .int x4), (5, .int x5)] [.int v8, .int x2, .ref (eA g 45), .int x5, .ref (eA g 47)] σ8 K
        refine wp_callV [.int x2, .int v8] [.int x5, .ref (eA g 47)] 45 2 (by decide) (by decide) rfl rfl wc_X3_get wm_X3_81 ws_X3_get we_X3_get wi_X3 ok_X3_get (by decide) (Nat.le_of_ble_eq_true rfl) dX3_trade_98 rfl h ?_
        rintro r9 σ9 ⟨v9, rfl, h⟩
        show WP g 45 59 (d + 1) M_X3_trade 101 [(0, .ref (eA g 45)), (1, .int x1), (2, .int x2), (3, .int x3), (4, .int x4), (5, .int x5)] [.int v9, .int x5, .ref (eA g 47)] σ9 K
        refine wp_zast (by decide) (by decide) dX3_trade_101 h.1 ?_
        replace h := h.2
        refine wp_iinc 5 (nI 1) (lv' := [(5, .int (x5 + (nI 1))), (0, .ref (eA g 45)), (1, .int x1), (2, .int x2), (3, .int x3), (4, .int x4)]) dX3_trade_102 (by decide) rfl (by decide) rfl ?_
        refine wp_goto 39 dX3_trade_105 (by decide) ?_
        exact wp_sub [1, 2, 3, 4, 5, 0] rfl h
      · replace h := h.2 c
        refine wp_iconst (nI 1) dX3_trade_90 (by decide) ?_
        refine wp_goto 95 dX3_trade_91 (by decide) ?_
        refine wp_callS [.int v7, .int x4, .int (nI 1)] [.int x2, .ref (eA g 45), .int x5, .ref (eA g 47)] wc_X3_with wm_X3_103 ws_X3_with wi_X3 ok_X3_with (by decide) (Nat.le_of_ble_eq_true rfl) dX3_trade_95 rfl h ?_
        rintro r10 σ10 ⟨v10, rfl, h⟩
        show WP g 45 59 (d + 1) M_X3_trade 98 [(0, .ref (eA g 45)), (1, .int x1), (2, .int x2), (3, .int x3), (4, .int x4), (5, .int x5)] [.int v10, .int x2, .ref (eA g 45), .int x5, .ref (eA g 47)] σ10 K
        refine wp_callV [.int x2, .int v10] [.int x5, .ref (eA g 47)] 45 2 (by decide) (by decide) rfl rfl wc_X3_get wm_X3_81 ws_X3_get we_X3_get wi_X3 ok_X3_get (by decide) (Nat.le_of_ble_eq_true rfl) dX3_trade_98 rfl h ?_
        rintro r11 σ11 ⟨v11, rfl, h⟩
        show WP g 45 59 (d + 1) M_X3_trade 101 [(0, .ref (eA g 45)), (1, .int x1), (2, .int x2), (3, .int x3), (4, .int x4), (5, .int x5)] [.int v11, .int x5, .ref (eA g 47)] σ11 K
        refine wp_zast (by decide) (by decide) dX3_trade_101 h.1 ?_
        replace h := h.2
        refine wp_iinc 5 (nI 1) (lv' := [(5, .int (x5 + (nI 1))), (0, .ref (eA g 45)), (1, .int x1), (2, .int x2), (3, .int x3), (4, .int x4)]) dX3_trade_102 (by decide) rfl (by decide) rfl ?_
        refine wp_goto 39 dX3_trade_105 (by decide) ?_
        exact wp_sub [1, 2, 3, 4, 5, 0] rfl h
set_option maxRecDepth 100000 in
set_option maxHeartbeats 4000000 in
theorem E_X3_manyOf (g : Ev) (d : Nat) (x1 : Int32) (σ : St) (K : Option Value → St → Prop) (h : WP g 45 59 (d + 1) M_X3_manyOf 4 [(0, .ref (eA g 45)), (1, .int x1), (2, .int (nI 0)), (3, .int (nI 0))] [] σ K) : Runs g 45 59 (d + 1) M_X3_manyOf [.ref (eA g 45), .int x1] σ K := by
  refine Runs.of (by decide) (Nat.le_of_ble_eq_true rfl) ?_
  show WP g 45 59 (d + 1) M_X3_manyOf 0 [(0, .ref (eA g 45)), (1, .int x1)] [] σ K
  refine wp_iconst (nI 0) dX3_manyOf_0 (by decide) ?_
  refine wp_istore_n (lv' := [(2, .int (nI 0)), (0, .ref (eA g 45)), (1, .int x1)]) dX3_manyOf_1 rfl (by decide) rfl ?_
  refine wp_iconst (nI 0) dX3_manyOf_2 (by decide) ?_
  refine wp_istore_n (lv' := [(3, .int (nI 0)), (2, .int (nI 0)), (0, .ref (eA g 45)), (1, .int x1)]) dX3_manyOf_3 rfl (by decide) rfl ?_
  exact wp_sub [2, 3, 1, 0] rfl h
set_option maxRecDepth 100000 in
set_option maxHeartbeats 4000000 in
theorem R_X3_manyOf_4 (g : Ev) (d : Nat) (x1 : Int32) (x2 : Int32) (x3 : Int32) (σ : St) (K : Option Value → St → Prop) (h : (((sV σ 9) ≤ x3 → K (some (.int x2)) σ) ∧ (¬ (sV σ 9) ≤ x3 → Runs g 45 59 d M_X3_get [.ref (eA g 45), .int x1, .int x3] σ (fun r1 σ1 => ∃ v1 : Int32, r1 = some (.int v1) ∧ ((v1 = nI 0 → WP g 45 59 (d + 1) M_X3_manyOf 4 [(0, .ref (eA g 45)), (1, .int x1), (2, .int (x2 + (nI 0))), (3, .int (x3 + (nI 1)))] [] σ1 K) ∧ (¬ v1 = nI 0 → WP g 45 59 (d + 1) M_X3_manyOf 4 [(0, .ref (eA g 45)), (1, .int x1), (2, .int (x2 + (nI 1))), (3, .int (x3 + (nI 1)))] [] σ1 K)))))) : WP g 45 59 (d + 1) M_X3_manyOf 4 [(0, .ref (eA g 45)), (1, .int x1), (2, .int x2), (3, .int x3)] [] σ K := by
  refine wp_iload_n 3 dX3_manyOf_4 rfl rfl ?_
  refine wp_aload_n 0 dX3_manyOf_5 rfl rfl ?_
  refine wp_get 45 2 1 (by decide) (by decide) rfl rfl inG3 (by decide) wf_X3_59 rfl dX3_manyOf_6 ?_
  refine wp_icmp_ge 35 dX3_manyOf_9 (by decide) (fun c => ?_) (fun c => ?_)
  · replace h := h.1 c
    refine wp_iload_n 2 dX3_manyOf_35 rfl rfl ?_
    exact wp_iret rfl dX3_manyOf_36 h
  · replace h := h.2 c
    refine wp_iload_n 2 dX3_manyOf_12 rfl rfl ?_
    refine wp_aload_n 0 dX3_manyOf_13 rfl rfl ?_
    refine wp_iload_n 1 dX3_manyOf_14 rfl rfl ?_
    refine wp_iload_n 3 dX3_manyOf_15 rfl rfl ?_
    refine wp_callV [.int x1, .int x3] [.int x2] 45 2 (by decide) (by decide) rfl rfl wc_X3_get wm_X3_81 ws_X3_get we_X3_get wi_X3 ok_X3_get (by decide) (Nat.le_of_ble_eq_true rfl) dX3_manyOf_16 rfl h ?_
    rintro r1 σ1 ⟨v1, rfl, h⟩
    show WP g 45 59 (d + 1) M_X3_manyOf 19 [(0, .ref (eA g 45)), (1, .int x1), (2, .int x2), (3, .int x3)] [.int v1, .int x2] σ1 K
    refine wp_if_eq 26 dX3_manyOf_19 (by decide) (fun c => ?_) (fun c => ?_)
    · replace h := h.1 c
      refine wp_iconst (nI 0) dX3_manyOf_26 (by decide) ?_
      refine wp_iadd dX3_manyOf_27 ?_
      refine wp_istore_n (lv' := [(2, .int (x2 + (nI 0))), (0, .ref (eA g 45)), (1, .int x1), (3, .int x3)]) dX3_manyOf_28 rfl (by decide) rfl ?_
      refine wp_iinc 3 (nI 1) (lv' := [(3, .int (x3 + (nI 1))), (2, .int (x2 + (nI 0))), (0, .ref (eA g 45)), (1, .int x1)]) dX3_manyOf_29 (by decide) rfl (by decide) rfl ?_
      refine wp_goto 4 dX3_manyOf_32 (by decide) ?_
      exact wp_sub [2, 3, 1, 0] rfl h
    · replace h := h.2 c
      refine wp_iconst (nI 1) dX3_manyOf_22 (by decide) ?_
      refine wp_goto 27 dX3_manyOf_23 (by decide) ?_
      refine wp_iadd dX3_manyOf_27 ?_
      refine wp_istore_n (lv' := [(2, .int (x2 + (nI 1))), (0, .ref (eA g 45)), (1, .int x1), (3, .int x3)]) dX3_manyOf_28 rfl (by decide) rfl ?_
      refine wp_iinc 3 (nI 1) (lv' := [(3, .int (x3 + (nI 1))), (2, .int (x2 + (nI 1))), (0, .ref (eA g 45)), (1, .int x1)]) dX3_manyOf_29 (by decide) rfl (by decide) rfl ?_
      refine wp_goto 4 dX3_manyOf_32 (by decide) ?_
      exact wp_sub [2, 3, 1, 0] rfl h
set_option maxRecDepth 100000 in
set_option maxHeartbeats 4000000 in
theorem E_X3_isSome (g : Ev) (d : Nat) (x1 : Int32) (x2 : Int32) (x3 : Int32) (σ : St) (K : Option Value → St → Prop) (h : WP g 45 59 (d + 1) M_X3_isSome 15 [(0, .ref (eA g 45)), (1, .int x1), (3, .int x3), (4, .int (((sV σ 9) - (nI 1)) &&& (x2 ^^^ (-1)))), (5, .int (nI 0))] [] σ K) : Runs g 45 59 (d + 1) M_X3_isSome [.ref (eA g 45), .int x1, .int x2, .int x3] σ K := by
  refine Runs.of (by decide) (Nat.le_of_ble_eq_true rfl) ?_
  show WP g 45 59 (d + 1) M_X3_isSome 0 [(0, .ref (eA g 45)), (1, .int x1), (2, .int x2), (3, .int x3)] [] σ K
  refine wp_aload_n 0 dX3_isSome_0 rfl rfl ?_
  refine wp_get 45 2 1 (by decide) (by decide) rfl rfl inG3 (by decide) wf_X3_59 rfl dX3_isSome_1 ?_
  refine wp_iconst (nI 1) dX3_isSome_4 (by decide) ?_
  refine wp_isub dX3_isSome_5 ?_
  refine wp_iload_n 2 dX3_isSome_6 rfl rfl ?_
  refine wp_iconst (-1) dX3_isSome_7 (by decide) ?_
  refine wp_ixor dX3_isSome_8 ?_
  refine wp_iand dX3_isSome_9 ?_
  refine wp_istore (lv' := [(4, .int (((sV σ 9) - (nI 1)) &&& (x2 ^^^ (-1)))), (0, .ref (eA g 45)), (1, .int x1), (2, .int x2), (3, .int x3)]) dX3_isSome_10 (by decide) rfl ?_
  refine wp_iconst (nI 0) dX3_isSome_12 (by decide) ?_
  refine wp_istore (lv' := [(5, .int (nI 0)), (4, .int (((sV σ 9) - (nI 1)) &&& (x2 ^^^ (-1)))), (0, .ref (eA g 45)), (1, .int x1), (2, .int x2), (3, .int x3)]) dX3_isSome_13 (by decide) rfl ?_
  exact wp_sub [2, 3, 5, 1, 0] rfl h
set_option maxRecDepth 100000 in
set_option maxHeartbeats 4000000 in
theorem R_X3_isSome_15 (g : Ev) (d : Nat) (x1 : Int32) (x3 : Int32) (x4 : Int32) (x5 : Int32) (σ : St) (K : Option Value → St → Prop) (h : Runs g 45 59 d M_X3_get [.ref (eA g 45), .int x1, .int (x3 ||| x5)] σ (fun r1 σ1 => ∃ v1 : Int32, r1 = some (.int v1) ∧ ((v1 = nI 0 → ((¬ x5 = x4 → WP g 45 59 (d + 1) M_X3_isSome 15 [(0, .ref (eA g 45)), (1, .int x1), (3, .int x3), (4, .int x4), (5, .int ((x5 - x4) &&& x4))] [] σ1 K) ∧ (x5 = x4 → K (some (.int (nI 0))) σ1))) ∧ (¬ v1 = nI 0 → K (some (.int (nI 1))) σ1)))) : WP g 45 59 (d + 1) M_X3_isSome 15 [(0, .ref (eA g 45)), (1, .int x1), (3, .int x3), (4, .int x4), (5, .int x5)] [] σ K := by
  refine wp_aload_n 0 dX3_isSome_15 rfl rfl ?_
  refine wp_iload_n 1 dX3_isSome_16 rfl rfl ?_
  refine wp_iload_n 2 dX3_isSome_17 rfl rfl ?_
  refine wp_iload 4 dX3_isSome_18 rfl ?_
  refine wp_ior dX3_isSome_20 ?_
  refine wp_callV [.int x1, .int (x3 ||| x5)] [] 45 2 (by decide) (by decide) rfl rfl wc_X3_get wm_X3_81 ws_X3_get we_X3_get wi_X3 ok_X3_get (by decide) (Nat.le_of_ble_eq_true rfl) dX3_isSome_21 rfl h ?_
  rintro r1 σ1 ⟨v1, rfl, h⟩
  show WP g 45 59 (d + 1) M_X3_isSome 24 [(0, .ref (eA g 45)), (1, .int x1), (3, .int x3), (4, .int x4), (5, .int x5)] [.int v1] σ1 K
  refine wp_if_eq 29 dX3_isSome_24 (by decide) (fun c => ?_) (fun c => ?_)
  · replace h := h.1 c
    refine wp_iload 4 dX3_isSome_29 rfl ?_
    refine wp_iload 3 dX3_isSome_31 rfl ?_
    refine wp_icmp_ne 38 dX3_isSome_33 (by decide) (fun c => ?_) (fun c => ?_)
    · replace h := h.1 c
      refine wp_iload 4 dX3_isSome_38 rfl ?_
      refine wp_iload 3 dX3_isSome_40 rfl ?_
      refine wp_isub dX3_isSome_42 ?_
      refine wp_iload 3 dX3_isSome_43 rfl ?_
      refine wp_iand dX3_isSome_45 ?_
      refine wp_istore (lv' := [(5, .int ((x5 - x4) &&& x4)), (0, .ref (eA g 45)), (1, .int x1), (3, .int x3), (4, .int x4)]) dX3_isSome_46 (by decide) rfl ?_
      refine wp_goto 15 dX3_isSome_48 (by decide) ?_
      exact wp_sub [1, 2, 3, 4, 0] rfl h
    · replace h := h.2 c
      refine wp_iconst (nI 0) dX3_isSome_36 (by decide) ?_
      exact wp_zret rfl rfl dX3_isSome_37 h
  · replace h := h.2 c
    refine wp_iconst (nI 1) dX3_isSome_27 (by decide) ?_
    exact wp_zret rfl rfl dX3_isSome_28 h
set_option maxRecDepth 100000 in
set_option maxHeartbeats 4000000 in
theorem E_X3_nearest (g : Ev) (d : Nat) (x1 : Int32) (x2 : Int32) (σ : St) (K : Option Value → St → Prop) (h : WP g 45 59 (d + 1) M_X3_nearest 8 [(0, .ref (eA g 45)), (1, .int x1), (2, .int x2), (3, .int (nI 0)), (4, .int (nI 0)), (5, .int (nI 0))] [] σ K) : Runs g 45 59 (d + 1) M_X3_nearest [.ref (eA g 45), .int x1, .int x2] σ K := by
  refine Runs.of (by decide) (Nat.le_of_ble_eq_true rfl) ?_
  show WP g 45 59 (d + 1) M_X3_nearest 0 [(0, .ref (eA g 45)), (1, .int x1), (2, .int x2)] [] σ K
  refine wp_iconst (nI 0) dX3_nearest_0 (by decide) ?_
  refine wp_istore_n (lv' := [(3, .int (nI 0)), (0, .ref (eA g 45)), (1, .int x1), (2, .int x2)]) dX3_nearest_1 rfl (by decide) rfl ?_
  refine wp_iconst (nI 0) dX3_nearest_2 (by decide) ?_
  refine wp_istore (lv' := [(4, .int (nI 0)), (3, .int (nI 0)), (0, .ref (eA g 45)), (1, .int x1), (2, .int x2)]) dX3_nearest_3 (by decide) rfl ?_
  refine wp_iconst (nI 0) dX3_nearest_5 (by decide) ?_
  refine wp_istore (lv' := [(5, .int (nI 0)), (4, .int (nI 0)), (3, .int (nI 0)), (0, .ref (eA g 45)), (1, .int x1), (2, .int x2)]) dX3_nearest_6 (by decide) rfl ?_
  exact wp_sub [3, 4, 5, 2, 1, 0] rfl h
set_option maxRecDepth 100000 in
set_option maxHeartbeats 4000000 in
theorem R_X3_nearest_8 (g : Ev) (d : Nat) (x1 : Int32) (x2 : Int32) (x3 : Int32) (x4 : Int32) (x5 : Int32) (σ : St) (K : Option Value → St → Prop) (h : (((sV σ 8) ≤ x5 → K (some (.int x4)) σ) ∧ (¬ (sV σ 8) ≤ x5 → vp_in x5 (lenI 50) ∧ Runs g 45 59 d M_X3_isSome [.ref (eA g 45), .int x1, .int (x3 ||| (jshl (nI 1) (sI σ 50 x5.toNatClampNeg))), .int (x4 ||| (x2 &&& (jshl (nI 1) (sI σ 50 x5.toNatClampNeg))))] σ (fun r1 σ1 => ∃ v1 : Int32, r1 = some (.int v1) ∧ ((v1 = nI 0 → WP g 45 59 (d + 1) M_X3_nearest 8 [(0, .ref (eA g 45)), (1, .int x1), (2, .int x2), (3, .int (x3 ||| (jshl (nI 1) (sI σ 50 x5.toNatClampNeg)))), (4, .int (x4 ||| ((x2 ^^^ (-1)) &&& (jshl (nI 1) (sI σ 50 x5.toNatClampNeg))))), (5, .int (x5 + (nI 1)))] [] σ1 K) ∧ (¬ v1 = nI 0 → WP g 45 59 (d + 1) M_X3_nearest 8 [(0, .ref (eA g 45)), (1, .int x1), (2, .int x2), (3, .int (x3 ||| (jshl (nI 1) (sI σ 50 x5.toNatClampNeg)))), (4, .int (x4 ||| (x2 &&& (jshl (nI 1) (sI σ 50 x5.toNatClampNeg))))), (5, .int (x5 + (nI 1)))] [] σ1 K)))))) : WP g 45 59 (d + 1) M_X3_nearest 8 [(0, .ref (eA g 45)), (1, .int x1), (2, .int x2), (3, .int x3), (4, .int x4), (5, .int x5)] [] σ K := by
  refine wp_iload 5 dX3_nearest_8 rfl ?_
  refine wp_aload_n 0 dX3_nearest_10 rfl rfl ?_
  refine wp_get 45 2 0 (by decide) (by decide) rfl rfl inG3 (by decide) wf_X3_55 rfl dX3_nearest_11 ?_
  refine wp_icmp_ge 80 dX3_nearest_14 (by decide) (fun c => ?_) (fun c => ?_)
  · replace h := h.1 c
    refine wp_iload 4 dX3_nearest_80 rfl ?_
    exact wp_iret rfl dX3_nearest_82 h
  · replace h := h.2 c
    refine wp_iconst (nI 1) dX3_nearest_17 (by decide) ?_
    refine wp_aload_n 0 dX3_nearest_18 rfl rfl ?_
    refine wp_get 45 2 7 (by decide) (by decide) rfl rfl inG3 (by decide) wf_X3_24 rfl dX3_nearest_19 ?_
    refine wp_iload 5 dX3_nearest_22 rfl ?_
    refine wp_iald (by decide) (by decide) dX3_nearest_24 h.1 ?_
    replace h := h.2
    refine wp_ishl dX3_nearest_25 ?_
    refine wp_istore (lv' := [(6, .int (jshl (nI 1) (sI σ 50 x5.toNatClampNeg))), (0, .ref (eA g 45)), (1, .int x1), (2, .int x2), (3, .int x3), (4, .int x4), (5, .int x5)]) dX3_nearest_26 (by decide) rfl ?_
    refine wp_aload_n 1 dX3_nearest_28 rfl rfl ?_
    refine wp_iload_n 2 dX3_nearest_29 rfl rfl ?_
    refine wp_iload_n 4 dX3_nearest_30 rfl rfl ?_
    refine wp_iload 0 dX3_nearest_31 rfl ?_
    refine wp_ior dX3_nearest_33 ?_
    refine wp_iload 5 dX3_nearest_34 rfl ?_
    refine wp_iload_n 3 dX3_nearest_36 rfl rfl ?_
    refine wp_iload 0 dX3_nearest_37 rfl ?_
    refine wp_iand dX3_nearest_39 ?_
    refine wp_ior dX3_nearest_40 ?_
    refine wp_callV [.int x1, .int (x3 ||| (jshl (nI 1) (sI σ 50 x5.toNatClampNeg))), .int (x4 ||| (x2 &&& (jshl (nI 1) (sI σ 50 x5.toNatClampNeg))))] [] 45 2 (by decide) (by decide) rfl rfl wc_X3_isSome wm_X3_107 ws_X3_isSome we_X3_isSome wi_X3 ok_X3_isSome (by decide) (Nat.le_of_ble_eq_true rfl) dX3_nearest_41 rfl h ?_
    rintro r1 σ1 ⟨v1, rfl, h⟩
    show WP g 45 59 (d + 1) M_X3_nearest 44 [(6, .int (jshl (nI 1) (sI σ 50 x5.toNatClampNeg))), (0, .ref (eA g 45)), (1, .int x1), (2, .int x2), (3, .int x3), (4, .int x4), (5, .int x5)] [.int v1] σ1 K
    refine wp_istore (lv' := [(7, .int v1), (6, .int (jshl (nI 1) (sI σ 50 x5.toNatClampNeg))), (0, .ref (eA g 45)), (1, .int x1), (2, .int x2), (3, .int x3), (4, .int x4), (5, .int x5)]) dX3_nearest_44 (by decide) rfl ?_
    refine wp_iload 6 dX3_nearest_46 rfl ?_
    refine wp_iload 0 dX3_nearest_48 rfl ?_
    refine wp_if_eq 60 dX3_nearest_50 (by decide) (fun c => ?_) (fun c => ?_)
    · replace h := h.1 c
      refine wp_iload_n 4 dX3_nearest_60 rfl rfl ?_
      refine wp_iconst (-1) dX3_nearest_61 (by decide) ?_
      refine wp_ixor dX3_nearest_62 ?_
      refine wp_iload 1 dX3_nearest_63 rfl ?_
      refine wp_iand dX3_nearest_65 ?_
      refine wp_ior dX3_nearest_66 ?_
      refine wp_istore (lv' := [(4, .int (x4 ||| ((x2 ^^^ (-1)) &&& (jshl (nI 1) (sI σ 50 x5.toNatClampNeg))))), (7, .int v1), (6, .int (jshl (nI 1) (sI σ 50 x5.toNatClampNeg))), (0, .ref (eA g 45)), (1, .int x1), (2, .int x2), (3, .int x3), (5, .int x5)]) dX3_nearest_67 (by decide) rfl ?_
      refine wp_iload_n 6 dX3_nearest_69 rfl rfl ?_
      refine wp_iload 2 dX3_nearest_70 rfl ?_
      refine wp_ior dX3_nearest_72 ?_
      refine wp_istore_n (lv' := [(3, .int (x3 ||| (jshl (nI 1) (sI σ 50 x5.toNatClampNeg)))), (4, .int (x4 ||| ((x2 ^^^ (-1)) &&& (jshl (nI 1) (sI σ 50 x5.toNatClampNeg))))), (7, .int v1), (6, .int (jshl (nI 1) (sI σ 50 x5.toNatClampNeg))), (0, .ref (eA g 45)), (1, .int x1), (2, .int x2), (5, .int x5)]) dX3_nearest_73 rfl (by decide) rfl ?_
      refine wp_iinc 7 (nI 1) (lv' := [(5, .int (x5 + (nI 1))), (3, .int (x3 ||| (jshl (nI 1) (sI σ 50 x5.toNatClampNeg)))), (4, .int (x4 ||| ((x2 ^^^ (-1)) &&& (jshl (nI 1) (sI σ 50 x5.toNatClampNeg))))), (7, .int v1), (6, .int (jshl (nI 1) (sI σ 50 x5.toNatClampNeg))), (0, .ref (eA g 45)), (1, .int x1), (2, .int x2)]) dX3_nearest_74 (by decide) rfl (by decide) rfl ?_
      refine wp_goto 8 dX3_nearest_77 (by decide) ?_
      exact wp_sub [5, 6, 7, 1, 2, 0] rfl h
    · replace h := h.2 c
      refine wp_iload_n 4 dX3_nearest_53 rfl rfl ?_
      refine wp_iload 1 dX3_nearest_54 rfl ?_
      refine wp_iand dX3_nearest_56 ?_
      refine wp_goto 66 dX3_nearest_57 (by decide) ?_
      refine wp_ior dX3_nearest_66 ?_
      refine wp_istore (lv' := [(4, .int (x4 ||| (x2 &&& (jshl (nI 1) (sI σ 50 x5.toNatClampNeg))))), (7, .int v1), (6, .int (jshl (nI 1) (sI σ 50 x5.toNatClampNeg))), (0, .ref (eA g 45)), (1, .int x1), (2, .int x2), (3, .int x3), (5, .int x5)]) dX3_nearest_67 (by decide) rfl ?_
      refine wp_iload_n 6 dX3_nearest_69 rfl rfl ?_
      refine wp_iload 2 dX3_nearest_70 rfl ?_
      refine wp_ior dX3_nearest_72 ?_
      refine wp_istore_n (lv' := [(3, .int (x3 ||| (jshl (nI 1) (sI σ 50 x5.toNatClampNeg)))), (4, .int (x4 ||| (x2 &&& (jshl (nI 1) (sI σ 50 x5.toNatClampNeg))))), (7, .int v1), (6, .int (jshl (nI 1) (sI σ 50 x5.toNatClampNeg))), (0, .ref (eA g 45)), (1, .int x1), (2, .int x2), (5, .int x5)]) dX3_nearest_73 rfl (by decide) rfl ?_
      refine wp_iinc 7 (nI 1) (lv' := [(5, .int (x5 + (nI 1))), (3, .int (x3 ||| (jshl (nI 1) (sI σ 50 x5.toNatClampNeg)))), (4, .int (x4 ||| (x2 &&& (jshl (nI 1) (sI σ 50 x5.toNatClampNeg))))), (7, .int v1), (6, .int (jshl (nI 1) (sI σ 50 x5.toNatClampNeg))), (0, .ref (eA g 45)), (1, .int x1), (2, .int x2)]) dX3_nearest_74 (by decide) rfl (by decide) rfl ?_
      refine wp_goto 8 dX3_nearest_77 (by decide) ?_
      exact wp_sub [5, 6, 7, 1, 2, 0] rfl h
set_option maxRecDepth 100000 in
set_option maxHeartbeats 4000000 in
theorem E_X3_near (g : Ev) (d : Nat) (x1 : Int32) (x2 : Int32) (x3 : Int32) (σ : St) (K : Option Value → St → Prop) (h : Runs g 45 59 d M_X3_isRegister [.ref (eA g 45), .int x1] σ (fun r1 σ1 => ∃ v1 : Int32, r1 = some (.int v1) ∧ ((v1 = nI 0 → K (some (.int (-2))) σ1) ∧ (¬ v1 = nI 0 → Runs g 45 59 d M_X3_isRegister [.ref (eA g 45), .int x2] σ1 (fun r2 σ2 => ∃ v2 : Int32, r2 = some (.int v2) ∧ ((v2 = nI 0 → K (some (.int (-2))) σ2) ∧ (¬ v2 = nI 0 → Runs g 45 59 d M_X3_isRegister [.ref (eA g 45), .int x3] σ2 (fun r3 σ3 => ∃ v3 : Int32, r3 = some (.int v3) ∧ ((¬ v3 = nI 0 → Runs g 45 59 d M_X3_manyOf [.ref (eA g 45), .int x3] σ3 (fun r4 σ4 => ∃ v4 : Int32, r4 = some (.int v4) ∧ ((¬ v4 = nI 0 → WP g 45 59 (d + 1) M_X3_near 41 [(0, .ref (eA g 45)), (1, .int x1), (2, .int x2), (3, .int x3), (4, .int (nI 0))] [] σ4 K) ∧ (v4 = nI 0 → K (some (.int (-3))) σ4)))) ∧ (v3 = nI 0 → K (some (.int (-2))) σ3)))))))))) : Runs g 45 59 (d + 1) M_X3_near [.ref (eA g 45), .int x1, .int x2, .int x3] σ K := by
  refine Runs.of (by decide) (Nat.le_of_ble_eq_true rfl) ?_
  show WP g 45 59 (d + 1) M_X3_near 0 [(0, .ref (eA g 45)), (1, .int x1), (2, .int x2), (3, .int x3)] [] σ K
  refine wp_aload_n 0 dX3_near_0 rfl rfl ?_
  refine wp_iload_n 1 dX3_near_1 rfl rfl ?_
  refine wp_callV [.int x1] [] 45 2 (by decide) (by decide) rfl rfl wc_X3_isRegister wm_X3_92 ws_X3_isRegister we_X3_isRegister wi_X3 ok_X3_isRegister (by decide) (Nat.le_of_ble_eq_true rfl) dX3_near_2 rfl h ?_
  rintro r1 σ1 ⟨v1, rfl, h⟩
  show WP g 45 59 (d + 1) M_X3_near 5 [(0, .ref (eA g 45)), (1, .int x1), (2, .int x2), (3, .int x3)] [.int v1] σ1 K
  refine wp_if_eq 24 dX3_near_5 (by decide) (fun c => ?_) (fun c => ?_)
  · replace h := h.1 c
    refine wp_bipush (-2) dX3_near_24 (by decide) ?_
    exact wp_iret rfl dX3_near_26 h
  · replace h := h.2 c
    refine wp_aload_n 0 dX3_near_8 rfl rfl ?_
    refine wp_iload_n 2 dX3_near_9 rfl rfl ?_
    refine wp_callV [.int x2] [] 45 2 (by decide) (by decide) rfl rfl wc_X3_isRegister wm_X3_92 ws_X3_isRegister we_X3_isRegister wi_X3 ok_X3_isRegister (by decide) (Nat.le_of_ble_eq_true rfl) dX3_near_10 rfl h ?_
    rintro r2 σ2 ⟨v2, rfl, h⟩
    show WP g 45 59 (d + 1) M_X3_near 13 [(0, .ref (eA g 45)), (1, .int x1), (2, .int x2), (3, .int x3)] [.int v2] σ2 K
    refine wp_if_eq 24 dX3_near_13 (by decide) (fun c => ?_) (fun c => ?_)
    · replace h := h.1 c
      refine wp_bipush (-2) dX3_near_24 (by decide) ?_
      exact wp_iret rfl dX3_near_26 h
    · replace h := h.2 c
      refine wp_aload_n 0 dX3_near_16 rfl rfl ?_
      refine wp_iload_n 3 dX3_near_17 rfl rfl ?_
      refine wp_callV [.int x3] [] 45 2 (by decide) (by decide) rfl rfl wc_X3_isRegister wm_X3_92 ws_X3_isRegister we_X3_isRegister wi_X3 ok_X3_isRegister (by decide) (Nat.le_of_ble_eq_true rfl) dX3_near_18 rfl h ?_
      rintro r3 σ3 ⟨v3, rfl, h⟩
      show WP g 45 59 (d + 1) M_X3_near 21 [(0, .ref (eA g 45)), (1, .int x1), (2, .int x2), (3, .int x3)] [.int v3] σ3 K
      refine wp_if_ne 27 dX3_near_21 (by decide) (fun c => ?_) (fun c => ?_)
      · replace h := h.1 c
        refine wp_aload_n 0 dX3_near_27 rfl rfl ?_
        refine wp_iload_n 3 dX3_near_28 rfl rfl ?_
        refine wp_callV [.int x3] [] 45 2 (by decide) (by decide) rfl rfl wc_X3_manyOf wm_X3_111 ws_X3_manyOf we_X3_manyOf wi_X3 ok_X3_manyOf (by decide) (Nat.le_of_ble_eq_true rfl) dX3_near_29 rfl h ?_
        rintro r4 σ4 ⟨v4, rfl, h⟩
        show WP g 45 59 (d + 1) M_X3_near 32 [(0, .ref (eA g 45)), (1, .int x1), (2, .int x2), (3, .int x3)] [.int v4] σ4 K
        refine wp_if_ne 38 dX3_near_32 (by decide) (fun c => ?_) (fun c => ?_)
        · replace h := h.1 c
          refine wp_iconst (nI 0) dX3_near_38 (by decide) ?_
          refine wp_istore (lv' := [(4, .int (nI 0)), (0, .ref (eA g 45)), (1, .int x1), (2, .int x2), (3, .int x3)]) dX3_near_39 (by decide) rfl ?_
          exact wp_sub [1, 2, 3, 4, 0] rfl h
        · replace h := h.2 c
          refine wp_bipush (-3) dX3_near_35 (by decide) ?_
          exact wp_iret rfl dX3_near_37 h
      · replace h := h.2 c
        refine wp_bipush (-2) dX3_near_24 (by decide) ?_
        exact wp_iret rfl dX3_near_26 h
set_option maxRecDepth 100000 in
set_option maxHeartbeats 4000000 in
theorem R_X3_near_41 (g : Ev) (d : Nat) (x1 : Int32) (x2 : Int32) (x3 : Int32) (x4 : Int32) (σ : St) (K : Option Value → St → Prop) (h : (((sV σ 9) ≤ x4 → Runs g 45 59 d M_X3_puts [.ref (eA g 45), .int x1] σ (fun r1 σ1 => ∃ v1 : Int32, r1 = some (.int v1) ∧ K (some (.int v1)) σ1)) ∧ (¬ (sV σ 9) ≤ x4 → Runs g 45 59 d M_X3_nearest [.ref (eA g 45), .int x3, .int x4] σ (fun r2 σ2 => ∃ v2 : Int32, r2 = some (.int v2) ∧ Runs g 45 59 d M_X3_get [.ref (eA g 45), .int x2, .int v2] σ2 (fun r3 σ3 => ∃ v3 : Int32, r3 = some (.int v3) ∧ vp_in x4 (lenZ 47) ∧ WP g 45 59 (d + 1) M_X3_near 41 [(0, .ref (eA g 45)), (1, .int x1), (2, .int x2), (3, .int x3), (4, .int (x4 + (nI 1)))] [] (uI σ3 47 x4.toNatClampNeg (vp_nar .boolean v3)) K))))) : WP g 45 59 (d + 1) M_X3_near 41 [(0, .ref (eA g 45)), (1, .int x1), (2, .int x2), (3, .int x3), (4, .int x4)] [] σ K := by
  refine wp_iload 4 dX3_near_41 rfl ?_
  refine wp_aload_n 0 dX3_near_43 rfl rfl ?_
  refine wp_get 45 2 1 (by decide) (by decide) rfl rfl inG3 (by decide) wf_X3_59 rfl dX3_near_44 ?_
  refine wp_icmp_ge 75 dX3_near_47 (by decide) (fun c => ?_) (fun c => ?_)
  · replace h := h.1 c
    refine wp_aload_n 0 dX3_near_75 rfl rfl ?_
    refine wp_iload_n 1 dX3_near_76 rfl rfl ?_
    refine wp_callV [.int x1] [] 45 2 (by decide) (by decide) rfl rfl wc_X3_puts wm_X3_99 ws_X3_puts we_X3_puts wi_X3 ok_X3_puts (by decide) (Nat.le_of_ble_eq_true rfl) dX3_near_77 rfl h ?_
    rintro r1 σ1 ⟨v1, rfl, h⟩
    show WP g 45 59 (d + 1) M_X3_near 80 [(0, .ref (eA g 45)), (1, .int x1), (2, .int x2), (3, .int x3), (4, .int x4)] [.int v1] σ1 K
    exact wp_iret rfl dX3_near_80 h
  · replace h := h.2 c
    refine wp_aload_n 0 dX3_near_50 rfl rfl ?_
    refine wp_get 45 2 4 (by decide) (by decide) rfl rfl inG3 (by decide) wf_X3_14 rfl dX3_near_51 ?_
    refine wp_iload 4 dX3_near_54 rfl ?_
    refine wp_aload_n 0 dX3_near_56 rfl rfl ?_
    refine wp_iload_n 2 dX3_near_57 rfl rfl ?_
    refine wp_aload_n 0 dX3_near_58 rfl rfl ?_
    refine wp_iload_n 3 dX3_near_59 rfl rfl ?_
    refine wp_iload 4 dX3_near_60 rfl ?_
    refine wp_callV [.int x3, .int x4] [.int x2, .ref (eA g 45), .int x4, .ref (eA g 47)] 45 2 (by decide) (by decide) rfl rfl wc_X3_nearest wm_X3_114 ws_X3_nearest we_X3_nearest wi_X3 ok_X3_nearest (by decide) (Nat.le_of_ble_eq_true rfl) dX3_near_62 rfl h ?_
    rintro r2 σ2 ⟨v2, rfl, h⟩
    show WP g 45 59 (d + 1) M_X3_near 65 [(0, .ref (eA g 45)), (1, .int x1), (2, .int x2), (3, .int x3), (4, .int x4)] [.int v2, .int x2, .ref (eA g 45), .int x4, .ref (eA g 47)] σ2 K
    refine wp_callV [.int x2, .int v2] [.int x4, .ref (eA g 47)] 45 2 (by decide) (by decide) rfl rfl wc_X3_get wm_X3_81 ws_X3_get we_X3_get wi_X3 ok_X3_get (by decide) (Nat.le_of_ble_eq_true rfl) dX3_near_65 rfl h ?_
    rintro r3 σ3 ⟨v3, rfl, h⟩
    show WP g 45 59 (d + 1) M_X3_near 68 [(0, .ref (eA g 45)), (1, .int x1), (2, .int x2), (3, .int x3), (4, .int x4)] [.int v3, .int x4, .ref (eA g 47)] σ3 K
    refine wp_zast (by decide) (by decide) dX3_near_68 h.1 ?_
    replace h := h.2
    refine wp_iinc 4 (nI 1) (lv' := [(4, .int (x4 + (nI 1))), (0, .ref (eA g 45)), (1, .int x1), (2, .int x2), (3, .int x3)]) dX3_near_69 (by decide) rfl (by decide) rfl ?_
    refine wp_goto 41 dX3_near_72 (by decide) ?_
    exact wp_sub [1, 2, 3, 4, 0] rfl h
set_option maxRecDepth 100000 in
set_option maxHeartbeats 4000000 in
theorem E_X3_copy (g : Ev) (d : Nat) (x1 : Int32) (x2 : Int32) (σ : St) (K : Option Value → St → Prop) (h : Runs g 45 59 d M_X3_isRegister [.ref (eA g 45), .int x1] σ (fun r1 σ1 => ∃ v1 : Int32, r1 = some (.int v1) ∧ ((v1 = nI 0 → K (some (.int (-2))) σ1) ∧ (¬ v1 = nI 0 → Runs g 45 59 d M_X3_isRegister [.ref (eA g 45), .int x2] σ1 (fun r2 σ2 => ∃ v2 : Int32, r2 = some (.int v2) ∧ ((¬ v2 = nI 0 → WP g 45 59 (d + 1) M_X3_copy 21 [(0, .ref (eA g 45)), (1, .int x1), (2, .int x2), (3, .int (nI 0))] [] σ2 K) ∧ (v2 = nI 0 → K (some (.int (-2))) σ2))))))) : Runs g 45 59 (d + 1) M_X3_copy [.ref (eA g 45), .int x1, .int x2] σ K := by
  refine Runs.of (by decide) (Nat.le_of_ble_eq_true rfl) ?_
  show WP g 45 59 (d + 1) M_X3_copy 0 [(0, .ref (eA g 45)), (1, .int x1), (2, .int x2)] [] σ K
  refine wp_aload_n 0 dX3_copy_0 rfl rfl ?_
  refine wp_iload_n 1 dX3_copy_1 rfl rfl ?_
  refine wp_callV [.int x1] [] 45 2 (by decide) (by decide) rfl rfl wc_X3_isRegister wm_X3_92 ws_X3_isRegister we_X3_isRegister wi_X3 ok_X3_isRegister (by decide) (Nat.le_of_ble_eq_true rfl) dX3_copy_2 rfl h ?_
  rintro r1 σ1 ⟨v1, rfl, h⟩
  show WP g 45 59 (d + 1) M_X3_copy 5 [(0, .ref (eA g 45)), (1, .int x1), (2, .int x2)] [.int v1] σ1 K
  refine wp_if_eq 16 dX3_copy_5 (by decide) (fun c => ?_) (fun c => ?_)
  · replace h := h.1 c
    refine wp_bipush (-2) dX3_copy_16 (by decide) ?_
    exact wp_iret rfl dX3_copy_18 h
  · replace h := h.2 c
    refine wp_aload_n 0 dX3_copy_8 rfl rfl ?_
    refine wp_iload_n 2 dX3_copy_9 rfl rfl ?_
    refine wp_callV [.int x2] [] 45 2 (by decide) (by decide) rfl rfl wc_X3_isRegister wm_X3_92 ws_X3_isRegister we_X3_isRegister wi_X3 ok_X3_isRegister (by decide) (Nat.le_of_ble_eq_true rfl) dX3_copy_10 rfl h ?_
    rintro r2 σ2 ⟨v2, rfl, h⟩
    show WP g 45 59 (d + 1) M_X3_copy 13 [(0, .ref (eA g 45)), (1, .int x1), (2, .int x2)] [.int v2] σ2 K
    refine wp_if_ne 19 dX3_copy_13 (by decide) (fun c => ?_) (fun c => ?_)
    · replace h := h.1 c
      refine wp_iconst (nI 0) dX3_copy_19 (by decide) ?_
      refine wp_istore_n (lv' := [(3, .int (nI 0)), (0, .ref (eA g 45)), (1, .int x1), (2, .int x2)]) dX3_copy_20 rfl (by decide) rfl ?_
      exact wp_sub [1, 2, 3, 0] rfl h
    · replace h := h.2 c
      refine wp_bipush (-2) dX3_copy_16 (by decide) ?_
      exact wp_iret rfl dX3_copy_18 h
set_option maxRecDepth 100000 in
set_option maxHeartbeats 4000000 in
theorem R_X3_copy_21 (g : Ev) (d : Nat) (x1 : Int32) (x2 : Int32) (x3 : Int32) (σ : St) (K : Option Value → St → Prop) (h : (((sV σ 9) ≤ x3 → Runs g 45 59 d M_X3_done [.ref (eA g 45)] σ (fun r1 σ1 => ∃ v1 : Int32, r1 = some (.int v1) ∧ K (some (.int v1)) σ1)) ∧ (¬ (sV σ 9) ≤ x3 → Runs g 45 59 d M_X3_get [.ref (eA g 45), .int x2, .int x3] σ (fun r2 σ2 => ∃ v2 : Int32, r2 = some (.int v2) ∧ vp_in (((nI 4096) * x1) + x3) (lenZ 46) ∧ WP g 45 59 (d + 1) M_X3_copy 21 [(0, .ref (eA g 45)), (1, .int x1), (2, .int x2), (3, .int (x3 + (nI 1)))] [] (uI σ2 46 (((nI 4096) * x1) + x3).toNatClampNeg (vp_nar .boolean v2)) K)))) : WP g 45 59 (d + 1) M_X3_copy 21 [(0, .ref (eA g 45)), (1, .int x1), (2, .int x2), (3, .int x3)] [] σ K := by
  refine wp_iload_n 3 dX3_copy_21 rfl rfl ?_
  refine wp_aload_n 0 dX3_copy_22 rfl rfl ?_
  refine wp_get 45 2 1 (by decide) (by decide) rfl rfl inG3 (by decide) wf_X3_59 rfl dX3_copy_23 ?_
  refine wp_icmp_ge 53 dX3_copy_26 (by decide) (fun c => ?_) (fun c => ?_)
  · replace h := h.1 c
    refine wp_aload_n 0 dX3_copy_53 rfl rfl ?_
    refine wp_callV [] [] 45 2 (by decide) (by decide) rfl rfl wc_X3_done wm_X3_65 ws_X3_done we_X3_done wi_X3 ok_X3_done (by decide) (Nat.le_of_ble_eq_true rfl) dX3_copy_54 rfl h ?_
    rintro r1 σ1 ⟨v1, rfl, h⟩
    show WP g 45 59 (d + 1) M_X3_copy 57 [(0, .ref (eA g 45)), (1, .int x1), (2, .int x2), (3, .int x3)] [.int v1] σ1 K
    exact wp_iret rfl dX3_copy_57 h
  · replace h := h.2 c
    refine wp_aload_n 0 dX3_copy_29 rfl rfl ?_
    refine wp_get 45 2 3 (by decide) (by decide) rfl rfl inG3 (by decide) wf_X3_10 rfl dX3_copy_30 ?_
    refine wp_sipush (nI 4096) dX3_copy_33 (by decide) ?_
    refine wp_iload_n 1 dX3_copy_36 rfl rfl ?_
    refine wp_imul dX3_copy_37 ?_
    refine wp_iload_n 3 dX3_copy_38 rfl rfl ?_
    refine wp_iadd dX3_copy_39 ?_
    refine wp_aload_n 0 dX3_copy_40 rfl rfl ?_
    refine wp_iload_n 2 dX3_copy_41 rfl rfl ?_
    refine wp_iload_n 3 dX3_copy_42 rfl rfl ?_
    refine wp_callV [.int x2, .int x3] [.int (((nI 4096) * x1) + x3), .ref (eA g 46)] 45 2 (by decide) (by decide) rfl rfl wc_X3_get wm_X3_81 ws_X3_get we_X3_get wi_X3 ok_X3_get (by decide) (Nat.le_of_ble_eq_true rfl) dX3_copy_43 rfl h ?_
    rintro r2 σ2 ⟨v2, rfl, h⟩
    show WP g 45 59 (d + 1) M_X3_copy 46 [(0, .ref (eA g 45)), (1, .int x1), (2, .int x2), (3, .int x3)] [.int v2, .int (((nI 4096) * x1) + x3), .ref (eA g 46)] σ2 K
    refine wp_zast (by decide) (by decide) dX3_copy_46 h.1 ?_
    replace h := h.2
    refine wp_iinc 3 (nI 1) (lv' := [(3, .int (x3 + (nI 1))), (0, .ref (eA g 45)), (1, .int x1), (2, .int x2)]) dX3_copy_47 (by decide) rfl (by decide) rfl ?_
    refine wp_goto 21 dX3_copy_50 (by decide) ?_
    exact wp_sub [1, 2, 3, 0] rfl h
set_option maxRecDepth 100000 in
set_option maxHeartbeats 4000000 in
theorem E_X3_swap (g : Ev) (d : Nat) (x1 : Int32) (σ : St) (K : Option Value → St → Prop) (h : ((x1 < nI 0 → K (some (.int (-2))) σ) ∧ (¬ x1 < nI 0 → ((x1 < ((sV σ 8) - (nI 1)) → WP g 45 59 (d + 1) M_X3_swap 19 [(0, .ref (eA g 45)), (1, .int x1), (2, .int (nI 0))] [] σ K) ∧ (¬ x1 < ((sV σ 8) - (nI 1)) → K (some (.int (-2))) σ))))) : Runs g 45 59 (d + 1) M_X3_swap [.ref (eA g 45), .int x1] σ K := by
  refine Runs.of (by decide) (Nat.le_of_ble_eq_true rfl) ?_
  show WP g 45 59 (d + 1) M_X3_swap 0 [(0, .ref (eA g 45)), (1, .int x1)] [] σ K
  refine wp_iload_n 1 dX3_swap_0 rfl rfl ?_
  refine wp_if_lt 14 dX3_swap_1 (by decide) (fun c => ?_) (fun c => ?_)
  · replace h := h.1 c
    refine wp_bipush (-2) dX3_swap_14 (by decide) ?_
    exact wp_iret rfl dX3_swap_16 h
  · replace h := h.2 c
    refine wp_iload_n 1 dX3_swap_4 rfl rfl ?_
    refine wp_aload_n 0 dX3_swap_5 rfl rfl ?_
    refine wp_get 45 2 0 (by decide) (by decide) rfl rfl inG3 (by decide) wf_X3_55 rfl dX3_swap_6 ?_
    refine wp_iconst (nI 1) dX3_swap_9 (by decide) ?_
    refine wp_isub dX3_swap_10 ?_
    refine wp_icmp_lt 17 dX3_swap_11 (by decide) (fun c => ?_) (fun c => ?_)
    · replace h := h.1 c
      refine wp_iconst (nI 0) dX3_swap_17 (by decide) ?_
      refine wp_istore_n (lv' := [(2, .int (nI 0)), (0, .ref (eA g 45)), (1, .int x1)]) dX3_swap_18 rfl (by decide) rfl ?_
      exact wp_sub [1, 2, 0] rfl h
    · replace h := h.2 c
      refine wp_bipush (-2) dX3_swap_14 (by decide) ?_
      exact wp_iret rfl dX3_swap_16 h
set_option maxRecDepth 100000 in
set_option maxHeartbeats 4000000 in
theorem R_X3_swap_19 (g : Ev) (d : Nat) (x1 : Int32) (x2 : Int32) (σ : St) (K : Option Value → St → Prop) (h : (((sV σ 8) ≤ x2 → Runs g 45 59 d M_X3_forks [.ref (eA g 45), .int (nI 0), .int (nI 32), .int (-1), .ref (eA g 51)] σ (fun r1 σ1 => ∃ v1 : Int32, r1 = some (.int v1) ∧ ((v1 ≤ (sV σ1 10) → WP g 45 59 (d + 1) M_X3_swap 91 [(0, .ref (eA g 45)), (2, .int (nI 0))] [] σ1 K) ∧ (¬ v1 ≤ (sV σ1 10) → K (some (.int (-8))) σ1)))) ∧ (¬ (sV σ 8) ≤ x2 → ((¬ x2 = x1 → ((¬ x2 = (x1 + (nI 1)) → vp_in x2 (lenI 50) ∧ vp_in x2 (lenI 51) ∧ WP g 45 59 (d + 1) M_X3_swap 19 [(0, .ref (eA g 45)), (1, .int x1), (2, .int (x2 + (nI 1)))] [] (uI σ 51 x2.toNatClampNeg (sI σ 50 x2.toNatClampNeg)) K) ∧ (x2 = (x1 + (nI 1)) → vp_in x1 (lenI 50) ∧ vp_in x2 (lenI 51) ∧ WP g 45 59 (d + 1) M_X3_swap 19 [(0, .ref (eA g 45)), (1, .int x1), (2, .int (x2 + (nI 1)))] [] (uI σ 51 x2.toNatClampNeg (sI σ 50 x1.toNatClampNeg)) K))) ∧ (x2 = x1 → vp_in (x1 + (nI 1)) (lenI 50) ∧ vp_in x2 (lenI 51) ∧ WP g 45 59 (d + 1) M_X3_swap 19 [(0, .ref (eA g 45)), (1, .int x1), (2, .int (x2 + (nI 1)))] [] (uI σ 51 x2.toNatClampNeg (sI σ 50 (x1 + (nI 1)).toNatClampNeg)) K))))) : WP g 45 59 (d + 1) M_X3_swap 19 [(0, .ref (eA g 45)), (1, .int x1), (2, .int x2)] [] σ K := by
  refine wp_iload_n 2 dX3_swap_19 rfl rfl ?_
  refine wp_aload_n 0 dX3_swap_20 rfl rfl ?_
  refine wp_get 45 2 0 (by decide) (by decide) rfl rfl inG3 (by decide) wf_X3_55 rfl dX3_swap_21 ?_
  refine wp_icmp_ge 67 dX3_swap_24 (by decide) (fun c => ?_) (fun c => ?_)
  · replace h := h.1 c
    refine wp_aload_n 0 dX3_swap_67 rfl rfl ?_
    refine wp_iconst (nI 0) dX3_swap_68 (by decide) ?_
    refine wp_bipush (nI 32) dX3_swap_69 (by decide) ?_
    refine wp_iconst (-1) dX3_swap_71 (by decide) ?_
    refine wp_aload_n 0 dX3_swap_72 rfl rfl ?_
    refine wp_get 45 2 8 (by decide) (by decide) rfl rfl inG3 (by decide) wf_X3_27 rfl dX3_swap_73 ?_
    refine wp_callV [.int (nI 0), .int (nI 32), .int (-1), .ref (eA g 51)] [] 45 2 (by decide) (by decide) rfl rfl wc_X3_forks wm_X3_88 ws_X3_forks we_X3_forks wi_X3 ok_X3_forks (by decide) (Nat.le_of_ble_eq_true rfl) dX3_swap_76 rfl h ?_
    rintro r1 σ1 ⟨v1, rfl, h⟩
    show WP g 45 59 (d + 1) M_X3_swap 79 [(0, .ref (eA g 45)), (1, .int x1), (2, .int x2)] [.int v1] σ1 K
    refine wp_aload_n 0 dX3_swap_79 rfl rfl ?_
    refine wp_get 45 2 2 (by decide) (by decide) rfl rfl inG3 (by decide) wf_X3_62 rfl dX3_swap_80 ?_
    refine wp_icmp_le 89 dX3_swap_83 (by decide) (fun c => ?_) (fun c => ?_)
    · replace h := h.1 c
      refine wp_iconst (nI 0) dX3_swap_89 (by decide) ?_
      refine wp_istore_n (lv' := [(2, .int (nI 0)), (0, .ref (eA g 45)), (1, .int x1)]) dX3_swap_90 rfl (by decide) rfl ?_
      exact wp_sub [1, 0] rfl h
    · replace h := h.2 c
      refine wp_bipush (-8) dX3_swap_86 (by decide) ?_
      exact wp_iret rfl dX3_swap_88 h
  · replace h := h.2 c
    refine wp_aload_n 0 dX3_swap_27 rfl rfl ?_
    refine wp_get 45 2 8 (by decide) (by decide) rfl rfl inG3 (by decide) wf_X3_27 rfl dX3_swap_28 ?_
    refine wp_iload_n 2 dX3_swap_31 rfl rfl ?_
    refine wp_aload_n 0 dX3_swap_32 rfl rfl ?_
    refine wp_get 45 2 7 (by decide) (by decide) rfl rfl inG3 (by decide) wf_X3_24 rfl dX3_swap_33 ?_
    refine wp_iload_n 2 dX3_swap_36 rfl rfl ?_
    refine wp_iload_n 1 dX3_swap_37 rfl rfl ?_
    refine wp_icmp_ne 47 dX3_swap_38 (by decide) (fun c => ?_) (fun c => ?_)
    · replace h := h.1 c
      refine wp_iload_n 2 dX3_swap_47 rfl rfl ?_
      refine wp_iload_n 1 dX3_swap_48 rfl rfl ?_
      refine wp_iconst (nI 1) dX3_swap_49 (by decide) ?_
      refine wp_iadd dX3_swap_50 ?_
      refine wp_icmp_ne 58 dX3_swap_51 (by decide) (fun c => ?_) (fun c => ?_)
      · replace h := h.1 c
        refine wp_iload_n 2 dX3_swap_58 rfl rfl ?_
        refine wp_iald (by decide) (by decide) dX3_swap_59 h.1 ?_
        replace h := h.2
        refine wp_iast (by decide) (by decide) dX3_swap_60 h.1 ?_
        replace h := h.2
        refine wp_iinc 2 (nI 1) (lv' := [(2, .int (x2 + (nI 1))), (0, .ref (eA g 45)), (1, .int x1)]) dX3_swap_61 (by decide) rfl (by decide) rfl ?_
        refine wp_goto 19 dX3_swap_64 (by decide) ?_
        exact wp_sub [1, 2, 0] rfl h
      · replace h := h.2 c
        refine wp_iload_n 1 dX3_swap_54 rfl rfl ?_
        refine wp_goto 59 dX3_swap_55 (by decide) ?_
        refine wp_iald (by decide) (by decide) dX3_swap_59 h.1 ?_
        replace h := h.2
        refine wp_iast (by decide) (by decide) dX3_swap_60 h.1 ?_
        replace h := h.2
        refine wp_iinc 2 (nI 1) (lv' := [(2, .int (x2 + (nI 1))), (0, .ref (eA g 45)), (1, .int x1)]) dX3_swap_61 (by decide) rfl (by decide) rfl ?_
        refine wp_goto 19 dX3_swap_64 (by decide) ?_
        exact wp_sub [1, 2, 0] rfl h
    · replace h := h.2 c
      refine wp_iload_n 1 dX3_swap_41 rfl rfl ?_
      refine wp_iconst (nI 1) dX3_swap_42 (by decide) ?_
      refine wp_iadd dX3_swap_43 ?_
      refine wp_goto 59 dX3_swap_44 (by decide) ?_
      refine wp_iald (by decide) (by decide) dX3_swap_59 h.1 ?_
      replace h := h.2
      refine wp_iast (by decide) (by decide) dX3_swap_60 h.1 ?_
      replace h := h.2
      refine wp_iinc 2 (nI 1) (lv' := [(2, .int (x2 + (nI 1))), (0, .ref (eA g 45)), (1, .int x1)]) dX3_swap_61 (by decide) rfl (by decide) rfl ?_
      refine wp_goto 19 dX3_swap_64 (by decide) ?_
      exact wp_sub [1, 2, 0] rfl h
set_option maxRecDepth 100000 in
set_option maxHeartbeats 4000000 in
theorem R_X3_swap_91 (g : Ev) (d : Nat) (x2 : Int32) (σ : St) (K : Option Value → St → Prop) (h : (((sV σ 8) ≤ x2 → Runs g 45 59 d M_X3_done [.ref (eA g 45)] σ (fun r1 σ1 => ∃ v1 : Int32, r1 = some (.int v1) ∧ K (some (.int v1)) σ1)) ∧ (¬ (sV σ 8) ≤ x2 → vp_in x2 (lenI 51) ∧ vp_in x2 (lenI 50) ∧ WP g 45 59 (d + 1) M_X3_swap 91 [(0, .ref (eA g 45)), (2, .int (x2 + (nI 1)))] [] (uI σ 50 x2.toNatClampNeg (sI σ 51 x2.toNatClampNeg)) K))) : WP g 45 59 (d + 1) M_X3_swap 91 [(0, .ref (eA g 45)), (2, .int x2)] [] σ K := by
  refine wp_iload_n 1 dX3_swap_91 rfl rfl ?_
  refine wp_aload_n 0 dX3_swap_92 rfl rfl ?_
  refine wp_get 45 2 0 (by decide) (by decide) rfl rfl inG3 (by decide) wf_X3_55 rfl dX3_swap_93 ?_
  refine wp_icmp_ge 117 dX3_swap_96 (by decide) (fun c => ?_) (fun c => ?_)
  · replace h := h.1 c
    refine wp_aload_n 0 dX3_swap_117 rfl rfl ?_
    refine wp_callV [] [] 45 2 (by decide) (by decide) rfl rfl wc_X3_done wm_X3_65 ws_X3_done we_X3_done wi_X3 ok_X3_done (by decide) (Nat.le_of_ble_eq_true rfl) dX3_swap_118 rfl h ?_
    rintro r1 σ1 ⟨v1, rfl, h⟩
    show WP g 45 59 (d + 1) M_X3_swap 121 [(0, .ref (eA g 45)), (2, .int x2)] [.int v1] σ1 K
    exact wp_iret rfl dX3_swap_121 h
  · replace h := h.2 c
    refine wp_aload_n 0 dX3_swap_99 rfl rfl ?_
    refine wp_get 45 2 7 (by decide) (by decide) rfl rfl inG3 (by decide) wf_X3_24 rfl dX3_swap_100 ?_
    refine wp_iload_n 1 dX3_swap_103 rfl rfl ?_
    refine wp_aload_n 0 dX3_swap_104 rfl rfl ?_
    refine wp_get 45 2 8 (by decide) (by decide) rfl rfl inG3 (by decide) wf_X3_27 rfl dX3_swap_105 ?_
    refine wp_iload_n 1 dX3_swap_108 rfl rfl ?_
    refine wp_iald (by decide) (by decide) dX3_swap_109 h.1 ?_
    replace h := h.2
    refine wp_iast (by decide) (by decide) dX3_swap_110 h.1 ?_
    replace h := h.2
    refine wp_iinc 1 (nI 1) (lv' := [(2, .int (x2 + (nI 1))), (0, .ref (eA g 45))]) dX3_swap_111 (by decide) rfl (by decide) rfl ?_
    refine wp_goto 91 dX3_swap_114 (by decide) ?_
    exact wp_sub [1, 0] rfl h
set_option maxRecDepth 100000 in
set_option maxHeartbeats 4000000 in
theorem E_X3_tries (g : Ev) (d : Nat) (x1 : Int32) (x2 : Int32) (σ : St) (K : Option Value → St → Prop) (h : WP g 45 59 (d + 1) M_X3_tries 5 [(0, .ref (eA g 45)), (1, .int x1), (2, .int x2), (3, .int (nI 0)), (4, .int (nI 0))] [] σ K) : Runs g 45 59 (d + 1) M_X3_tries [.ref (eA g 45), .int x1, .int x2] σ K := by
  refine Runs.of (by decide) (Nat.le_of_ble_eq_true rfl) ?_
  show WP g 45 59 (d + 1) M_X3_tries 0 [(0, .ref (eA g 45)), (1, .int x1), (2, .int x2)] [] σ K
  refine wp_iconst (nI 0) dX3_tries_0 (by decide) ?_
  refine wp_istore_n (lv' := [(3, .int (nI 0)), (0, .ref (eA g 45)), (1, .int x1), (2, .int x2)]) dX3_tries_1 rfl (by decide) rfl ?_
  refine wp_iconst (nI 0) dX3_tries_2 (by decide) ?_
  refine wp_istore (lv' := [(4, .int (nI 0)), (3, .int (nI 0)), (0, .ref (eA g 45)), (1, .int x1), (2, .int x2)]) dX3_tries_3 (by decide) rfl ?_
  exact wp_sub [2, 3, 4, 1, 0] rfl h
set_option maxRecDepth 100000 in
set_option maxHeartbeats 4000000 in
theorem R_X3_tries_5 (g : Ev) (d : Nat) (x1 : Int32) (x2 : Int32) (x3 : Int32) (x4 : Int32) (σ : St) (K : Option Value → St → Prop) (h : (((sV σ 8) ≤ x4 → vp_in x2 (lenI 51) ∧ K none (uI σ 51 x2.toNatClampNeg x1)) ∧ (¬ (sV σ 8) ≤ x4 → vp_in x4 (lenI 50) ∧ ((¬ (sI σ 50 x4.toNatClampNeg) = x1 → ((x2 ≤ x3 → vp_in x4 (lenI 50) ∧ vp_in (x3 + (nI 1)) (lenI 51) ∧ WP g 45 59 (d + 1) M_X3_tries 5 [(0, .ref (eA g 45)), (1, .int x1), (2, .int x2), (3, .int (x3 + (nI 1))), (4, .int (x4 + (nI 1)))] [] (uI σ 51 (x3 + (nI 1)).toNatClampNeg (sI σ 50 x4.toNatClampNeg)) K) ∧ (¬ x2 ≤ x3 → vp_in x4 (lenI 50) ∧ vp_in x3 (lenI 51) ∧ WP g 45 59 (d + 1) M_X3_tries 5 [(0, .ref (eA g 45)), (1, .int x1), (2, .int x2), (3, .int (x3 + (nI 1))), (4, .int (x4 + (nI 1)))] [] (uI σ 51 x3.toNatClampNeg (sI σ 50 x4.toNatClampNeg)) K))) ∧ ((sI σ 50 x4.toNatClampNeg) = x1 → WP g 45 59 (d + 1) M_X3_tries 5 [(0, .ref (eA g 45)), (1, .int x1), (2, .int x2), (3, .int x3), (4, .int (x4 + (nI 1)))] [] σ K))))) : WP g 45 59 (d + 1) M_X3_tries 5 [(0, .ref (eA g 45)), (1, .int x1), (2, .int x2), (3, .int x3), (4, .int x4)] [] σ K := by
  refine wp_iload 4 dX3_tries_5 rfl ?_
  refine wp_aload_n 0 dX3_tries_7 rfl rfl ?_
  refine wp_get 45 2 0 (by decide) (by decide) rfl rfl inG3 (by decide) wf_X3_55 rfl dX3_tries_8 ?_
  refine wp_icmp_ge 61 dX3_tries_11 (by decide) (fun c => ?_) (fun c => ?_)
  · replace h := h.1 c
    refine wp_aload_n 0 dX3_tries_61 rfl rfl ?_
    refine wp_get 45 2 8 (by decide) (by decide) rfl rfl inG3 (by decide) wf_X3_27 rfl dX3_tries_62 ?_
    refine wp_iload_n 2 dX3_tries_65 rfl rfl ?_
    refine wp_iload_n 1 dX3_tries_66 rfl rfl ?_
    refine wp_iast (by decide) (by decide) dX3_tries_67 h.1 ?_
    replace h := h.2
    exact wp_vret rfl dX3_tries_68 h
  · replace h := h.2 c
    refine wp_aload_n 0 dX3_tries_14 rfl rfl ?_
    refine wp_get 45 2 7 (by decide) (by decide) rfl rfl inG3 (by decide) wf_X3_24 rfl dX3_tries_15 ?_
    refine wp_iload 4 dX3_tries_18 rfl ?_
    refine wp_iald (by decide) (by decide) dX3_tries_20 h.1 ?_
    replace h := h.2
    refine wp_iload_n 1 dX3_tries_21 rfl rfl ?_
    refine wp_icmp_ne 28 dX3_tries_22 (by decide) (fun c => ?_) (fun c => ?_)
    · replace h := h.1 c
      refine wp_aload_n 0 dX3_tries_28 rfl rfl ?_
      refine wp_get 45 2 8 (by decide) (by decide) rfl rfl inG3 (by decide) wf_X3_27 rfl dX3_tries_29 ?_
      refine wp_iload_n 3 dX3_tries_32 rfl rfl ?_
      refine wp_iload_n 2 dX3_tries_33 rfl rfl ?_
      refine wp_icmp_ge 41 dX3_tries_34 (by decide) (fun c => ?_) (fun c => ?_)
      · replace h := h.1 c
        refine wp_iload_n 3 dX3_tries_41 rfl rfl ?_
        refine wp_iconst (nI 1) dX3_tries_42 (by decide) ?_
        refine wp_iadd dX3_tries_43 ?_
        refine wp_aload_n 0 dX3_tries_44 rfl rfl ?_
        refine wp_get 45 2 7 (by decide) (by decide) rfl rfl inG3 (by decide) wf_X3_24 rfl dX3_tries_45 ?_
        refine wp_iload 4 dX3_tries_48 rfl ?_
        refine wp_iald (by decide) (by decide) dX3_tries_50 h.1 ?_
        replace h := h.2
        refine wp_iast (by decide) (by decide) dX3_tries_51 h.1 ?_
        replace h := h.2
        refine wp_iinc 3 (nI 1) (lv' := [(3, .int (x3 + (nI 1))), (0, .ref (eA g 45)), (1, .int x1), (2, .int x2), (4, .int x4)]) dX3_tries_52 (by decide) rfl (by decide) rfl ?_
        refine wp_iinc 4 (nI 1) (lv' := [(4, .int (x4 + (nI 1))), (3, .int (x3 + (nI 1))), (0, .ref (eA g 45)), (1, .int x1), (2, .int x2)]) dX3_tries_55 (by decide) rfl (by decide) rfl ?_
        refine wp_goto 5 dX3_tries_58 (by decide) ?_
        exact wp_sub [2, 3, 4, 1, 0] rfl h
      · replace h := h.2 c
        refine wp_iload_n 3 dX3_tries_37 rfl rfl ?_
        refine wp_goto 44 dX3_tries_38 (by decide) ?_
        refine wp_aload_n 0 dX3_tries_44 rfl rfl ?_
        refine wp_get 45 2 7 (by decide) (by decide) rfl rfl inG3 (by decide) wf_X3_24 rfl dX3_tries_45 ?_
        refine wp_iload 4 dX3_tries_48 rfl ?_
        refine wp_iald (by decide) (by decide) dX3_tries_50 h.1 ?_
        replace h := h.2
        refine wp_iast (by decide) (by decide) dX3_tries_51 h.1 ?_
        replace h := h.2
        refine wp_iinc 3 (nI 1) (lv' := [(3, .int (x3 + (nI 1))), (0, .ref (eA g 45)), (1, .int x1), (2, .int x2), (4, .int x4)]) dX3_tries_52 (by decide) rfl (by decide) rfl ?_
        refine wp_iinc 4 (nI 1) (lv' := [(4, .int (x4 + (nI 1))), (3, .int (x3 + (nI 1))), (0, .ref (eA g 45)), (1, .int x1), (2, .int x2)]) dX3_tries_55 (by decide) rfl (by decide) rfl ?_
        refine wp_goto 5 dX3_tries_58 (by decide) ?_
        exact wp_sub [2, 3, 4, 1, 0] rfl h
    · replace h := h.2 c
      refine wp_goto 55 dX3_tries_25 (by decide) ?_
      refine wp_iinc 4 (nI 1) (lv' := [(4, .int (x4 + (nI 1))), (0, .ref (eA g 45)), (1, .int x1), (2, .int x2), (3, .int x3)]) dX3_tries_55 (by decide) rfl (by decide) rfl ?_
      refine wp_goto 5 dX3_tries_58 (by decide) ?_
      exact wp_sub [1, 2, 3, 4, 0] rfl h
set_option maxRecDepth 100000 in
set_option maxHeartbeats 4000000 in
theorem E_X3_sift (g : Ev) (d : Nat) (x1 : Int32) (σ : St) (K : Option Value → St → Prop) (h : Runs g 45 59 d M_X3_isLetter [.ref (eA g 45), .int x1] σ (fun r1 σ1 => ∃ v1 : Int32, r1 = some (.int v1) ∧ ((¬ v1 = nI 0 → WP g 45 59 (d + 1) M_X3_sift 19 [(0, .ref (eA g 45)), (1, .int x1), (2, .int (nI 0)), (3, .int (nI 2147483647)), (4, .int (nI 0))] [] σ1 K) ∧ (v1 = nI 0 → K (some (.int (-2))) σ1)))) : Runs g 45 59 (d + 1) M_X3_sift [.ref (eA g 45), .int x1] σ K := by
  refine Runs.of (by decide) (Nat.le_of_ble_eq_true rfl) ?_
  show WP g 45 59 (d + 1) M_X3_sift 0 [(0, .ref (eA g 45)), (1, .int x1)] [] σ K
  refine wp_aload_n 0 dX3_sift_0 rfl rfl ?_
  refine wp_iload_n 1 dX3_sift_1 rfl rfl ?_
  refine wp_callV [.int x1] [] 45 2 (by decide) (by decide) rfl rfl wc_X3_isLetter wm_X3_96 ws_X3_isLetter we_X3_isLetter wi_X3 ok_X3_isLetter (by decide) (Nat.le_of_ble_eq_true rfl) dX3_sift_2 rfl h ?_
  rintro r1 σ1 ⟨v1, rfl, h⟩
  show WP g 45 59 (d + 1) M_X3_sift 5 [(0, .ref (eA g 45)), (1, .int x1)] [.int v1] σ1 K
  refine wp_if_ne 11 dX3_sift_5 (by decide) (fun c => ?_) (fun c => ?_)
  · replace h := h.1 c
    refine wp_iconst (nI 0) dX3_sift_11 (by decide) ?_
    refine wp_istore_n (lv' := [(2, .int (nI 0)), (0, .ref (eA g 45)), (1, .int x1)]) dX3_sift_12 rfl (by decide) rfl ?_
    refine wp_ldc (v := (nI 2147483647)) wk_X3_120 dX3_sift_13 ?_
    refine wp_istore_n (lv' := [(3, .int (nI 2147483647)), (2, .int (nI 0)), (0, .ref (eA g 45)), (1, .int x1)]) dX3_sift_15 rfl (by decide) rfl ?_
    refine wp_iconst (nI 0) dX3_sift_16 (by decide) ?_
    refine wp_istore (lv' := [(4, .int (nI 0)), (3, .int (nI 2147483647)), (2, .int (nI 0)), (0, .ref (eA g 45)), (1, .int x1)]) dX3_sift_17 (by decide) rfl ?_
    exact wp_sub [3, 4, 2, 1, 0] rfl h
  · replace h := h.2 c
    refine wp_bipush (-2) dX3_sift_8 (by decide) ?_
    exact wp_iret rfl dX3_sift_10 h
set_option maxRecDepth 100000 in
set_option maxHeartbeats 4000000 in
theorem R_X3_sift_19 (g : Ev) (d : Nat) (x1 : Int32) (x2 : Int32) (x3 : Int32) (x4 : Int32) (σ : St) (K : Option Value → St → Prop) (h : (((sV σ 8) ≤ x4 → Runs g 45 59 d M_X3_tries [.ref (eA g 45), .int x1, .int x2] σ (fun r1 σ1 => r1 = none ∧ WP g 45 59 (d + 1) M_X3_sift 76 [(0, .ref (eA g 45)), (2, .int x2), (4, .int (nI 0))] [] σ1 K)) ∧ (¬ (sV σ 8) ≤ x4 → Runs g 45 59 d M_X3_tries [.ref (eA g 45), .int x1, .int x4] σ (fun r2 σ2 => r2 = none ∧ Runs g 45 59 d M_X3_forks [.ref (eA g 45), .int (nI 0), .int (nI 32), .int (-1), .ref (eA g 51)] σ2 (fun r3 σ3 => ∃ v3 : Int32, r3 = some (.int v3) ∧ ((x3 ≤ v3 → WP g 45 59 (d + 1) M_X3_sift 19 [(0, .ref (eA g 45)), (1, .int x1), (2, .int x2), (3, .int x3), (4, .int (x4 + (nI 1)))] [] σ3 K) ∧ (¬ x3 ≤ v3 → WP g 45 59 (d + 1) M_X3_sift 19 [(0, .ref (eA g 45)), (1, .int x1), (2, .int x4), (3, .int v3), (4, .int (x4 + (nI 1)))] [] σ3 K))))))) : WP g 45 59 (d + 1) M_X3_sift 19 [(0, .ref (eA g 45)), (1, .int x1), (2, .int x2), (3, .int x3), (4, .int x4)] [] σ K := by
  refine wp_iload 4 dX3_sift_19 rfl ?_
  refine wp_aload_n 0 dX3_sift_21 rfl rfl ?_
  refine wp_get 45 2 0 (by decide) (by decide) rfl rfl inG3 (by decide) wf_X3_55 rfl dX3_sift_22 ?_
  refine wp_icmp_ge 67 dX3_sift_25 (by decide) (fun c => ?_) (fun c => ?_)
  · replace h := h.1 c
    refine wp_aload_n 0 dX3_sift_67 rfl rfl ?_
    refine wp_iload_n 1 dX3_sift_68 rfl rfl ?_
    refine wp_iload_n 2 dX3_sift_69 rfl rfl ?_
    refine wp_callV [.int x1, .int x2] [] 45 2 (by decide) (by decide) rfl rfl wc_X3_tries wm_X3_121 ws_X3_tries we_X3_tries wi_X3 ok_X3_tries (by decide) (Nat.le_of_ble_eq_true rfl) dX3_sift_70 rfl h ?_
    rintro r1 σ1 ⟨rfl, h⟩
    show WP g 45 59 (d + 1) M_X3_sift 73 [(0, .ref (eA g 45)), (1, .int x1), (2, .int x2), (3, .int x3), (4, .int x4)] [] σ1 K
    refine wp_iconst (nI 0) dX3_sift_73 (by decide) ?_
    refine wp_istore (lv' := [(4, .int (nI 0)), (0, .ref (eA g 45)), (1, .int x1), (2, .int x2), (3, .int x3)]) dX3_sift_74 (by decide) rfl ?_
    exact wp_sub [1, 3, 0] rfl h
  · replace h := h.2 c
    refine wp_aload_n 0 dX3_sift_28 rfl rfl ?_
    refine wp_iload_n 1 dX3_sift_29 rfl rfl ?_
    refine wp_iload 4 dX3_sift_30 rfl ?_
    refine wp_callV [.int x1, .int x4] [] 45 2 (by decide) (by decide) rfl rfl wc_X3_tries wm_X3_121 ws_X3_tries we_X3_tries wi_X3 ok_X3_tries (by decide) (Nat.le_of_ble_eq_true rfl) dX3_sift_32 rfl h ?_
    rintro r2 σ2 ⟨rfl, h⟩
    show WP g 45 59 (d + 1) M_X3_sift 35 [(0, .ref (eA g 45)), (1, .int x1), (2, .int x2), (3, .int x3), (4, .int x4)] [] σ2 K
    refine wp_aload_n 0 dX3_sift_35 rfl rfl ?_
    refine wp_iconst (nI 0) dX3_sift_36 (by decide) ?_
    refine wp_bipush (nI 32) dX3_sift_37 (by decide) ?_
    refine wp_iconst (-1) dX3_sift_39 (by decide) ?_
    refine wp_aload_n 0 dX3_sift_40 rfl rfl ?_
    refine wp_get 45 2 8 (by decide) (by decide) rfl rfl inG3 (by decide) wf_X3_27 rfl dX3_sift_41 ?_
    refine wp_callV [.int (nI 0), .int (nI 32), .int (-1), .ref (eA g 51)] [] 45 2 (by decide) (by decide) rfl rfl wc_X3_forks wm_X3_88 ws_X3_forks we_X3_forks wi_X3 ok_X3_forks (by decide) (Nat.le_of_ble_eq_true rfl) dX3_sift_44 rfl h ?_
    rintro r3 σ3 ⟨v3, rfl, h⟩
    show WP g 45 59 (d + 1) M_X3_sift 47 [(0, .ref (eA g 45)), (1, .int x1), (2, .int x2), (3, .int x3), (4, .int x4)] [.int v3] σ3 K
    refine wp_istore (lv' := [(5, .int v3), (0, .ref (eA g 45)), (1, .int x1), (2, .int x2), (3, .int x3), (4, .int x4)]) dX3_sift_47 (by decide) rfl ?_
    refine wp_iload 0 dX3_sift_49 rfl ?_
    refine wp_iload_n 4 dX3_sift_51 rfl rfl ?_
    refine wp_icmp_ge 61 dX3_sift_52 (by decide) (fun c => ?_) (fun c => ?_)
    · replace h := h.1 c
      refine wp_iinc 5 (nI 1) (lv' := [(4, .int (x4 + (nI 1))), (5, .int v3), (0, .ref (eA g 45)), (1, .int x1), (2, .int x2), (3, .int x3)]) dX3_sift_61 (by decide) rfl (by decide) rfl ?_
      refine wp_goto 19 dX3_sift_64 (by decide) ?_
      exact wp_sub [2, 3, 4, 5, 0] rfl h
    · replace h := h.2 c
      refine wp_iload 0 dX3_sift_55 rfl ?_
      refine wp_istore_n (lv' := [(3, .int v3), (5, .int v3), (0, .ref (eA g 45)), (1, .int x1), (2, .int x2), (4, .int x4)]) dX3_sift_57 rfl (by decide) rfl ?_
      refine wp_iload 5 dX3_sift_58 rfl ?_
      refine wp_istore_n (lv' := [(2, .int x4), (3, .int v3), (5, .int v3), (0, .ref (eA g 45)), (1, .int x1), (4, .int x4)]) dX3_sift_60 rfl (by decide) rfl ?_
      refine wp_iinc 5 (nI 1) (lv' := [(4, .int (x4 + (nI 1))), (2, .int x4), (3, .int v3), (5, .int v3), (0, .ref (eA g 45)), (1, .int x1)]) dX3_sift_61 (by decide) rfl (by decide) rfl ?_
      refine wp_goto 19 dX3_sift_64 (by decide) ?_
      exact wp_sub [4, 5, 1, 2, 0] rfl h
set_option maxRecDepth 100000 in
set_option maxHeartbeats 4000000 in
theorem R_X3_sift_76 (g : Ev) (d : Nat) (x2 : Int32) (x4 : Int32) (σ : St) (K : Option Value → St → Prop) (h : (((sV σ 8) ≤ x4 → Runs g 45 59 d M_X3_done [.ref (eA g 45)] σ (fun r1 σ1 => ∃ v1 : Int32, r1 = some (.int v1) ∧ K (some (.int x2)) σ1)) ∧ (¬ (sV σ 8) ≤ x4 → vp_in x4 (lenI 51) ∧ vp_in x4 (lenI 50) ∧ WP g 45 59 (d + 1) M_X3_sift 76 [(0, .ref (eA g 45)), (2, .int x2), (4, .int (x4 + (nI 1)))] [] (uI σ 50 x4.toNatClampNeg (sI σ 51 x4.toNatClampNeg)) K))) : WP g 45 59 (d + 1) M_X3_sift 76 [(0, .ref (eA g 45)), (2, .int x2), (4, .int x4)] [] σ K := by
  refine wp_iload 2 dX3_sift_76 rfl ?_
  refine wp_aload_n 0 dX3_sift_78 rfl rfl ?_
  refine wp_get 45 2 0 (by decide) (by decide) rfl rfl inG3 (by decide) wf_X3_55 rfl dX3_sift_79 ?_
  refine wp_icmp_ge 105 dX3_sift_82 (by decide) (fun c => ?_) (fun c => ?_)
  · replace h := h.1 c
    refine wp_aload_n 0 dX3_sift_105 rfl rfl ?_
    refine wp_callV [] [] 45 2 (by decide) (by decide) rfl rfl wc_X3_done wm_X3_65 ws_X3_done we_X3_done wi_X3 ok_X3_done (by decide) (Nat.le_of_ble_eq_true rfl) dX3_sift_106 rfl h ?_
    rintro r1 σ1 ⟨v1, rfl, h⟩
    show WP g 45 59 (d + 1) M_X3_sift 109 [(0, .ref (eA g 45)), (2, .int x2), (4, .int x4)] [.int v1] σ1 K
    refine wp_pop dX3_sift_109 rfl ?_
    refine wp_iload_n 1 dX3_sift_110 rfl rfl ?_
    exact wp_iret rfl dX3_sift_111 h
  · replace h := h.2 c
    refine wp_aload_n 0 dX3_sift_85 rfl rfl ?_
    refine wp_get 45 2 7 (by decide) (by decide) rfl rfl inG3 (by decide) wf_X3_24 rfl dX3_sift_86 ?_
    refine wp_iload 2 dX3_sift_89 rfl ?_
    refine wp_aload_n 0 dX3_sift_91 rfl rfl ?_
    refine wp_get 45 2 8 (by decide) (by decide) rfl rfl inG3 (by decide) wf_X3_27 rfl dX3_sift_92 ?_
    refine wp_iload 2 dX3_sift_95 rfl ?_
    refine wp_iald (by decide) (by decide) dX3_sift_97 h.1 ?_
    replace h := h.2
    refine wp_iast (by decide) (by decide) dX3_sift_98 h.1 ?_
    replace h := h.2
    refine wp_iinc 2 (nI 1) (lv' := [(4, .int (x4 + (nI 1))), (0, .ref (eA g 45)), (2, .int x2)]) dX3_sift_99 (by decide) rfl (by decide) rfl ?_
    refine wp_goto 76 dX3_sift_102 (by decide) ?_
    exact wp_sub [1, 2, 0] rfl h
set_option maxRecDepth 100000 in
set_option maxHeartbeats 4000000 in
theorem E_X3_cost (g : Ev) (d : Nat) (x1 : Int32) (x2 : Int32) (σ : St) (K : Option Value → St → Prop) (h : Runs g 45 59 d M_X3_isLetter [.ref (eA g 45), .int x1] σ (fun r1 σ1 => ∃ v1 : Int32, r1 = some (.int v1) ∧ ((v1 = nI 0 → K (some (.int (-2))) σ1) ∧ (¬ v1 = nI 0 → ((x2 < nI 0 → K (some (.int (-2))) σ1) ∧ (¬ x2 < nI 0 → ((x2 ≤ (nI 1000000) → vp_in x1 (lenI 49) ∧ vp_in x1 (lenI 49) ∧ K (some (.int (sI σ1 49 x1.toNatClampNeg))) (uI σ1 49 x1.toNatClampNeg x2)) ∧ (¬ x2 ≤ (nI 1000000) → K (some (.int (-2))) σ1)))))))) : Runs g 45 59 (d + 1) M_X3_cost [.ref (eA g 45), .int x1, .int x2] σ K := by
  refine Runs.of (by decide) (Nat.le_of_ble_eq_true rfl) ?_
  show WP g 45 59 (d + 1) M_X3_cost 0 [(0, .ref (eA g 45)), (1, .int x1), (2, .int x2)] [] σ K
  refine wp_aload_n 0 dX3_cost_0 rfl rfl ?_
  refine wp_iload_n 1 dX3_cost_1 rfl rfl ?_
  refine wp_callV [.int x1] [] 45 2 (by decide) (by decide) rfl rfl wc_X3_isLetter wm_X3_96 ws_X3_isLetter we_X3_isLetter wi_X3 ok_X3_isLetter (by decide) (Nat.le_of_ble_eq_true rfl) dX3_cost_2 rfl h ?_
  rintro r1 σ1 ⟨v1, rfl, h⟩
  show WP g 45 59 (d + 1) M_X3_cost 5 [(0, .ref (eA g 45)), (1, .int x1), (2, .int x2)] [.int v1] σ1 K
  refine wp_if_eq 18 dX3_cost_5 (by decide) (fun c => ?_) (fun c => ?_)
  · replace h := h.1 c
    refine wp_bipush (-2) dX3_cost_18 (by decide) ?_
    exact wp_iret rfl dX3_cost_20 h
  · replace h := h.2 c
    refine wp_iload_n 2 dX3_cost_8 rfl rfl ?_
    refine wp_if_lt 18 dX3_cost_9 (by decide) (fun c => ?_) (fun c => ?_)
    · replace h := h.1 c
      refine wp_bipush (-2) dX3_cost_18 (by decide) ?_
      exact wp_iret rfl dX3_cost_20 h
    · replace h := h.2 c
      refine wp_iload_n 2 dX3_cost_12 rfl rfl ?_
      refine wp_ldc (v := (nI 1000000)) wk_X3_125 dX3_cost_13 ?_
      refine wp_icmp_le 21 dX3_cost_15 (by decide) (fun c => ?_) (fun c => ?_)
      · replace h := h.1 c
        refine wp_aload_n 0 dX3_cost_21 rfl rfl ?_
        refine wp_get 45 2 6 (by decide) (by decide) rfl rfl inG3 (by decide) wf_X3_20 rfl dX3_cost_22 ?_
        refine wp_iload_n 1 dX3_cost_25 rfl rfl ?_
        refine wp_iald (by decide) (by decide) dX3_cost_26 h.1 ?_
        replace h := h.2
        refine wp_istore_n (lv' := [(3, .int (sI σ1 49 x1.toNatClampNeg)), (0, .ref (eA g 45)), (1, .int x1), (2, .int x2)]) dX3_cost_27 rfl (by decide) rfl ?_
        refine wp_aload_n 1 dX3_cost_28 rfl rfl ?_
        refine wp_get 45 2 6 (by decide) (by decide) rfl rfl inG3 (by decide) wf_X3_20 rfl dX3_cost_29 ?_
        refine wp_iload_n 2 dX3_cost_32 rfl rfl ?_
        refine wp_iload_n 3 dX3_cost_33 rfl rfl ?_
        refine wp_iast (by decide) (by decide) dX3_cost_34 h.1 ?_
        replace h := h.2
        refine wp_iload_n 0 dX3_cost_35 rfl rfl ?_
        exact wp_iret rfl dX3_cost_36 h
      · replace h := h.2 c
        refine wp_bipush (-2) dX3_cost_18 (by decide) ?_
        exact wp_iret rfl dX3_cost_20 h
set_option maxRecDepth 100000 in
set_option maxHeartbeats 4000000 in
theorem E_X3_same (g : Ev) (d : Nat) (x1 : Int32) (x2 : Int32) (σ : St) (K : Option Value → St → Prop) (h : Runs g 45 59 d M_X3_isRegister [.ref (eA g 45), .int x1] σ (fun r1 σ1 => ∃ v1 : Int32, r1 = some (.int v1) ∧ ((v1 = nI 0 → K (some (.int (-2))) σ1) ∧ (¬ v1 = nI 0 → Runs g 45 59 d M_X3_isRegister [.ref (eA g 45), .int x2] σ1 (fun r2 σ2 => ∃ v2 : Int32, r2 = some (.int v2) ∧ ((¬ v2 = nI 0 → WP g 45 59 (d + 1) M_X3_same 21 [(0, .ref (eA g 45)), (1, .int x1), (2, .int x2), (3, .int (nI 0))] [] σ2 K) ∧ (v2 = nI 0 → K (some (.int (-2))) σ2))))))) : Runs g 45 59 (d + 1) M_X3_same [.ref (eA g 45), .int x1, .int x2] σ K := by
  refine Runs.of (by decide) (Nat.le_of_ble_eq_true rfl) ?_
  show WP g 45 59 (d + 1) M_X3_same 0 [(0, .ref (eA g 45)), (1, .int x1), (2, .int x2)] [] σ K
  refine wp_aload_n 0 dX3_same_0 rfl rfl ?_
  refine wp_iload_n 1 dX3_same_1 rfl rfl ?_
  refine wp_callV [.int x1] [] 45 2 (by decide) (by decide) rfl rfl wc_X3_isRegister wm_X3_92 ws_X3_isRegister we_X3_isRegister wi_X3 ok_X3_isRegister (by decide) (Nat.le_of_ble_eq_true rfl) dX3_same_2 rfl h ?_
  rintro r1 σ1 ⟨v1, rfl, h⟩
  show WP g 45 59 (d + 1) M_X3_same 5 [(0, .ref (eA g 45)), (1, .int x1), (2, .int x2)] [.int v1] σ1 K
  refine wp_if_eq 16 dX3_same_5 (by decide) (fun c => ?_) (fun c => ?_)
  · replace h := h.1 c
    refine wp_bipush (-2) dX3_same_16 (by decide) ?_
    exact wp_iret rfl dX3_same_18 h
  · replace h := h.2 c
    refine wp_aload_n 0 dX3_same_8 rfl rfl ?_
    refine wp_iload_n 2 dX3_same_9 rfl rfl ?_
    refine wp_callV [.int x2] [] 45 2 (by decide) (by decide) rfl rfl wc_X3_isRegister wm_X3_92 ws_X3_isRegister we_X3_isRegister wi_X3 ok_X3_isRegister (by decide) (Nat.le_of_ble_eq_true rfl) dX3_same_10 rfl h ?_
    rintro r2 σ2 ⟨v2, rfl, h⟩
    show WP g 45 59 (d + 1) M_X3_same 13 [(0, .ref (eA g 45)), (1, .int x1), (2, .int x2)] [.int v2] σ2 K
    refine wp_if_ne 19 dX3_same_13 (by decide) (fun c => ?_) (fun c => ?_)
    · replace h := h.1 c
      refine wp_iconst (nI 0) dX3_same_19 (by decide) ?_
      refine wp_istore_n (lv' := [(3, .int (nI 0)), (0, .ref (eA g 45)), (1, .int x1), (2, .int x2)]) dX3_same_20 rfl (by decide) rfl ?_
      exact wp_sub [1, 2, 3, 0] rfl h
    · replace h := h.2 c
      refine wp_bipush (-2) dX3_same_16 (by decide) ?_
      exact wp_iret rfl dX3_same_18 h
set_option maxRecDepth 100000 in
set_option maxHeartbeats 4000000 in
theorem R_X3_same_21 (g : Ev) (d : Nat) (x1 : Int32) (x2 : Int32) (x3 : Int32) (σ : St) (K : Option Value → St → Prop) (h : (((sV σ 9) ≤ x3 → K (some (.int (nI 1))) σ) ∧ (¬ (sV σ 9) ≤ x3 → Runs g 45 59 d M_X3_get [.ref (eA g 45), .int x1, .int x3] σ (fun r1 σ1 => ∃ v1 : Int32, r1 = some (.int v1) ∧ Runs g 45 59 d M_X3_get [.ref (eA g 45), .int x2, .int x3] σ1 (fun r2 σ2 => ∃ v2 : Int32, r2 = some (.int v2) ∧ ((v1 = v2 → WP g 45 59 (d + 1) M_X3_same 21 [(0, .ref (eA g 45)), (1, .int x1), (2, .int x2), (3, .int (x3 + (nI 1)))] [] σ2 K) ∧ (¬ v1 = v2 → K (some (.int (nI 0))) σ2))))))) : WP g 45 59 (d + 1) M_X3_same 21 [(0, .ref (eA g 45)), (1, .int x1), (2, .int x2), (3, .int x3)] [] σ K := by
  refine wp_iload_n 3 dX3_same_21 rfl rfl ?_
  refine wp_aload_n 0 dX3_same_22 rfl rfl ?_
  refine wp_get 45 2 1 (by decide) (by decide) rfl rfl inG3 (by decide) wf_X3_59 rfl dX3_same_23 ?_
  refine wp_icmp_ge 52 dX3_same_26 (by decide) (fun c => ?_) (fun c => ?_)
  · replace h := h.1 c
    refine wp_iconst (nI 1) dX3_same_52 (by decide) ?_
    exact wp_iret rfl dX3_same_53 h
  · replace h := h.2 c
    refine wp_aload_n 0 dX3_same_29 rfl rfl ?_
    refine wp_iload_n 1 dX3_same_30 rfl rfl ?_
    refine wp_iload_n 3 dX3_same_31 rfl rfl ?_
    refine wp_callV [.int x1, .int x3] [] 45 2 (by decide) (by decide) rfl rfl wc_X3_get wm_X3_81 ws_X3_get we_X3_get wi_X3 ok_X3_get (by decide) (Nat.le_of_ble_eq_true rfl) dX3_same_32 rfl h ?_
    rintro r1 σ1 ⟨v1, rfl, h⟩
    show WP g 45 59 (d + 1) M_X3_same 35 [(0, .ref (eA g 45)), (1, .int x1), (2, .int x2), (3, .int x3)] [.int v1] σ1 K
    refine wp_aload_n 0 dX3_same_35 rfl rfl ?_
    refine wp_iload_n 2 dX3_same_36 rfl rfl ?_
    refine wp_iload_n 3 dX3_same_37 rfl rfl ?_
    refine wp_callV [.int x2, .int x3] [.int v1] 45 2 (by decide) (by decide) rfl rfl wc_X3_get wm_X3_81 ws_X3_get we_X3_get wi_X3 ok_X3_get (by decide) (Nat.le_of_ble_eq_true rfl) dX3_same_38 rfl h ?_
    rintro r2 σ2 ⟨v2, rfl, h⟩
    show WP g 45 59 (d + 1) M_X3_same 41 [(0, .ref (eA g 45)), (1, .int x1), (2, .int x2), (3, .int x3)] [.int v2, .int v1] σ2 K
    refine wp_icmp_eq 46 dX3_same_41 (by decide) (fun c => ?_) (fun c => ?_)
    · replace h := h.1 c
      refine wp_iinc 3 (nI 1) (lv' := [(3, .int (x3 + (nI 1))), (0, .ref (eA g 45)), (1, .int x1), (2, .int x2)]) dX3_same_46 (by decide) rfl (by decide) rfl ?_
      refine wp_goto 21 dX3_same_49 (by decide) ?_
      exact wp_sub [1, 2, 3, 0] rfl h
    · replace h := h.2 c
      refine wp_iconst (nI 0) dX3_same_44 (by decide) ?_
      exact wp_iret rfl dX3_same_45 h
set_option maxRecDepth 100000 in
set_option maxHeartbeats 4000000 in
theorem E_X3_tells (g : Ev) (d : Nat) (x1 : Int32) (x2 : Int32) (σ : St) (K : Option Value → St → Prop) (h : Runs g 45 59 d M_X3_isRegister [.ref (eA g 45), .int x1] σ (fun r1 σ1 => ∃ v1 : Int32, r1 = some (.int v1) ∧ ((v1 = nI 0 → K (some (.int (-2))) σ1) ∧ (¬ v1 = nI 0 → ((x2 < nI 0 → K (some (.int (-2))) σ1) ∧ (¬ x2 < nI 0 → ((x2 < (sV σ1 9) → Runs g 45 59 d M_X3_get [.ref (eA g 45), .int x1, .int x2] σ1 (fun r2 σ2 => ∃ v2 : Int32, r2 = some (.int v2) ∧ ((v2 = nI 0 → K (some (.int (nI 0))) σ2) ∧ (¬ v2 = nI 0 → K (some (.int (nI 1))) σ2)))) ∧ (¬ x2 < (sV σ1 9) → K (some (.int (-2))) σ1)))))))) : Runs g 45 59 (d + 1) M_X3_tells [.ref (eA g 45), .int x1, .int x2] σ K := by
  refine Runs.of (by decide) (Nat.le_of_ble_eq_true rfl) ?_
  show WP g 45 59 (d + 1) M_X3_tells 0 [(0, .ref (eA g 45)), (1, .int x1), (2, .int x2)] [] σ K
  refine wp_aload_n 0 dX3_tells_0 rfl rfl ?_
  refine wp_iload_n 1 dX3_tells_1 rfl rfl ?_
  refine wp_callV [.int x1] [] 45 2 (by decide) (by decide) rfl rfl wc_X3_isRegister wm_X3_92 ws_X3_isRegister we_X3_isRegister wi_X3 ok_X3_isRegister (by decide) (Nat.le_of_ble_eq_true rfl) dX3_tells_2 rfl h ?_
  rintro r1 σ1 ⟨v1, rfl, h⟩
  show WP g 45 59 (d + 1) M_X3_tells 5 [(0, .ref (eA g 45)), (1, .int x1), (2, .int x2)] [.int v1] σ1 K
  refine wp_if_eq 20 dX3_tells_5 (by decide) (fun c => ?_) (fun c => ?_)
  · replace h := h.1 c
    refine wp_bipush (-2) dX3_tells_20 (by decide) ?_
    refine wp_goto 39 dX3_tells_22 (by decide) ?_
    exact wp_iret rfl dX3_tells_39 h
  · replace h := h.2 c
    refine wp_iload_n 2 dX3_tells_8 rfl rfl ?_
    refine wp_if_lt 20 dX3_tells_9 (by decide) (fun c => ?_) (fun c => ?_)
    · replace h := h.1 c
      refine wp_bipush (-2) dX3_tells_20 (by decide) ?_
      refine wp_goto 39 dX3_tells_22 (by decide) ?_
      exact wp_iret rfl dX3_tells_39 h
    · replace h := h.2 c
      refine wp_iload_n 2 dX3_tells_12 rfl rfl ?_
      refine wp_aload_n 0 dX3_tells_13 rfl rfl ?_
      refine wp_get 45 2 1 (by decide) (by decide) rfl rfl inG3 (by decide) wf_X3_59 rfl dX3_tells_14 ?_
      refine wp_icmp_lt 25 dX3_tells_17 (by decide) (fun c => ?_) (fun c => ?_)
      · replace h := h.1 c
        refine wp_aload_n 0 dX3_tells_25 rfl rfl ?_
        refine wp_iload_n 1 dX3_tells_26 rfl rfl ?_
        refine wp_iload_n 2 dX3_tells_27 rfl rfl ?_
        refine wp_callV [.int x1, .int x2] [] 45 2 (by decide) (by decide) rfl rfl wc_X3_get wm_X3_81 ws_X3_get we_X3_get wi_X3 ok_X3_get (by decide) (Nat.le_of_ble_eq_true rfl) dX3_tells_28 rfl h ?_
        rintro r2 σ2 ⟨v2, rfl, h⟩
        show WP g 45 59 (d + 1) M_X3_tells 31 [(0, .ref (eA g 45)), (1, .int x1), (2, .int x2)] [.int v2] σ2 K
        refine wp_if_eq 38 dX3_tells_31 (by decide) (fun c => ?_) (fun c => ?_)
        · replace h := h.1 c
          refine wp_iconst (nI 0) dX3_tells_38 (by decide) ?_
          exact wp_iret rfl dX3_tells_39 h
        · replace h := h.2 c
          refine wp_iconst (nI 1) dX3_tells_34 (by decide) ?_
          refine wp_goto 39 dX3_tells_35 (by decide) ?_
          exact wp_iret rfl dX3_tells_39 h
      · replace h := h.2 c
        refine wp_bipush (-2) dX3_tells_20 (by decide) ?_
        refine wp_goto 39 dX3_tells_22 (by decide) ?_
        exact wp_iret rfl dX3_tells_39 h
set_option maxRecDepth 100000 in
set_option maxHeartbeats 4000000 in
theorem E_X3_many (g : Ev) (d : Nat) (x1 : Int32) (σ : St) (K : Option Value → St → Prop) (h : Runs g 45 59 d M_X3_isRegister [.ref (eA g 45), .int x1] σ (fun r1 σ1 => ∃ v1 : Int32, r1 = some (.int v1) ∧ ((v1 = nI 0 → K (some (.int (-2))) σ1) ∧ (¬ v1 = nI 0 → Runs g 45 59 d M_X3_manyOf [.ref (eA g 45), .int x1] σ1 (fun r2 σ2 => ∃ v2 : Int32, r2 = some (.int v2) ∧ K (some (.int v2)) σ2))))) : Runs g 45 59 (d + 1) M_X3_many [.ref (eA g 45), .int x1] σ K := by
  refine Runs.of (by decide) (Nat.le_of_ble_eq_true rfl) ?_
  show WP g 45 59 (d + 1) M_X3_many 0 [(0, .ref (eA g 45)), (1, .int x1)] [] σ K
  refine wp_aload_n 0 dX3_many_0 rfl rfl ?_
  refine wp_iload_n 1 dX3_many_1 rfl rfl ?_
  refine wp_callV [.int x1] [] 45 2 (by decide) (by decide) rfl rfl wc_X3_isRegister wm_X3_92 ws_X3_isRegister we_X3_isRegister wi_X3 ok_X3_isRegister (by decide) (Nat.le_of_ble_eq_true rfl) dX3_many_2 rfl h ?_
  rintro r1 σ1 ⟨v1, rfl, h⟩
  show WP g 45 59 (d + 1) M_X3_many 5 [(0, .ref (eA g 45)), (1, .int x1)] [.int v1] σ1 K
  refine wp_if_eq 16 dX3_many_5 (by decide) (fun c => ?_) (fun c => ?_)
  · replace h := h.1 c
    refine wp_bipush (-2) dX3_many_16 (by decide) ?_
    exact wp_iret rfl dX3_many_18 h
  · replace h := h.2 c
    refine wp_aload_n 0 dX3_many_8 rfl rfl ?_
    refine wp_iload_n 1 dX3_many_9 rfl rfl ?_
    refine wp_callV [.int x1] [] 45 2 (by decide) (by decide) rfl rfl wc_X3_manyOf wm_X3_111 ws_X3_manyOf we_X3_manyOf wi_X3 ok_X3_manyOf (by decide) (Nat.le_of_ble_eq_true rfl) dX3_many_10 rfl h ?_
    rintro r2 σ2 ⟨v2, rfl, h⟩
    show WP g 45 59 (d + 1) M_X3_many 13 [(0, .ref (eA g 45)), (1, .int x1)] [.int v2] σ2 K
    refine wp_goto 18 dX3_many_13 (by decide) ?_
    exact wp_iret rfl dX3_many_18 h
set_option maxRecDepth 100000 in
set_option maxHeartbeats 4000000 in
theorem E_X3_pick (g : Ev) (d : Nat) (x1 : Int32) (x2 : Int32) (σ : St) (K : Option Value → St → Prop) (h : Runs g 45 59 d M_X3_isRegister [.ref (eA g 45), .int x1] σ (fun r1 σ1 => ∃ v1 : Int32, r1 = some (.int v1) ∧ ((¬ v1 = nI 0 → WP g 45 59 (d + 1) M_X3_pick 16 [(0, .ref (eA g 45)), (1, .int x1), (2, .int x2), (3, .int (nI 0)), (4, .int (nI 0))] [] σ1 K) ∧ (v1 = nI 0 → K (some (.int (-2))) σ1)))) : Runs g 45 59 (d + 1) M_X3_pick [.ref (eA g 45), .int x1, .int x2] σ K := by
  refine Runs.of (by decide) (Nat.le_of_ble_eq_true rfl) ?_
  show WP g 45 59 (d + 1) M_X3_pick 0 [(0, .ref (eA g 45)), (1, .int x1), (2, .int x2)] [] σ K
  refine wp_aload_n 0 dX3_pick_0 rfl rfl ?_
  refine wp_iload_n 1 dX3_pick_1 rfl rfl ?_
  refine wp_callV [.int x1] [] 45 2 (by decide) (by decide) rfl rfl wc_X3_isRegister wm_X3_92 ws_X3_isRegister we_X3_isRegister wi_X3 ok_X3_isRegister (by decide) (Nat.le_of_ble_eq_true rfl) dX3_pick_2 rfl h ?_
  rintro r1 σ1 ⟨v1, rfl, h⟩
  show WP g 45 59 (d + 1) M_X3_pick 5 [(0, .ref (eA g 45)), (1, .int x1), (2, .int x2)] [.int v1] σ1 K
  refine wp_if_ne 11 dX3_pick_5 (by decide) (fun c => ?_) (fun c => ?_)
  · replace h := h.1 c
    refine wp_iconst (nI 0) dX3_pick_11 (by decide) ?_
    refine wp_istore_n (lv' := [(3, .int (nI 0)), (0, .ref (eA g 45)), (1, .int x1), (2, .int x2)]) dX3_pick_12 rfl (by decide) rfl ?_
    refine wp_iconst (nI 0) dX3_pick_13 (by decide) ?_
    refine wp_istore (lv' := [(4, .int (nI 0)), (3, .int (nI 0)), (0, .ref (eA g 45)), (1, .int x1), (2, .int x2)]) dX3_pick_14 (by decide) rfl ?_
    exact wp_sub [2, 3, 4, 1, 0] rfl h
  · replace h := h.2 c
    refine wp_bipush (-2) dX3_pick_8 (by decide) ?_
    exact wp_iret rfl dX3_pick_10 h
set_option maxRecDepth 100000 in
set_option maxHeartbeats 4000000 in
theorem R_X3_pick_16 (g : Ev) (d : Nat) (x1 : Int32) (x2 : Int32) (x3 : Int32) (x4 : Int32) (σ : St) (K : Option Value → St → Prop) (h : (((sV σ 9) ≤ x4 → K (some (.int (-1))) σ) ∧ (¬ (sV σ 9) ≤ x4 → Runs g 45 59 d M_X3_get [.ref (eA g 45), .int x1, .int x4] σ (fun r1 σ1 => ∃ v1 : Int32, r1 = some (.int v1) ∧ ((¬ v1 = nI 0 → ((¬ x3 = x2 → WP g 45 59 (d + 1) M_X3_pick 16 [(0, .ref (eA g 45)), (1, .int x1), (2, .int x2), (3, .int (x3 + (nI 1))), (4, .int (x4 + (nI 1)))] [] σ1 K) ∧ (x3 = x2 → K (some (.int x4)) σ1))) ∧ (v1 = nI 0 → WP g 45 59 (d + 1) M_X3_pick 16 [(0, .ref (eA g 45)), (1, .int x1), (2, .int x2), (3, .int x3), (4, .int (x4 + (nI 1)))] [] σ1 K)))))) : WP g 45 59 (d + 1) M_X3_pick 16 [(0, .ref (eA g 45)), (1, .int x1), (2, .int x2), (3, .int x3), (4, .int x4)] [] σ K := by
  refine wp_iload 4 dX3_pick_16 rfl ?_
  refine wp_aload_n 0 dX3_pick_18 rfl rfl ?_
  refine wp_get 45 2 1 (by decide) (by decide) rfl rfl inG3 (by decide) wf_X3_59 rfl dX3_pick_19 ?_
  refine wp_icmp_ge 55 dX3_pick_22 (by decide) (fun c => ?_) (fun c => ?_)
  · replace h := h.1 c
    refine wp_iconst (-1) dX3_pick_55 (by decide) ?_
    exact wp_iret rfl dX3_pick_56 h
  · replace h := h.2 c
    refine wp_aload_n 0 dX3_pick_25 rfl rfl ?_
    refine wp_iload_n 1 dX3_pick_26 rfl rfl ?_
    refine wp_iload 4 dX3_pick_27 rfl ?_
    refine wp_callV [.int x1, .int x4] [] 45 2 (by decide) (by decide) rfl rfl wc_X3_get wm_X3_81 ws_X3_get we_X3_get wi_X3 ok_X3_get (by decide) (Nat.le_of_ble_eq_true rfl) dX3_pick_29 rfl h ?_
    rintro r1 σ1 ⟨v1, rfl, h⟩
    show WP g 45 59 (d + 1) M_X3_pick 32 [(0, .ref (eA g 45)), (1, .int x1), (2, .int x2), (3, .int x3), (4, .int x4)] [.int v1] σ1 K
    refine wp_if_ne 38 dX3_pick_32 (by decide) (fun c => ?_) (fun c => ?_)
    · replace h := h.1 c
      refine wp_iload_n 3 dX3_pick_38 rfl rfl ?_
      refine wp_iload_n 2 dX3_pick_39 rfl rfl ?_
      refine wp_icmp_ne 46 dX3_pick_40 (by decide) (fun c => ?_) (fun c => ?_)
      · replace h := h.1 c
        refine wp_iinc 3 (nI 1) (lv' := [(3, .int (x3 + (nI 1))), (0, .ref (eA g 45)), (1, .int x1), (2, .int x2), (4, .int x4)]) dX3_pick_46 (by decide) rfl (by decide) rfl ?_
        refine wp_iinc 4 (nI 1) (lv' := [(4, .int (x4 + (nI 1))), (3, .int (x3 + (nI 1))), (0, .ref (eA g 45)), (1, .int x1), (2, .int x2)]) dX3_pick_49 (by decide) rfl (by decide) rfl ?_
        refine wp_goto 16 dX3_pick_52 (by decide) ?_
        exact wp_sub [2, 3, 4, 1, 0] rfl h
      · replace h := h.2 c
        refine wp_iload 4 dX3_pick_43 rfl ?_
        exact wp_iret rfl dX3_pick_45 h
    · replace h := h.2 c
      refine wp_goto 49 dX3_pick_35 (by decide) ?_
      refine wp_iinc 4 (nI 1) (lv' := [(4, .int (x4 + (nI 1))), (0, .ref (eA g 45)), (1, .int x1), (2, .int x2), (3, .int x3)]) dX3_pick_49 (by decide) rfl (by decide) rfl ?_
      refine wp_goto 16 dX3_pick_52 (by decide) ?_
      exact wp_sub [1, 2, 3, 4, 0] rfl h
set_option maxRecDepth 100000 in
set_option maxHeartbeats 4000000 in
theorem E_X3_costOf (g : Ev) (d : Nat) (x1 : Int32) (σ : St) (K : Option Value → St → Prop) (h : WP g 45 59 (d + 1) M_X3_costOf 4 [(0, .ref (eA g 45)), (1, .int x1), (2, .int (nI 0)), (3, .int (nI 0))] [] σ K) : Runs g 45 59 (d + 1) M_X3_costOf [.ref (eA g 45), .int x1] σ K := by
  refine Runs.of (by decide) (Nat.le_of_ble_eq_true rfl) ?_
  show WP g 45 59 (d + 1) M_X3_costOf 0 [(0, .ref (eA g 45)), (1, .int x1)] [] σ K
  refine wp_iconst (nI 0) dX3_costOf_0 (by decide) ?_
  refine wp_istore_n (lv' := [(2, .int (nI 0)), (0, .ref (eA g 45)), (1, .int x1)]) dX3_costOf_1 rfl (by decide) rfl ?_
  refine wp_iconst (nI 0) dX3_costOf_2 (by decide) ?_
  refine wp_istore_n (lv' := [(3, .int (nI 0)), (2, .int (nI 0)), (0, .ref (eA g 45)), (1, .int x1)]) dX3_costOf_3 rfl (by decide) rfl ?_
  exact wp_sub [2, 3, 1, 0] rfl h
set_option maxRecDepth 100000 in
set_option maxHeartbeats 4000000 in
theorem R_X3_costOf_4 (g : Ev) (d : Nat) (x1 : Int32) (x2 : Int32) (x3 : Int32) (σ : St) (K : Option Value → St → Prop) (h : (((sV σ 8) ≤ x3 → K (some (.int x2)) σ) ∧ (¬ (sV σ 8) ≤ x3 → ((¬ ((jshr x1 x3) &&& (nI 1)) = (nI 1) → WP g 45 59 (d + 1) M_X3_costOf 4 [(0, .ref (eA g 45)), (1, .int x1), (2, .int (x2 + (nI 0))), (3, .int (x3 + (nI 1)))] [] σ K) ∧ (((jshr x1 x3) &&& (nI 1)) = (nI 1) → vp_in x3 (lenI 49) ∧ WP g 45 59 (d + 1) M_X3_costOf 4 [(0, .ref (eA g 45)), (1, .int x1), (2, .int (x2 + (sI σ 49 x3.toNatClampNeg))), (3, .int (x3 + (nI 1)))] [] σ K))))) : WP g 45 59 (d + 1) M_X3_costOf 4 [(0, .ref (eA g 45)), (1, .int x1), (2, .int x2), (3, .int x3)] [] σ K := by
  refine wp_iload_n 3 dX3_costOf_4 rfl rfl ?_
  refine wp_aload_n 0 dX3_costOf_5 rfl rfl ?_
  refine wp_get 45 2 0 (by decide) (by decide) rfl rfl inG3 (by decide) wf_X3_55 rfl dX3_costOf_6 ?_
  refine wp_icmp_ge 40 dX3_costOf_9 (by decide) (fun c => ?_) (fun c => ?_)
  · replace h := h.1 c
    refine wp_iload_n 2 dX3_costOf_40 rfl rfl ?_
    exact wp_iret rfl dX3_costOf_41 h
  · replace h := h.2 c
    refine wp_iload_n 2 dX3_costOf_12 rfl rfl ?_
    refine wp_iload_n 1 dX3_costOf_13 rfl rfl ?_
    refine wp_iload_n 3 dX3_costOf_14 rfl rfl ?_
    refine wp_ishr dX3_costOf_15 ?_
    refine wp_iconst (nI 1) dX3_costOf_16 (by decide) ?_
    refine wp_iand dX3_costOf_17 ?_
    refine wp_iconst (nI 1) dX3_costOf_18 (by decide) ?_
    refine wp_icmp_ne 31 dX3_costOf_19 (by decide) (fun c => ?_) (fun c => ?_)
    · replace h := h.1 c
      refine wp_iconst (nI 0) dX3_costOf_31 (by decide) ?_
      refine wp_iadd dX3_costOf_32 ?_
      refine wp_istore_n (lv' := [(2, .int (x2 + (nI 0))), (0, .ref (eA g 45)), (1, .int x1), (3, .int x3)]) dX3_costOf_33 rfl (by decide) rfl ?_
      refine wp_iinc 3 (nI 1) (lv' := [(3, .int (x3 + (nI 1))), (2, .int (x2 + (nI 0))), (0, .ref (eA g 45)), (1, .int x1)]) dX3_costOf_34 (by decide) rfl (by decide) rfl ?_
      refine wp_goto 4 dX3_costOf_37 (by decide) ?_
      exact wp_sub [2, 3, 1, 0] rfl h
    · replace h := h.2 c
      refine wp_aload_n 0 dX3_costOf_22 rfl rfl ?_
      refine wp_get 45 2 6 (by decide) (by decide) rfl rfl inG3 (by decide) wf_X3_20 rfl dX3_costOf_23 ?_
      refine wp_iload_n 3 dX3_costOf_26 rfl rfl ?_
      refine wp_iald (by decide) (by decide) dX3_costOf_27 h.1 ?_
      replace h := h.2
      refine wp_goto 32 dX3_costOf_28 (by decide) ?_
      refine wp_iadd dX3_costOf_32 ?_
      refine wp_istore_n (lv' := [(2, .int (x2 + (sI σ 49 x3.toNatClampNeg))), (0, .ref (eA g 45)), (1, .int x1), (3, .int x3)]) dX3_costOf_33 rfl (by decide) rfl ?_
      refine wp_iinc 3 (nI 1) (lv' := [(3, .int (x3 + (nI 1))), (2, .int (x2 + (sI σ 49 x3.toNatClampNeg))), (0, .ref (eA g 45)), (1, .int x1)]) dX3_costOf_34 (by decide) rfl (by decide) rfl ?_
      refine wp_goto 4 dX3_costOf_37 (by decide) ?_
      exact wp_sub [2, 3, 1, 0] rfl h
set_option maxRecDepth 100000 in
set_option maxHeartbeats 4000000 in
theorem E_X3_cheapest (g : Ev) (d : Nat) (x1 : Int32) (σ : St) (K : Option Value → St → Prop) (h : Runs g 45 59 d M_X3_isRegister [.ref (eA g 45), .int x1] σ (fun r1 σ1 => ∃ v1 : Int32, r1 = some (.int v1) ∧ ((¬ v1 = nI 0 → WP g 45 59 (d + 1) M_X3_cheapest 15 [(0, .ref (eA g 45)), (1, .int x1), (2, .int (-1)), (3, .int (nI 0))] [] σ1 K) ∧ (v1 = nI 0 → K (some (.int (-2))) σ1)))) : Runs g 45 59 (d + 1) M_X3_cheapest [.ref (eA g 45), .int x1] σ K := by
  refine Runs.of (by decide) (Nat.le_of_ble_eq_true rfl) ?_
  show WP g 45 59 (d + 1) M_X3_cheapest 0 [(0, .ref (eA g 45)), (1, .int x1)] [] σ K
  refine wp_aload_n 0 dX3_cheapest_0 rfl rfl ?_
  refine wp_iload_n 1 dX3_cheapest_1 rfl rfl ?_
  refine wp_callV [.int x1] [] 45 2 (by decide) (by decide) rfl rfl wc_X3_isRegister wm_X3_92 ws_X3_isRegister we_X3_isRegister wi_X3 ok_X3_isRegister (by decide) (Nat.le_of_ble_eq_true rfl) dX3_cheapest_2 rfl h ?_
  rintro r1 σ1 ⟨v1, rfl, h⟩
  show WP g 45 59 (d + 1) M_X3_cheapest 5 [(0, .ref (eA g 45)), (1, .int x1)] [.int v1] σ1 K
  refine wp_if_ne 11 dX3_cheapest_5 (by decide) (fun c => ?_) (fun c => ?_)
  · replace h := h.1 c
    refine wp_iconst (-1) dX3_cheapest_11 (by decide) ?_
    refine wp_istore_n (lv' := [(2, .int (-1)), (0, .ref (eA g 45)), (1, .int x1)]) dX3_cheapest_12 rfl (by decide) rfl ?_
    refine wp_iconst (nI 0) dX3_cheapest_13 (by decide) ?_
    refine wp_istore_n (lv' := [(3, .int (nI 0)), (2, .int (-1)), (0, .ref (eA g 45)), (1, .int x1)]) dX3_cheapest_14 rfl (by decide) rfl ?_
    exact wp_sub [2, 3, 1, 0] rfl h
  · replace h := h.2 c
    refine wp_bipush (-2) dX3_cheapest_8 (by decide) ?_
    exact wp_iret rfl dX3_cheapest_10 h
set_option maxRecDepth 100000 in
set_option maxHeartbeats 4000000 in
theorem R_X3_cheapest_15 (g : Ev) (d : Nat) (x1 : Int32) (x2 : Int32) (x3 : Int32) (σ : St) (K : Option Value → St → Prop) (h : (((sV σ 9) ≤ x3 → K (some (.int x2)) σ) ∧ (¬ (sV σ 9) ≤ x3 → Runs g 45 59 d M_X3_get [.ref (eA g 45), .int x1, .int x3] σ (fun r1 σ1 => ∃ v1 : Int32, r1 = some (.int v1) ∧ ((v1 = nI 0 → WP g 45 59 (d + 1) M_X3_cheapest 15 [(0, .ref (eA g 45)), (1, .int x1), (2, .int x2), (3, .int (x3 + (nI 1)))] [] σ1 K) ∧ (¬ v1 = nI 0 → ((x2 = (-1) → WP g 45 59 (d + 1) M_X3_cheapest 15 [(0, .ref (eA g 45)), (1, .int x1), (2, .int x3), (3, .int (x3 + (nI 1)))] [] σ1 K) ∧ (¬ x2 = (-1) → Runs g 45 59 d M_X3_costOf [.ref (eA g 45), .int x3] σ1 (fun r2 σ2 => ∃ v2 : Int32, r2 = some (.int v2) ∧ Runs g 45 59 d M_X3_costOf [.ref (eA g 45), .int x2] σ2 (fun r3 σ3 => ∃ v3 : Int32, r3 = some (.int v3) ∧ ((v3 ≤ v2 → WP g 45 59 (d + 1) M_X3_cheapest 15 [(0, .ref (eA g 45)), (1, .int x1), (2, .int x2), (3, .int (x3 + (nI 1)))] [] σ3 K) ∧ (¬ v3 ≤ v2 → WP g 45 59 (d + 1) M_X3_cheapest 15 [(0, .ref (eA g 45)), (1, .int x1), (2, .int x3), (3, .int (x3 + (nI 1)))] [] σ3 K)))))))))))) : WP g 45 59 (d + 1) M_X3_cheapest 15 [(0, .ref (eA g 45)), (1, .int x1), (2, .int x2), (3, .int x3)] [] σ K := by
  refine wp_iload_n 3 dX3_cheapest_15 rfl rfl ?_
  refine wp_aload_n 0 dX3_cheapest_16 rfl rfl ?_
  refine wp_get 45 2 1 (by decide) (by decide) rfl rfl inG3 (by decide) wf_X3_59 rfl dX3_cheapest_17 ?_
  refine wp_icmp_ge 58 dX3_cheapest_20 (by decide) (fun c => ?_) (fun c => ?_)
  · replace h := h.1 c
    refine wp_iload_n 2 dX3_cheapest_58 rfl rfl ?_
    exact wp_iret rfl dX3_cheapest_59 h
  · replace h := h.2 c
    refine wp_aload_n 0 dX3_cheapest_23 rfl rfl ?_
    refine wp_iload_n 1 dX3_cheapest_24 rfl rfl ?_
    refine wp_iload_n 3 dX3_cheapest_25 rfl rfl ?_
    refine wp_callV [.int x1, .int x3] [] 45 2 (by decide) (by decide) rfl rfl wc_X3_get wm_X3_81 ws_X3_get we_X3_get wi_X3 ok_X3_get (by decide) (Nat.le_of_ble_eq_true rfl) dX3_cheapest_26 rfl h ?_
    rintro r1 σ1 ⟨v1, rfl, h⟩
    show WP g 45 59 (d + 1) M_X3_cheapest 29 [(0, .ref (eA g 45)), (1, .int x1), (2, .int x2), (3, .int x3)] [.int v1] σ1 K
    refine wp_if_eq 52 dX3_cheapest_29 (by decide) (fun c => ?_) (fun c => ?_)
    · replace h := h.1 c
      refine wp_iinc 3 (nI 1) (lv' := [(3, .int (x3 + (nI 1))), (0, .ref (eA g 45)), (1, .int x1), (2, .int x2)]) dX3_cheapest_52 (by decide) rfl (by decide) rfl ?_
      refine wp_goto 15 dX3_cheapest_55 (by decide) ?_
      exact wp_sub [1, 2, 3, 0] rfl h
    · replace h := h.2 c
      refine wp_iload_n 2 dX3_cheapest_32 rfl rfl ?_
      refine wp_iconst (-1) dX3_cheapest_33 (by decide) ?_
      refine wp_icmp_eq 50 dX3_cheapest_34 (by decide) (fun c => ?_) (fun c => ?_)
      · replace h := h.1 c
        refine wp_iload_n 3 dX3_cheapest_50 rfl rfl ?_
        refine wp_istore_n (lv' := [(2, .int x3), (0, .ref (eA g 45)), (1, .int x1), (3, .int x3)]) dX3_cheapest_51 rfl (by decide) rfl ?_
        refine wp_iinc 3 (nI 1) (lv' := [(3, .int (x3 + (nI 1))), (2, .int x3), (0, .ref (eA g 45)), (1, .int x1)]) dX3_cheapest_52 (by decide) rfl (by decide) rfl ?_
        refine wp_goto 15 dX3_cheapest_55 (by decide) ?_
        exact wp_sub [2, 3, 1, 0] rfl h
      · replace h := h.2 c
        refine wp_aload_n 0 dX3_cheapest_37 rfl rfl ?_
        refine wp_iload_n 3 dX3_cheapest_38 rfl rfl ?_
        refine wp_callV [.int x3] [] 45 2 (by decide) (by decide) rfl rfl wc_X3_costOf wm_X3_126 ws_X3_costOf we_X3_costOf wi_X3 ok_X3_costOf (by decide) (Nat.le_of_ble_eq_true rfl) dX3_cheapest_39 rfl h ?_
        rintro r2 σ2 ⟨v2, rfl, h⟩
        show WP g 45 59 (d + 1) M_X3_cheapest 42 [(0, .ref (eA g 45)), (1, .int x1), (2, .int x2), (3, .int x3)] [.int v2] σ2 K
        refine wp_aload_n 0 dX3_cheapest_42 rfl rfl ?_
        refine wp_iload_n 2 dX3_cheapest_43 rfl rfl ?_
        refine wp_callV [.int x2] [.int v2] 45 2 (by decide) (by decide) rfl rfl wc_X3_costOf wm_X3_126 ws_X3_costOf we_X3_costOf wi_X3 ok_X3_costOf (by decide) (Nat.le_of_ble_eq_true rfl) dX3_cheapest_44 rfl h ?_
        rintro r3 σ3 ⟨v3, rfl, h⟩
        show WP g 45 59 (d + 1) M_X3_cheapest 47 [(0, .ref (eA g 45)), (1, .int x1), (2, .int x2), (3, .int x3)] [.int v3, .int v2] σ3 K
        refine wp_icmp_ge 52 dX3_cheapest_47 (by decide) (fun c => ?_) (fun c => ?_)
        · replace h := h.1 c
          refine wp_iinc 3 (nI 1) (lv' := [(3, .int (x3 + (nI 1))), (0, .ref (eA g 45)), (1, .int x1), (2, .int x2)]) dX3_cheapest_52 (by decide) rfl (by decide) rfl ?_
          refine wp_goto 15 dX3_cheapest_55 (by decide) ?_
          exact wp_sub [1, 2, 3, 0] rfl h
        · replace h := h.2 c
          refine wp_iload_n 3 dX3_cheapest_50 rfl rfl ?_
          refine wp_istore_n (lv' := [(2, .int x3), (0, .ref (eA g 45)), (1, .int x1), (3, .int x3)]) dX3_cheapest_51 rfl (by decide) rfl ?_
          refine wp_iinc 3 (nI 1) (lv' := [(3, .int (x3 + (nI 1))), (2, .int x3), (0, .ref (eA g 45)), (1, .int x1)]) dX3_cheapest_52 (by decide) rfl (by decide) rfl ?_
          refine wp_goto 15 dX3_cheapest_55 (by decide) ?_
          exact wp_sub [2, 3, 1, 0] rfl h
set_option maxRecDepth 100000 in
set_option maxHeartbeats 4000000 in
theorem E_X3_dearest (g : Ev) (d : Nat) (x1 : Int32) (σ : St) (K : Option Value → St → Prop) (h : Runs g 45 59 d M_X3_isRegister [.ref (eA g 45), .int x1] σ (fun r1 σ1 => ∃ v1 : Int32, r1 = some (.int v1) ∧ ((¬ v1 = nI 0 → WP g 45 59 (d + 1) M_X3_dearest 15 [(0, .ref (eA g 45)), (1, .int x1), (2, .int (-1)), (3, .int (nI 0))] [] σ1 K) ∧ (v1 = nI 0 → K (some (.int (-2))) σ1)))) : Runs g 45 59 (d + 1) M_X3_dearest [.ref (eA g 45), .int x1] σ K := by
  refine Runs.of (by decide) (Nat.le_of_ble_eq_true rfl) ?_
  show WP g 45 59 (d + 1) M_X3_dearest 0 [(0, .ref (eA g 45)), (1, .int x1)] [] σ K
  refine wp_aload_n 0 dX3_dearest_0 rfl rfl ?_
  refine wp_iload_n 1 dX3_dearest_1 rfl rfl ?_
  refine wp_callV [.int x1] [] 45 2 (by decide) (by decide) rfl rfl wc_X3_isRegister wm_X3_92 ws_X3_isRegister we_X3_isRegister wi_X3 ok_X3_isRegister (by decide) (Nat.le_of_ble_eq_true rfl) dX3_dearest_2 rfl h ?_
  rintro r1 σ1 ⟨v1, rfl, h⟩
  show WP g 45 59 (d + 1) M_X3_dearest 5 [(0, .ref (eA g 45)), (1, .int x1)] [.int v1] σ1 K
  refine wp_if_ne 11 dX3_dearest_5 (by decide) (fun c => ?_) (fun c => ?_)
  · replace h := h.1 c
    refine wp_iconst (-1) dX3_dearest_11 (by decide) ?_
    refine wp_istore_n (lv' := [(2, .int (-1)), (0, .ref (eA g 45)), (1, .int x1)]) dX3_dearest_12 rfl (by decide) rfl ?_
    refine wp_iconst (nI 0) dX3_dearest_13 (by decide) ?_
    refine wp_istore_n (lv' := [(3, .int (nI 0)), (2, .int (-1)), (0, .ref (eA g 45)), (1, .int x1)]) dX3_dearest_14 rfl (by decide) rfl ?_
    exact wp_sub [2, 3, 1, 0] rfl h
  · replace h := h.2 c
    refine wp_bipush (-2) dX3_dearest_8 (by decide) ?_
    exact wp_iret rfl dX3_dearest_10 h
set_option maxRecDepth 100000 in
set_option maxHeartbeats 4000000 in
theorem R_X3_dearest_15 (g : Ev) (d : Nat) (x1 : Int32) (x2 : Int32) (x3 : Int32) (σ : St) (K : Option Value → St → Prop) (h : (((sV σ 9) ≤ x3 → K (some (.int x2)) σ) ∧ (¬ (sV σ 9) ≤ x3 → Runs g 45 59 d M_X3_get [.ref (eA g 45), .int x1, .int x3] σ (fun r1 σ1 => ∃ v1 : Int32, r1 = some (.int v1) ∧ ((v1 = nI 0 → WP g 45 59 (d + 1) M_X3_dearest 15 [(0, .ref (eA g 45)), (1, .int x1), (2, .int x2), (3, .int (x3 + (nI 1)))] [] σ1 K) ∧ (¬ v1 = nI 0 → Runs g 45 59 d M_X3_costOf [.ref (eA g 45), .int x3] σ1 (fun r2 σ2 => ∃ v2 : Int32, r2 = some (.int v2) ∧ WP g 45 59 (d + 1) M_X3_dearest 15 [(0, .ref (eA g 45)), (1, .int x1), (2, .int (if x2 < v2 then v2 else x2)), (3, .int (x3 + (nI 1)))] [] σ2 K))))))) : WP g 45 59 (d + 1) M_X3_dearest 15 [(0, .ref (eA g 45)), (1, .int x1), (2, .int x2), (3, .int x3)] [] σ K := by
  refine wp_iload_n 3 dX3_dearest_15 rfl rfl ?_
  refine wp_aload_n 0 dX3_dearest_16 rfl rfl ?_
  refine wp_get 45 2 1 (by decide) (by decide) rfl rfl inG3 (by decide) wf_X3_59 rfl dX3_dearest_17 ?_
  refine wp_icmp_ge 48 dX3_dearest_20 (by decide) (fun c => ?_) (fun c => ?_)
  · replace h := h.1 c
    refine wp_iload_n 2 dX3_dearest_48 rfl rfl ?_
    exact wp_iret rfl dX3_dearest_49 h
  · replace h := h.2 c
    refine wp_aload_n 0 dX3_dearest_23 rfl rfl ?_
    refine wp_iload_n 1 dX3_dearest_24 rfl rfl ?_
    refine wp_iload_n 3 dX3_dearest_25 rfl rfl ?_
    refine wp_callV [.int x1, .int x3] [] 45 2 (by decide) (by decide) rfl rfl wc_X3_get wm_X3_81 ws_X3_get we_X3_get wi_X3 ok_X3_get (by decide) (Nat.le_of_ble_eq_true rfl) dX3_dearest_26 rfl h ?_
    rintro r1 σ1 ⟨v1, rfl, h⟩
    show WP g 45 59 (d + 1) M_X3_dearest 29 [(0, .ref (eA g 45)), (1, .int x1), (2, .int x2), (3, .int x3)] [.int v1] σ1 K
    refine wp_if_eq 42 dX3_dearest_29 (by decide) (fun c => ?_) (fun c => ?_)
    · replace h := h.1 c
      refine wp_iinc 3 (nI 1) (lv' := [(3, .int (x3 + (nI 1))), (0, .ref (eA g 45)), (1, .int x1), (2, .int x2)]) dX3_dearest_42 (by decide) rfl (by decide) rfl ?_
      refine wp_goto 15 dX3_dearest_45 (by decide) ?_
      exact wp_sub [1, 2, 3, 0] rfl h
    · replace h := h.2 c
      refine wp_iload_n 2 dX3_dearest_32 rfl rfl ?_
      refine wp_aload_n 0 dX3_dearest_33 rfl rfl ?_
      refine wp_iload_n 3 dX3_dearest_34 rfl rfl ?_
      refine wp_callV [.int x3] [.int x2] 45 2 (by decide) (by decide) rfl rfl wc_X3_costOf wm_X3_126 ws_X3_costOf we_X3_costOf wi_X3 ok_X3_costOf (by decide) (Nat.le_of_ble_eq_true rfl) dX3_dearest_35 rfl h ?_
      rintro r2 σ2 ⟨v2, rfl, h⟩
      show WP g 45 59 (d + 1) M_X3_dearest 38 [(0, .ref (eA g 45)), (1, .int x1), (2, .int x2), (3, .int x3)] [.int v2, .int x2] σ2 K
      refine wp_mmax wm_X3_129 ws_Math_max wi_Math wc_Math_max (Nat.le_of_ble_eq_true rfl) dX3_dearest_38 ?_
      refine wp_istore_n (lv' := [(2, .int (if x2 < v2 then v2 else x2)), (0, .ref (eA g 45)), (1, .int x1), (3, .int x3)]) dX3_dearest_41 rfl (by decide) rfl ?_
      refine wp_iinc 3 (nI 1) (lv' := [(3, .int (x3 + (nI 1))), (2, .int (if x2 < v2 then v2 else x2)), (0, .ref (eA g 45)), (1, .int x1)]) dX3_dearest_42 (by decide) rfl (by decide) rfl ?_
      refine wp_goto 15 dX3_dearest_45 (by decide) ?_
      exact wp_sub [2, 3, 1, 0] rfl h
set_option maxRecDepth 100000 in
set_option maxHeartbeats 4000000 in
theorem E_X3_differs (g : Ev) (d : Nat) (x1 : Int32) (x2 : Int32) (σ : St) (K : Option Value → St → Prop) (h : WP g 45 59 (d + 1) M_X3_differs 2 [(0, .ref (eA g 45)), (1, .int x1), (2, .int x2), (3, .int (nI 0))] [] σ K) : Runs g 45 59 (d + 1) M_X3_differs [.ref (eA g 45), .int x1, .int x2] σ K := by
  refine Runs.of (by decide) (Nat.le_of_ble_eq_true rfl) ?_
  show WP g 45 59 (d + 1) M_X3_differs 0 [(0, .ref (eA g 45)), (1, .int x1), (2, .int x2)] [] σ K
  refine wp_iconst (nI 0) dX3_differs_0 (by decide) ?_
  refine wp_istore_n (lv' := [(3, .int (nI 0)), (0, .ref (eA g 45)), (1, .int x1), (2, .int x2)]) dX3_differs_1 rfl (by decide) rfl ?_
  exact wp_sub [1, 2, 3, 0] rfl h
set_option maxRecDepth 100000 in
set_option maxHeartbeats 4000000 in
theorem R_X3_differs_2 (g : Ev) (d : Nat) (x1 : Int32) (x2 : Int32) (x3 : Int32) (σ : St) (K : Option Value → St → Prop) (h : (((sV σ 9) ≤ x3 → K (some (.int (nI 0))) σ) ∧ (¬ (sV σ 9) ≤ x3 → Runs g 45 59 d M_X3_get [.ref (eA g 45), .int x1, .int x3] σ (fun r1 σ1 => ∃ v1 : Int32, r1 = some (.int v1) ∧ Runs g 45 59 d M_X3_get [.ref (eA g 45), .int x1, .int (x3 ^^^ (jshl (nI 1) x2))] σ1 (fun r2 σ2 => ∃ v2 : Int32, r2 = some (.int v2) ∧ ((v1 = v2 → WP g 45 59 (d + 1) M_X3_differs 2 [(0, .ref (eA g 45)), (1, .int x1), (2, .int x2), (3, .int (x3 + (nI 1)))] [] σ2 K) ∧ (¬ v1 = v2 → K (some (.int (nI 1))) σ2))))))) : WP g 45 59 (d + 1) M_X3_differs 2 [(0, .ref (eA g 45)), (1, .int x1), (2, .int x2), (3, .int x3)] [] σ K := by
  refine wp_iload_n 3 dX3_differs_2 rfl rfl ?_
  refine wp_aload_n 0 dX3_differs_3 rfl rfl ?_
  refine wp_get 45 2 1 (by decide) (by decide) rfl rfl inG3 (by decide) wf_X3_59 rfl dX3_differs_4 ?_
  refine wp_icmp_ge 37 dX3_differs_7 (by decide) (fun c => ?_) (fun c => ?_)
  · replace h := h.1 c
    refine wp_iconst (nI 0) dX3_differs_37 (by decide) ?_
    exact wp_zret rfl rfl dX3_differs_38 h
  · replace h := h.2 c
    refine wp_aload_n 0 dX3_differs_10 rfl rfl ?_
    refine wp_iload_n 1 dX3_differs_11 rfl rfl ?_
    refine wp_iload_n 3 dX3_differs_12 rfl rfl ?_
    refine wp_callV [.int x1, .int x3] [] 45 2 (by decide) (by decide) rfl rfl wc_X3_get wm_X3_81 ws_X3_get we_X3_get wi_X3 ok_X3_get (by decide) (Nat.le_of_ble_eq_true rfl) dX3_differs_13 rfl h ?_
    rintro r1 σ1 ⟨v1, rfl, h⟩
    show WP g 45 59 (d + 1) M_X3_differs 16 [(0, .ref (eA g 45)), (1, .int x1), (2, .int x2), (3, .int x3)] [.int v1] σ1 K
    refine wp_aload_n 0 dX3_differs_16 rfl rfl ?_
    refine wp_iload_n 1 dX3_differs_17 rfl rfl ?_
    refine wp_iload_n 3 dX3_differs_18 rfl rfl ?_
    refine wp_iconst (nI 1) dX3_differs_19 (by decide) ?_
    refine wp_iload_n 2 dX3_differs_20 rfl rfl ?_
    refine wp_ishl dX3_differs_21 ?_
    refine wp_ixor dX3_differs_22 ?_
    refine wp_callV [.int x1, .int (x3 ^^^ (jshl (nI 1) x2))] [.int v1] 45 2 (by decide) (by decide) rfl rfl wc_X3_get wm_X3_81 ws_X3_get we_X3_get wi_X3 ok_X3_get (by decide) (Nat.le_of_ble_eq_true rfl) dX3_differs_23 rfl h ?_
    rintro r2 σ2 ⟨v2, rfl, h⟩
    show WP g 45 59 (d + 1) M_X3_differs 26 [(0, .ref (eA g 45)), (1, .int x1), (2, .int x2), (3, .int x3)] [.int v2, .int v1] σ2 K
    refine wp_icmp_eq 31 dX3_differs_26 (by decide) (fun c => ?_) (fun c => ?_)
    · replace h := h.1 c
      refine wp_iinc 3 (nI 1) (lv' := [(3, .int (x3 + (nI 1))), (0, .ref (eA g 45)), (1, .int x1), (2, .int x2)]) dX3_differs_31 (by decide) rfl (by decide) rfl ?_
      refine wp_goto 2 dX3_differs_34 (by decide) ?_
      exact wp_sub [1, 2, 3, 0] rfl h
    · replace h := h.2 c
      refine wp_iconst (nI 1) dX3_differs_29 (by decide) ?_
      exact wp_zret rfl rfl dX3_differs_30 h
set_option maxRecDepth 100000 in
set_option maxHeartbeats 4000000 in
theorem E_X3_letters (g : Ev) (d : Nat) (x1 : Int32) (σ : St) (K : Option Value → St → Prop) (h : Runs g 45 59 d M_X3_isRegister [.ref (eA g 45), .int x1] σ (fun r1 σ1 => ∃ v1 : Int32, r1 = some (.int v1) ∧ ((¬ v1 = nI 0 → WP g 45 59 (d + 1) M_X3_letters 15 [(0, .ref (eA g 45)), (1, .int x1), (2, .int (nI 0)), (3, .int (nI 0))] [] σ1 K) ∧ (v1 = nI 0 → K (some (.int (-2))) σ1)))) : Runs g 45 59 (d + 1) M_X3_letters [.ref (eA g 45), .int x1] σ K := by
  refine Runs.of (by decide) (Nat.le_of_ble_eq_true rfl) ?_
  show WP g 45 59 (d + 1) M_X3_letters 0 [(0, .ref (eA g 45)), (1, .int x1)] [] σ K
  refine wp_aload_n 0 dX3_letters_0 rfl rfl ?_
  refine wp_iload_n 1 dX3_letters_1 rfl rfl ?_
  refine wp_callV [.int x1] [] 45 2 (by decide) (by decide) rfl rfl wc_X3_isRegister wm_X3_92 ws_X3_isRegister we_X3_isRegister wi_X3 ok_X3_isRegister (by decide) (Nat.le_of_ble_eq_true rfl) dX3_letters_2 rfl h ?_
  rintro r1 σ1 ⟨v1, rfl, h⟩
  show WP g 45 59 (d + 1) M_X3_letters 5 [(0, .ref (eA g 45)), (1, .int x1)] [.int v1] σ1 K
  refine wp_if_ne 11 dX3_letters_5 (by decide) (fun c => ?_) (fun c => ?_)
  · replace h := h.1 c
    refine wp_iconst (nI 0) dX3_letters_11 (by decide) ?_
    refine wp_istore_n (lv' := [(2, .int (nI 0)), (0, .ref (eA g 45)), (1, .int x1)]) dX3_letters_12 rfl (by decide) rfl ?_
    refine wp_iconst (nI 0) dX3_letters_13 (by decide) ?_
    refine wp_istore_n (lv' := [(3, .int (nI 0)), (2, .int (nI 0)), (0, .ref (eA g 45)), (1, .int x1)]) dX3_letters_14 rfl (by decide) rfl ?_
    exact wp_sub [2, 3, 1, 0] rfl h
  · replace h := h.2 c
    refine wp_bipush (-2) dX3_letters_8 (by decide) ?_
    exact wp_iret rfl dX3_letters_10 h
set_option maxRecDepth 100000 in
set_option maxHeartbeats 4000000 in
theorem R_X3_letters_15 (g : Ev) (d : Nat) (x1 : Int32) (x2 : Int32) (x3 : Int32) (σ : St) (K : Option Value → St → Prop) (h : (((sV σ 8) ≤ x3 → K (some (.int x2)) σ) ∧ (¬ (sV σ 8) ≤ x3 → Runs g 45 59 d M_X3_differs [.ref (eA g 45), .int x1, .int x3] σ (fun r1 σ1 => ∃ v1 : Int32, r1 = some (.int v1) ∧ ((v1 = nI 0 → WP g 45 59 (d + 1) M_X3_letters 15 [(0, .ref (eA g 45)), (1, .int x1), (2, .int (x2 ||| (nI 0))), (3, .int (x3 + (nI 1)))] [] σ1 K) ∧ (¬ v1 = nI 0 → WP g 45 59 (d + 1) M_X3_letters 15 [(0, .ref (eA g 45)), (1, .int x1), (2, .int (x2 ||| (jshl (nI 1) x3))), (3, .int (x3 + (nI 1)))] [] σ1 K)))))) : WP g 45 59 (d + 1) M_X3_letters 15 [(0, .ref (eA g 45)), (1, .int x1), (2, .int x2), (3, .int x3)] [] σ K := by
  refine wp_iload_n 3 dX3_letters_15 rfl rfl ?_
  refine wp_aload_n 0 dX3_letters_16 rfl rfl ?_
  refine wp_get 45 2 0 (by decide) (by decide) rfl rfl inG3 (by decide) wf_X3_55 rfl dX3_letters_17 ?_
  refine wp_icmp_ge 48 dX3_letters_20 (by decide) (fun c => ?_) (fun c => ?_)
  · replace h := h.1 c
    refine wp_iload_n 2 dX3_letters_48 rfl rfl ?_
    exact wp_iret rfl dX3_letters_49 h
  · replace h := h.2 c
    refine wp_iload_n 2 dX3_letters_23 rfl rfl ?_
    refine wp_aload_n 0 dX3_letters_24 rfl rfl ?_
    refine wp_iload_n 1 dX3_letters_25 rfl rfl ?_
    refine wp_iload_n 3 dX3_letters_26 rfl rfl ?_
    refine wp_callV [.int x1, .int x3] [.int x2] 45 2 (by decide) (by decide) rfl rfl wc_X3_differs wm_X3_134 ws_X3_differs we_X3_differs wi_X3 ok_X3_differs (by decide) (Nat.le_of_ble_eq_true rfl) dX3_letters_27 rfl h ?_
    rintro r1 σ1 ⟨v1, rfl, h⟩
    show WP g 45 59 (d + 1) M_X3_letters 30 [(0, .ref (eA g 45)), (1, .int x1), (2, .int x2), (3, .int x3)] [.int v1, .int x2] σ1 K
    refine wp_if_eq 39 dX3_letters_30 (by decide) (fun c => ?_) (fun c => ?_)
    · replace h := h.1 c
      refine wp_iconst (nI 0) dX3_letters_39 (by decide) ?_
      refine wp_ior dX3_letters_40 ?_
      refine wp_istore_n (lv' := [(2, .int (x2 ||| (nI 0))), (0, .ref (eA g 45)), (1, .int x1), (3, .int x3)]) dX3_letters_41 rfl (by decide) rfl ?_
      refine wp_iinc 3 (nI 1) (lv' := [(3, .int (x3 + (nI 1))), (2, .int (x2 ||| (nI 0))), (0, .ref (eA g 45)), (1, .int x1)]) dX3_letters_42 (by decide) rfl (by decide) rfl ?_
      refine wp_goto 15 dX3_letters_45 (by decide) ?_
      exact wp_sub [2, 3, 1, 0] rfl h
    · replace h := h.2 c
      refine wp_iconst (nI 1) dX3_letters_33 (by decide) ?_
      refine wp_iload_n 3 dX3_letters_34 rfl rfl ?_
      refine wp_ishl dX3_letters_35 ?_
      refine wp_goto 40 dX3_letters_36 (by decide) ?_
      refine wp_ior dX3_letters_40 ?_
      refine wp_istore_n (lv' := [(2, .int (x2 ||| (jshl (nI 1) x3))), (0, .ref (eA g 45)), (1, .int x1), (3, .int x3)]) dX3_letters_41 rfl (by decide) rfl ?_
      refine wp_iinc 3 (nI 1) (lv' := [(3, .int (x3 + (nI 1))), (2, .int (x2 ||| (jshl (nI 1) x3))), (0, .ref (eA g 45)), (1, .int x1)]) dX3_letters_42 (by decide) rfl (by decide) rfl ?_
      refine wp_goto 15 dX3_letters_45 (by decide) ?_
      exact wp_sub [2, 3, 1, 0] rfl h
set_option maxRecDepth 100000 in
set_option maxHeartbeats 4000000 in
theorem E_X3_size (g : Ev) (d : Nat) (x1 : Int32) (σ : St) (K : Option Value → St → Prop) (h : Runs g 45 59 d M_X3_isRegister [.ref (eA g 45), .int x1] σ (fun r1 σ1 => ∃ v1 : Int32, r1 = some (.int v1) ∧ ((v1 = nI 0 → K (some (.int (-2))) σ1) ∧ (¬ v1 = nI 0 → Runs g 45 59 d M_X3_forks [.ref (eA g 45), .int x1, .int (x1 + (nI 1)), .int (-1), .ref (eA g 50)] σ1 (fun r2 σ2 => ∃ v2 : Int32, r2 = some (.int v2) ∧ K (some (.int v2)) σ2))))) : Runs g 45 59 (d + 1) M_X3_size [.ref (eA g 45), .int x1] σ K := by
  refine Runs.of (by decide) (Nat.le_of_ble_eq_true rfl) ?_
  show WP g 45 59 (d + 1) M_X3_size 0 [(0, .ref (eA g 45)), (1, .int x1)] [] σ K
  refine wp_aload_n 0 dX3_size_0 rfl rfl ?_
  refine wp_iload_n 1 dX3_size_1 rfl rfl ?_
  refine wp_callV [.int x1] [] 45 2 (by decide) (by decide) rfl rfl wc_X3_isRegister wm_X3_92 ws_X3_isRegister we_X3_isRegister wi_X3 ok_X3_isRegister (by decide) (Nat.le_of_ble_eq_true rfl) dX3_size_2 rfl h ?_
  rintro r1 σ1 ⟨v1, rfl, h⟩
  show WP g 45 59 (d + 1) M_X3_size 5 [(0, .ref (eA g 45)), (1, .int x1)] [.int v1] σ1 K
  refine wp_if_eq 24 dX3_size_5 (by decide) (fun c => ?_) (fun c => ?_)
  · replace h := h.1 c
    refine wp_bipush (-2) dX3_size_24 (by decide) ?_
    exact wp_iret rfl dX3_size_26 h
  · replace h := h.2 c
    refine wp_aload_n 0 dX3_size_8 rfl rfl ?_
    refine wp_iload_n 1 dX3_size_9 rfl rfl ?_
    refine wp_iload_n 1 dX3_size_10 rfl rfl ?_
    refine wp_iconst (nI 1) dX3_size_11 (by decide) ?_
    refine wp_iadd dX3_size_12 ?_
    refine wp_iconst (-1) dX3_size_13 (by decide) ?_
    refine wp_aload_n 0 dX3_size_14 rfl rfl ?_
    refine wp_get 45 2 7 (by decide) (by decide) rfl rfl inG3 (by decide) wf_X3_24 rfl dX3_size_15 ?_
    refine wp_callV [.int x1, .int (x1 + (nI 1)), .int (-1), .ref (eA g 50)] [] 45 2 (by decide) (by decide) rfl rfl wc_X3_forks wm_X3_88 ws_X3_forks we_X3_forks wi_X3 ok_X3_forks (by decide) (Nat.le_of_ble_eq_true rfl) dX3_size_18 rfl h ?_
    rintro r2 σ2 ⟨v2, rfl, h⟩
    show WP g 45 59 (d + 1) M_X3_size 21 [(0, .ref (eA g 45)), (1, .int x1)] [.int v2] σ2 K
    refine wp_goto 26 dX3_size_21 (by decide) ?_
    exact wp_iret rfl dX3_size_26 h
set_option maxRecDepth 100000 in
set_option maxHeartbeats 4000000 in
theorem E_X3_width (g : Ev) (d : Nat) (x1 : Int32) (x2 : Int32) (σ : St) (K : Option Value → St → Prop) (h : Runs g 45 59 d M_X3_isRegister [.ref (eA g 45), .int x1] σ (fun r1 σ1 => ∃ v1 : Int32, r1 = some (.int v1) ∧ ((v1 = nI 0 → K (some (.int (-2))) σ1) ∧ (¬ v1 = nI 0 → ((x2 < nI 0 → K (some (.int (-2))) σ1) ∧ (¬ x2 < nI 0 → ((x2 < (sV σ1 8) → Runs g 45 59 d M_X3_forks [.ref (eA g 45), .int x1, .int (x1 + (nI 1)), .int (-1), .ref (eA g 50)] σ1 (fun r2 σ2 => ∃ v2 : Int32, r2 = some (.int v2) ∧ vp_in x2 (lenI 54) ∧ K (some (.int (sI σ2 54 x2.toNatClampNeg))) σ2)) ∧ (¬ x2 < (sV σ1 8) → K (some (.int (-2))) σ1)))))))) : Runs g 45 59 (d + 1) M_X3_width [.ref (eA g 45), .int x1, .int x2] σ K := by
  refine Runs.of (by decide) (Nat.le_of_ble_eq_true rfl) ?_
  show WP g 45 59 (d + 1) M_X3_width 0 [(0, .ref (eA g 45)), (1, .int x1), (2, .int x2)] [] σ K
  refine wp_aload_n 0 dX3_width_0 rfl rfl ?_
  refine wp_iload_n 1 dX3_width_1 rfl rfl ?_
  refine wp_callV [.int x1] [] 45 2 (by decide) (by decide) rfl rfl wc_X3_isRegister wm_X3_92 ws_X3_isRegister we_X3_isRegister wi_X3 ok_X3_isRegister (by decide) (Nat.le_of_ble_eq_true rfl) dX3_width_2 rfl h ?_
  rintro r1 σ1 ⟨v1, rfl, h⟩
  show WP g 45 59 (d + 1) M_X3_width 5 [(0, .ref (eA g 45)), (1, .int x1), (2, .int x2)] [.int v1] σ1 K
  refine wp_if_eq 20 dX3_width_5 (by decide) (fun c => ?_) (fun c => ?_)
  · replace h := h.1 c
    refine wp_bipush (-2) dX3_width_20 (by decide) ?_
    exact wp_iret rfl dX3_width_22 h
  · replace h := h.2 c
    refine wp_iload_n 2 dX3_width_8 rfl rfl ?_
    refine wp_if_lt 20 dX3_width_9 (by decide) (fun c => ?_) (fun c => ?_)
    · replace h := h.1 c
      refine wp_bipush (-2) dX3_width_20 (by decide) ?_
      exact wp_iret rfl dX3_width_22 h
    · replace h := h.2 c
      refine wp_iload_n 2 dX3_width_12 rfl rfl ?_
      refine wp_aload_n 0 dX3_width_13 rfl rfl ?_
      refine wp_get 45 2 0 (by decide) (by decide) rfl rfl inG3 (by decide) wf_X3_55 rfl dX3_width_14 ?_
      refine wp_icmp_lt 23 dX3_width_17 (by decide) (fun c => ?_) (fun c => ?_)
      · replace h := h.1 c
        refine wp_aload_n 0 dX3_width_23 rfl rfl ?_
        refine wp_iload_n 1 dX3_width_24 rfl rfl ?_
        refine wp_iload_n 1 dX3_width_25 rfl rfl ?_
        refine wp_iconst (nI 1) dX3_width_26 (by decide) ?_
        refine wp_iadd dX3_width_27 ?_
        refine wp_iconst (-1) dX3_width_28 (by decide) ?_
        refine wp_aload_n 0 dX3_width_29 rfl rfl ?_
        refine wp_get 45 2 7 (by decide) (by decide) rfl rfl inG3 (by decide) wf_X3_24 rfl dX3_width_30 ?_
        refine wp_callV [.int x1, .int (x1 + (nI 1)), .int (-1), .ref (eA g 50)] [] 45 2 (by decide) (by decide) rfl rfl wc_X3_forks wm_X3_88 ws_X3_forks we_X3_forks wi_X3 ok_X3_forks (by decide) (Nat.le_of_ble_eq_true rfl) dX3_width_33 rfl h ?_
        rintro r2 σ2 ⟨v2, rfl, h⟩
        show WP g 45 59 (d + 1) M_X3_width 36 [(0, .ref (eA g 45)), (1, .int x1), (2, .int x2)] [.int v2] σ2 K
        refine wp_pop dX3_width_36 rfl ?_
        refine wp_aload_n 0 dX3_width_37 rfl rfl ?_
        refine wp_get 45 2 11 (by decide) (by decide) rfl rfl inG3 (by decide) wf_X3_36 rfl dX3_width_38 ?_
        refine wp_iload_n 2 dX3_width_41 rfl rfl ?_
        refine wp_iald (by decide) (by decide) dX3_width_42 h.1 ?_
        replace h := h.2
        exact wp_iret rfl dX3_width_43 h
      · replace h := h.2 c
        refine wp_bipush (-2) dX3_width_20 (by decide) ?_
        exact wp_iret rfl dX3_width_22 h
set_option maxRecDepth 100000 in
set_option maxHeartbeats 4000000 in
theorem E_X3_point (g : Ev) (d : Nat) (x1 : Int32) (σ : St) (K : Option Value → St → Prop) (h : Runs g 45 59 d M_X3_isRegister [.ref (eA g 45), .int x1] σ (fun r1 σ1 => ∃ v1 : Int32, r1 = some (.int v1) ∧ ((¬ v1 = nI 0 → WP g 45 59 (d + 1) M_X3_point 13 [(0, .ref (eA g 45)), (1, .int x1), (2, .int (nI 0))] [] σ1 K) ∧ (v1 = nI 0 → K (some (.int (-2))) σ1)))) : Runs g 45 59 (d + 1) M_X3_point [.ref (eA g 45), .int x1] σ K := by
  refine Runs.of (by decide) (Nat.le_of_ble_eq_true rfl) ?_
  show WP g 45 59 (d + 1) M_X3_point 0 [(0, .ref (eA g 45)), (1, .int x1)] [] σ K
  refine wp_aload_n 0 dX3_point_0 rfl rfl ?_
  refine wp_iload_n 1 dX3_point_1 rfl rfl ?_
  refine wp_callV [.int x1] [] 45 2 (by decide) (by decide) rfl rfl wc_X3_isRegister wm_X3_92 ws_X3_isRegister we_X3_isRegister wi_X3 ok_X3_isRegister (by decide) (Nat.le_of_ble_eq_true rfl) dX3_point_2 rfl h ?_
  rintro r1 σ1 ⟨v1, rfl, h⟩
  show WP g 45 59 (d + 1) M_X3_point 5 [(0, .ref (eA g 45)), (1, .int x1)] [.int v1] σ1 K
  refine wp_if_ne 11 dX3_point_5 (by decide) (fun c => ?_) (fun c => ?_)
  · replace h := h.1 c
    refine wp_iconst (nI 0) dX3_point_11 (by decide) ?_
    refine wp_istore_n (lv' := [(2, .int (nI 0)), (0, .ref (eA g 45)), (1, .int x1)]) dX3_point_12 rfl (by decide) rfl ?_
    exact wp_sub [1, 2, 0] rfl h
  · replace h := h.2 c
    refine wp_bipush (-2) dX3_point_8 (by decide) ?_
    exact wp_iret rfl dX3_point_10 h
set_option maxRecDepth 100000 in
set_option maxHeartbeats 4000000 in
theorem R_X3_point_13 (g : Ev) (d : Nat) (x1 : Int32) (x2 : Int32) (σ : St) (K : Option Value → St → Prop) (h : (((sV σ 9) ≤ x2 → K (some (.int (nI 0))) σ) ∧ (¬ (sV σ 9) ≤ x2 → Runs g 45 59 d M_X3_get [.ref (eA g 45), .int x1, .int x2] σ (fun r1 σ1 => ∃ v1 : Int32, r1 = some (.int v1) ∧ vp_in x2 (lenZ 48) ∧ WP g 45 59 (d + 1) M_X3_point 13 [(0, .ref (eA g 45)), (1, .int x1), (2, .int (x2 + (nI 1)))] [] (uI σ1 48 x2.toNatClampNeg (vp_nar .boolean v1)) K)))) : WP g 45 59 (d + 1) M_X3_point 13 [(0, .ref (eA g 45)), (1, .int x1), (2, .int x2)] [] σ K := by
  refine wp_iload_n 2 dX3_point_13 rfl rfl ?_
  refine wp_aload_n 0 dX3_point_14 rfl rfl ?_
  refine wp_get 45 2 1 (by decide) (by decide) rfl rfl inG3 (by decide) wf_X3_59 rfl dX3_point_15 ?_
  refine wp_icmp_ge 39 dX3_point_18 (by decide) (fun c => ?_) (fun c => ?_)
  · replace h := h.1 c
    refine wp_iconst (nI 0) dX3_point_39 (by decide) ?_
    exact wp_iret rfl dX3_point_40 h
  · replace h := h.2 c
    refine wp_aload_n 0 dX3_point_21 rfl rfl ?_
    refine wp_get 45 2 5 (by decide) (by decide) rfl rfl inG3 (by decide) wf_X3_17 rfl dX3_point_22 ?_
    refine wp_iload_n 2 dX3_point_25 rfl rfl ?_
    refine wp_aload_n 0 dX3_point_26 rfl rfl ?_
    refine wp_iload_n 1 dX3_point_27 rfl rfl ?_
    refine wp_iload_n 2 dX3_point_28 rfl rfl ?_
    refine wp_callV [.int x1, .int x2] [.int x2, .ref (eA g 48)] 45 2 (by decide) (by decide) rfl rfl wc_X3_get wm_X3_81 ws_X3_get we_X3_get wi_X3 ok_X3_get (by decide) (Nat.le_of_ble_eq_true rfl) dX3_point_29 rfl h ?_
    rintro r1 σ1 ⟨v1, rfl, h⟩
    show WP g 45 59 (d + 1) M_X3_point 32 [(0, .ref (eA g 45)), (1, .int x1), (2, .int x2)] [.int v1, .int x2, .ref (eA g 48)] σ1 K
    refine wp_zast (by decide) (by decide) dX3_point_32 h.1 ?_
    replace h := h.2
    refine wp_iinc 2 (nI 1) (lv' := [(2, .int (x2 + (nI 1))), (0, .ref (eA g 45)), (1, .int x1)]) dX3_point_33 (by decide) rfl (by decide) rfl ?_
    refine wp_goto 13 dX3_point_36 (by decide) ?_
    exact wp_sub [1, 2, 0] rfl h
set_option maxRecDepth 100000 in
set_option maxHeartbeats 4000000 in
theorem E_X3_firstLetter (g : Ev) (d : Nat)  (σ : St) (K : Option Value → St → Prop) (h : WP g 45 59 (d + 1) M_X3_firstLetter 2 [(0, .ref (eA g 45)), (1, .int (nI 0))] [] σ K) : Runs g 45 59 (d + 1) M_X3_firstLetter [.ref (eA g 45)] σ K := by
  refine Runs.of (by decide) (Nat.le_of_ble_eq_true rfl) ?_
  show WP g 45 59 (d + 1) M_X3_firstLetter 0 [(0, .ref (eA g 45))] [] σ K
  refine wp_iconst (nI 0) dX3_firstLetter_0 (by decide) ?_
  refine wp_istore_n (lv' := [(1, .int (nI 0)), (0, .ref (eA g 45))]) dX3_firstLetter_1 rfl (by decide) rfl ?_
  exact wp_sub [1, 0] rfl h
set_option maxRecDepth 100000 in
set_option maxHeartbeats 4000000 in
theorem R_X3_firstLetter_2 (g : Ev) (d : Nat) (x1 : Int32) (σ : St) (K : Option Value → St → Prop) (h : (((sV σ 8) ≤ x1 → K (some (.int (-1))) σ) ∧ (¬ (sV σ 8) ≤ x1 → WP g 45 59 (d + 1) M_X3_firstLetter 12 [(0, .ref (eA g 45)), (1, .int x1), (2, .int (nI 0))] [] σ K))) : WP g 45 59 (d + 1) M_X3_firstLetter 2 [(0, .ref (eA g 45)), (1, .int x1)] [] σ K := by
  refine wp_iload_n 1 dX3_firstLetter_2 rfl rfl ?_
  refine wp_aload_n 0 dX3_firstLetter_3 rfl rfl ?_
  refine wp_get 45 2 0 (by decide) (by decide) rfl rfl inG3 (by decide) wf_X3_55 rfl dX3_firstLetter_4 ?_
  refine wp_icmp_ge 63 dX3_firstLetter_7 (by decide) (fun c => ?_) (fun c => ?_)
  · replace h := h.1 c
    refine wp_iconst (-1) dX3_firstLetter_63 (by decide) ?_
    exact wp_iret rfl dX3_firstLetter_64 h
  · replace h := h.2 c
    refine wp_iconst (nI 0) dX3_firstLetter_10 (by decide) ?_
    refine wp_istore_n (lv' := [(2, .int (nI 0)), (0, .ref (eA g 45)), (1, .int x1)]) dX3_firstLetter_11 rfl (by decide) rfl ?_
    exact wp_sub [1, 2, 0] rfl h
set_option maxRecDepth 100000 in
set_option maxHeartbeats 4000000 in
theorem R_X3_firstLetter_12 (g : Ev) (d : Nat) (x1 : Int32) (x2 : Int32) (σ : St) (K : Option Value → St → Prop) (h : (((sV σ 9) ≤ x2 → WP g 45 59 (d + 1) M_X3_firstLetter 2 [(0, .ref (eA g 45)), (1, .int (x1 + (nI 1)))] [] σ K) ∧ (¬ (sV σ 9) ≤ x2 → vp_in x2 (lenZ 48) ∧ vp_in x1 (lenI 50) ∧ vp_in (x2 ^^^ (jshl (nI 1) (sI σ 50 x1.toNatClampNeg))) (lenZ 48) ∧ (((sI σ 48 x2.toNatClampNeg) = (sI σ 48 (x2 ^^^ (jshl (nI 1) (sI σ 50 x1.toNatClampNeg))).toNatClampNeg) → WP g 45 59 (d + 1) M_X3_firstLetter 12 [(0, .ref (eA g 45)), (1, .int x1), (2, .int (x2 + (nI 1)))] [] σ K) ∧ (¬ (sI σ 48 x2.toNatClampNeg) = (sI σ 48 (x2 ^^^ (jshl (nI 1) (sI σ 50 x1.toNatClampNeg))).toNatClampNeg) → vp_in x1 (lenI 50) ∧ K (some (.int (sI σ 50 x1.toNatClampNeg))) σ))))) : WP g 45 59 (d + 1) M_X3_firstLetter 12 [(0, .ref (eA g 45)), (1, .int x1), (2, .int x2)] [] σ K := by
  refine wp_iload_n 2 dX3_firstLetter_12 rfl rfl ?_
  refine wp_aload_n 0 dX3_firstLetter_13 rfl rfl ?_
  refine wp_get 45 2 1 (by decide) (by decide) rfl rfl inG3 (by decide) wf_X3_59 rfl dX3_firstLetter_14 ?_
  refine wp_icmp_ge 57 dX3_firstLetter_17 (by decide) (fun c => ?_) (fun c => ?_)
  · replace h := h.1 c
    refine wp_iinc 1 (nI 1) (lv' := [(1, .int (x1 + (nI 1))), (0, .ref (eA g 45)), (2, .int x2)]) dX3_firstLetter_57 (by decide) rfl (by decide) rfl ?_
    refine wp_goto 2 dX3_firstLetter_60 (by decide) ?_
    exact wp_sub [1, 0] rfl h
  · replace h := h.2 c
    refine wp_aload_n 0 dX3_firstLetter_20 rfl rfl ?_
    refine wp_get 45 2 5 (by decide) (by decide) rfl rfl inG3 (by decide) wf_X3_17 rfl dX3_firstLetter_21 ?_
    refine wp_iload_n 2 dX3_firstLetter_24 rfl rfl ?_
    refine wp_zald (by decide) (by decide) dX3_firstLetter_25 h.1 ?_
    replace h := h.2
    refine wp_aload_n 0 dX3_firstLetter_26 rfl rfl ?_
    refine wp_get 45 2 5 (by decide) (by decide) rfl rfl inG3 (by decide) wf_X3_17 rfl dX3_firstLetter_27 ?_
    refine wp_iload_n 2 dX3_firstLetter_30 rfl rfl ?_
    refine wp_iconst (nI 1) dX3_firstLetter_31 (by decide) ?_
    refine wp_aload_n 0 dX3_firstLetter_32 rfl rfl ?_
    refine wp_get 45 2 7 (by decide) (by decide) rfl rfl inG3 (by decide) wf_X3_24 rfl dX3_firstLetter_33 ?_
    refine wp_iload_n 1 dX3_firstLetter_36 rfl rfl ?_
    refine wp_iald (by decide) (by decide) dX3_firstLetter_37 h.1 ?_
    replace h := h.2
    refine wp_ishl dX3_firstLetter_38 ?_
    refine wp_ixor dX3_firstLetter_39 ?_
    refine wp_zald (by decide) (by decide) dX3_firstLetter_40 h.1 ?_
    replace h := h.2
    refine wp_icmp_eq 51 dX3_firstLetter_41 (by decide) (fun c => ?_) (fun c => ?_)
    · replace h := h.1 c
      refine wp_iinc 2 (nI 1) (lv' := [(2, .int (x2 + (nI 1))), (0, .ref (eA g 45)), (1, .int x1)]) dX3_firstLetter_51 (by decide) rfl (by decide) rfl ?_
      refine wp_goto 12 dX3_firstLetter_54 (by decide) ?_
      exact wp_sub [1, 2, 0] rfl h
    · replace h := h.2 c
      refine wp_aload_n 0 dX3_firstLetter_44 rfl rfl ?_
      refine wp_get 45 2 7 (by decide) (by decide) rfl rfl inG3 (by decide) wf_X3_24 rfl dX3_firstLetter_45 ?_
      refine wp_iload_n 1 dX3_firstLetter_48 rfl rfl ?_
      refine wp_iald (by decide) (by decide) dX3_firstLetter_49 h.1 ?_
      replace h := h.2
      exact wp_iret rfl dX3_firstLetter_50 h
set_option maxRecDepth 100000 in
set_option maxHeartbeats 4000000 in
theorem E_X3_go (g : Ev) (d : Nat) (x1 : Int32) (σ : St) (K : Option Value → St → Prop) (h : Runs g 45 59 d M_X3_firstLetter [.ref (eA g 45)] σ (fun r1 σ1 => ∃ v1 : Int32, r1 = some (.int v1) ∧ ((¬ v1 = (-1) → WP g 45 59 (d + 1) M_X3_go 14 [(0, .ref (eA g 45)), (1, .int x1), (2, .int v1), (3, .int (nI 0))] [] σ1 K) ∧ (v1 = (-1) → K (some (.int (nI 0))) σ1)))) : Runs g 45 59 (d + 1) M_X3_go [.ref (eA g 45), .int x1] σ K := by
  refine Runs.of (by decide) (Nat.le_of_ble_eq_true rfl) ?_
  show WP g 45 59 (d + 1) M_X3_go 0 [(0, .ref (eA g 45)), (1, .int x1)] [] σ K
  refine wp_aload_n 0 dX3_go_0 rfl rfl ?_
  refine wp_callV [] [] 45 2 (by decide) (by decide) rfl rfl wc_X3_firstLetter wm_X3_137 ws_X3_firstLetter we_X3_firstLetter wi_X3 ok_X3_firstLetter (by decide) (Nat.le_of_ble_eq_true rfl) dX3_go_1 rfl h ?_
  rintro r1 σ1 ⟨v1, rfl, h⟩
  show WP g 45 59 (d + 1) M_X3_go 4 [(0, .ref (eA g 45)), (1, .int x1)] [.int v1] σ1 K
  refine wp_istore_n (lv' := [(2, .int v1), (0, .ref (eA g 45)), (1, .int x1)]) dX3_go_4 rfl (by decide) rfl ?_
  refine wp_iload_n 0 dX3_go_5 rfl rfl ?_
  refine wp_iconst (-1) dX3_go_6 (by decide) ?_
  refine wp_icmp_ne 12 dX3_go_7 (by decide) (fun c => ?_) (fun c => ?_)
  · replace h := h.1 c
    refine wp_iconst (nI 0) dX3_go_12 (by decide) ?_
    refine wp_istore_n (lv' := [(3, .int (nI 0)), (2, .int v1), (0, .ref (eA g 45)), (1, .int x1)]) dX3_go_13 rfl (by decide) rfl ?_
    exact wp_sub [2, 3, 1, 0] rfl h
  · replace h := h.2 c
    refine wp_iconst (nI 0) dX3_go_10 (by decide) ?_
    exact wp_zret rfl rfl dX3_go_11 h
set_option maxRecDepth 100000 in
set_option maxHeartbeats 4000000 in
theorem R_X3_go_14 (g : Ev) (d : Nat) (x1 : Int32) (x2 : Int32) (x3 : Int32) (σ : St) (K : Option Value → St → Prop) (h : (((sV σ 9) ≤ x3 → WP g 45 59 (d + 1) M_X3_go 47 [(0, .ref (eA g 45)), (3, .int (nI 0))] [] σ K) ∧ (¬ (sV σ 9) ≤ x3 → Runs g 45 59 d M_X3_with [.int x3, .int x2, .int x1] σ (fun r1 σ1 => ∃ v1 : Int32, r1 = some (.int v1) ∧ vp_in v1 (lenZ 48) ∧ vp_in x3 (lenZ 47) ∧ WP g 45 59 (d + 1) M_X3_go 14 [(0, .ref (eA g 45)), (1, .int x1), (2, .int x2), (3, .int (x3 + (nI 1)))] [] (uI σ1 47 x3.toNatClampNeg (vp_nar .boolean (sI σ1 48 v1.toNatClampNeg))) K)))) : WP g 45 59 (d + 1) M_X3_go 14 [(0, .ref (eA g 45)), (1, .int x1), (2, .int x2), (3, .int x3)] [] σ K := by
  refine wp_iload_n 3 dX3_go_14 rfl rfl ?_
  refine wp_aload_n 0 dX3_go_15 rfl rfl ?_
  refine wp_get 45 2 1 (by decide) (by decide) rfl rfl inG3 (by decide) wf_X3_59 rfl dX3_go_16 ?_
  refine wp_icmp_ge 45 dX3_go_19 (by decide) (fun c => ?_) (fun c => ?_)
  · replace h := h.1 c
    refine wp_iconst (nI 0) dX3_go_45 (by decide) ?_
    refine wp_istore_n (lv' := [(3, .int (nI 0)), (0, .ref (eA g 45)), (1, .int x1), (2, .int x2)]) dX3_go_46 rfl (by decide) rfl ?_
    exact wp_sub [1, 0] rfl h
  · replace h := h.2 c
    refine wp_aload_n 0 dX3_go_22 rfl rfl ?_
    refine wp_get 45 2 4 (by decide) (by decide) rfl rfl inG3 (by decide) wf_X3_14 rfl dX3_go_23 ?_
    refine wp_iload_n 3 dX3_go_26 rfl rfl ?_
    refine wp_aload_n 0 dX3_go_27 rfl rfl ?_
    refine wp_get 45 2 5 (by decide) (by decide) rfl rfl inG3 (by decide) wf_X3_17 rfl dX3_go_28 ?_
    refine wp_iload_n 3 dX3_go_31 rfl rfl ?_
    refine wp_iload_n 2 dX3_go_32 rfl rfl ?_
    refine wp_iload_n 1 dX3_go_33 rfl rfl ?_
    refine wp_callS [.int x3, .int x2, .int x1] [.ref (eA g 48), .int x3, .ref (eA g 47)] wc_X3_with wm_X3_103 ws_X3_with wi_X3 ok_X3_with (by decide) (Nat.le_of_ble_eq_true rfl) dX3_go_34 rfl h ?_
    rintro r1 σ1 ⟨v1, rfl, h⟩
    show WP g 45 59 (d + 1) M_X3_go 37 [(0, .ref (eA g 45)), (1, .int x1), (2, .int x2), (3, .int x3)] [.int v1, .ref (eA g 48), .int x3, .ref (eA g 47)] σ1 K
    refine wp_zald (by decide) (by decide) dX3_go_37 h.1 ?_
    replace h := h.2
    refine wp_zast (by decide) (by decide) dX3_go_38 h.1 ?_
    replace h := h.2
    refine wp_iinc 3 (nI 1) (lv' := [(3, .int (x3 + (nI 1))), (0, .ref (eA g 45)), (1, .int x1), (2, .int x2)]) dX3_go_39 (by decide) rfl (by decide) rfl ?_
    refine wp_goto 14 dX3_go_42 (by decide) ?_
    exact wp_sub [1, 2, 3, 0] rfl h
set_option maxRecDepth 100000 in
set_option maxHeartbeats 4000000 in
theorem R_X3_go_47 (g : Ev) (d : Nat) (x3 : Int32) (σ : St) (K : Option Value → St → Prop) (h : (((sV σ 9) ≤ x3 → K (some (.int (nI 1))) σ) ∧ (¬ (sV σ 9) ≤ x3 → vp_in x3 (lenZ 47) ∧ vp_in x3 (lenZ 48) ∧ WP g 45 59 (d + 1) M_X3_go 47 [(0, .ref (eA g 45)), (3, .int (x3 + (nI 1)))] [] (uI σ 48 x3.toNatClampNeg (vp_nar .boolean (sI σ 47 x3.toNatClampNeg))) K))) : WP g 45 59 (d + 1) M_X3_go 47 [(0, .ref (eA g 45)), (3, .int x3)] [] σ K := by
  refine wp_iload_n 1 dX3_go_47 rfl rfl ?_
  refine wp_aload_n 0 dX3_go_48 rfl rfl ?_
  refine wp_get 45 2 1 (by decide) (by decide) rfl rfl inG3 (by decide) wf_X3_59 rfl dX3_go_49 ?_
  refine wp_icmp_ge 73 dX3_go_52 (by decide) (fun c => ?_) (fun c => ?_)
  · replace h := h.1 c
    refine wp_iconst (nI 1) dX3_go_73 (by decide) ?_
    exact wp_zret rfl rfl dX3_go_74 h
  · replace h := h.2 c
    refine wp_aload_n 0 dX3_go_55 rfl rfl ?_
    refine wp_get 45 2 5 (by decide) (by decide) rfl rfl inG3 (by decide) wf_X3_17 rfl dX3_go_56 ?_
    refine wp_iload_n 1 dX3_go_59 rfl rfl ?_
    refine wp_aload_n 0 dX3_go_60 rfl rfl ?_
    refine wp_get 45 2 4 (by decide) (by decide) rfl rfl inG3 (by decide) wf_X3_14 rfl dX3_go_61 ?_
    refine wp_iload_n 1 dX3_go_64 rfl rfl ?_
    refine wp_zald (by decide) (by decide) dX3_go_65 h.1 ?_
    replace h := h.2
    refine wp_zast (by decide) (by decide) dX3_go_66 h.1 ?_
    replace h := h.2
    refine wp_iinc 1 (nI 1) (lv' := [(3, .int (x3 + (nI 1))), (0, .ref (eA g 45))]) dX3_go_67 (by decide) rfl (by decide) rfl ?_
    refine wp_goto 47 dX3_go_70 (by decide) ?_
    exact wp_sub [1, 0] rfl h
set_option maxRecDepth 100000 in
set_option maxHeartbeats 4000000 in
theorem E_X3_at (g : Ev) (d : Nat)  (σ : St) (K : Option Value → St → Prop) (h : Runs g 45 59 d M_X3_firstLetter [.ref (eA g 45)] σ (fun r1 σ1 => ∃ v1 : Int32, r1 = some (.int v1) ∧ ((v1 = (-1) → vp_in (nI 0) (lenZ 48) ∧ (((sI σ1 48 (nI 0).toNatClampNeg) = nI 0 → K (some (.int (-2))) σ1) ∧ (¬ (sI σ1 48 (nI 0).toNatClampNeg) = nI 0 → K (some (.int (-3))) σ1))) ∧ (¬ v1 = (-1) → K (some (.int v1)) σ1)))) : Runs g 45 59 (d + 1) M_X3_at [.ref (eA g 45)] σ K := by
  refine Runs.of (by decide) (Nat.le_of_ble_eq_true rfl) ?_
  show WP g 45 59 (d + 1) M_X3_at 0 [(0, .ref (eA g 45))] [] σ K
  refine wp_aload_n 0 dX3_at_0 rfl rfl ?_
  refine wp_callV [] [] 45 2 (by decide) (by decide) rfl rfl wc_X3_firstLetter wm_X3_137 ws_X3_firstLetter we_X3_firstLetter wi_X3 ok_X3_firstLetter (by decide) (Nat.le_of_ble_eq_true rfl) dX3_at_1 rfl h ?_
  rintro r1 σ1 ⟨v1, rfl, h⟩
  show WP g 45 59 (d + 1) M_X3_at 4 [(0, .ref (eA g 45))] [.int v1] σ1 K
  refine wp_istore_n (lv' := [(1, .int v1), (0, .ref (eA g 45))]) dX3_at_4 rfl (by decide) rfl ?_
  refine wp_iload_n 0 dX3_at_5 rfl rfl ?_
  refine wp_iconst (-1) dX3_at_6 (by decide) ?_
  refine wp_icmp_eq 14 dX3_at_7 (by decide) (fun c => ?_) (fun c => ?_)
  · replace h := h.1 c
    refine wp_aload_n 1 dX3_at_14 rfl rfl ?_
    refine wp_get 45 2 5 (by decide) (by decide) rfl rfl inG3 (by decide) wf_X3_17 rfl dX3_at_15 ?_
    refine wp_iconst (nI 0) dX3_at_18 (by decide) ?_
    refine wp_zald (by decide) (by decide) dX3_at_19 h.1 ?_
    replace h := h.2
    refine wp_if_eq 28 dX3_at_20 (by decide) (fun c => ?_) (fun c => ?_)
    · replace h := h.1 c
      refine wp_bipush (-2) dX3_at_28 (by decide) ?_
      exact wp_iret rfl dX3_at_30 h
    · replace h := h.2 c
      refine wp_bipush (-3) dX3_at_23 (by decide) ?_
      refine wp_goto 30 dX3_at_25 (by decide) ?_
      exact wp_iret rfl dX3_at_30 h
  · replace h := h.2 c
    refine wp_iload_n 0 dX3_at_10 rfl rfl ?_
    refine wp_goto 30 dX3_at_11 (by decide) ?_
    exact wp_iret rfl dX3_at_30 h
set_option maxRecDepth 100000 in
set_option maxHeartbeats 4000000 in
theorem E_X3_level (g : Ev) (d : Nat) (x1 : Int32) (x2 : Int32) (σ : St) (K : Option Value → St → Prop) (h : ((x1 < nI 0 → K (some (.int (-1))) σ) ∧ (¬ x1 < nI 0 → (((sV σ 8) ≤ x1 → K (some (.int (-1))) σ) ∧ (¬ (sV σ 8) ≤ x1 → ((x2 < nI 0 → K (some (.int (-1))) σ) ∧ (¬ x2 < nI 0 → ((x2 ≤ (nI 1) → ((¬ x2 = nI 0 → Runs g 45 59 d M_X3_forks [.ref (eA g 45), .int (nI 0), .int (nI 32), .int (-1), .ref (eA g 50)] σ (fun r1 σ1 => ∃ v1 : Int32, r1 = some (.int v1) ∧ vp_in x1 (lenI 54) ∧ K (some (.int (sI σ1 54 x1.toNatClampNeg))) σ1)) ∧ (x2 = nI 0 → vp_in x1 (lenI 50) ∧ K (some (.int (sI σ 50 x1.toNatClampNeg))) σ))) ∧ (¬ x2 ≤ (nI 1) → K (some (.int (-1))) σ))))))))) : Runs g 45 59 (d + 1) M_X3_level [.ref (eA g 45), .int x1, .int x2] σ K := by
  refine Runs.of (by decide) (Nat.le_of_ble_eq_true rfl) ?_
  show WP g 45 59 (d + 1) M_X3_level 0 [(0, .ref (eA g 45)), (1, .int x1), (2, .int x2)] [] σ K
  refine wp_iload_n 1 dX3_level_0 rfl rfl ?_
  refine wp_if_lt 21 dX3_level_1 (by decide) (fun c => ?_) (fun c => ?_)
  · replace h := h.1 c
    refine wp_iconst (-1) dX3_level_21 (by decide) ?_
    exact wp_iret rfl dX3_level_22 h
  · replace h := h.2 c
    refine wp_iload_n 1 dX3_level_4 rfl rfl ?_
    refine wp_aload_n 0 dX3_level_5 rfl rfl ?_
    refine wp_get 45 2 0 (by decide) (by decide) rfl rfl inG3 (by decide) wf_X3_55 rfl dX3_level_6 ?_
    refine wp_icmp_ge 21 dX3_level_9 (by decide) (fun c => ?_) (fun c => ?_)
    · replace h := h.1 c
      refine wp_iconst (-1) dX3_level_21 (by decide) ?_
      exact wp_iret rfl dX3_level_22 h
    · replace h := h.2 c
      refine wp_iload_n 2 dX3_level_12 rfl rfl ?_
      refine wp_if_lt 21 dX3_level_13 (by decide) (fun c => ?_) (fun c => ?_)
      · replace h := h.1 c
        refine wp_iconst (-1) dX3_level_21 (by decide) ?_
        exact wp_iret rfl dX3_level_22 h
      · replace h := h.2 c
        refine wp_iload_n 2 dX3_level_16 rfl rfl ?_
        refine wp_iconst (nI 1) dX3_level_17 (by decide) ?_
        refine wp_icmp_le 23 dX3_level_18 (by decide) (fun c => ?_) (fun c => ?_)
        · replace h := h.1 c
          refine wp_iload_n 2 dX3_level_23 rfl rfl ?_
          refine wp_if_ne 34 dX3_level_24 (by decide) (fun c => ?_) (fun c => ?_)
          · replace h := h.1 c
            refine wp_aload_n 0 dX3_level_34 rfl rfl ?_
            refine wp_iconst (nI 0) dX3_level_35 (by decide) ?_
            refine wp_bipush (nI 32) dX3_level_36 (by decide) ?_
            refine wp_iconst (-1) dX3_level_38 (by decide) ?_
            refine wp_aload_n 0 dX3_level_39 rfl rfl ?_
            refine wp_get 45 2 7 (by decide) (by decide) rfl rfl inG3 (by decide) wf_X3_24 rfl dX3_level_40 ?_
            refine wp_callV [.int (nI 0), .int (nI 32), .int (-1), .ref (eA g 50)] [] 45 2 (by decide) (by decide) rfl rfl wc_X3_forks wm_X3_88 ws_X3_forks we_X3_forks wi_X3 ok_X3_forks (by decide) (Nat.le_of_ble_eq_true rfl) dX3_level_43 rfl h ?_
            rintro r1 σ1 ⟨v1, rfl, h⟩
            show WP g 45 59 (d + 1) M_X3_level 46 [(0, .ref (eA g 45)), (1, .int x1), (2, .int x2)] [.int v1] σ1 K
            refine wp_pop dX3_level_46 rfl ?_
            refine wp_aload_n 0 dX3_level_47 rfl rfl ?_
            refine wp_get 45 2 11 (by decide) (by decide) rfl rfl inG3 (by decide) wf_X3_36 rfl dX3_level_48 ?_
            refine wp_iload_n 1 dX3_level_51 rfl rfl ?_
            refine wp_iald (by decide) (by decide) dX3_level_52 h.1 ?_
            replace h := h.2
            exact wp_iret rfl dX3_level_53 h
          · replace h := h.2 c
            refine wp_aload_n 0 dX3_level_27 rfl rfl ?_
            refine wp_get 45 2 7 (by decide) (by decide) rfl rfl inG3 (by decide) wf_X3_24 rfl dX3_level_28 ?_
            refine wp_iload_n 1 dX3_level_31 rfl rfl ?_
            refine wp_iald (by decide) (by decide) dX3_level_32 h.1 ?_
            replace h := h.2
            exact wp_iret rfl dX3_level_33 h
        · replace h := h.2 c
          refine wp_iconst (-1) dX3_level_21 (by decide) ?_
          exact wp_iret rfl dX3_level_22 h
set_option maxRecDepth 100000 in
set_option maxHeartbeats 4000000 in
theorem E_X3_count (g : Ev) (d : Nat) (x1 : Int32) (σ : St) (K : Option Value → St → Prop) (h : ((x1 = nI 0 → K (some (.int (sV σ 8))) σ) ∧ (x1 = nI 1 → K (some (.int (sV σ 10))) σ) ∧ (x1 = nI 2 → Runs g 45 59 d M_X3_forks [.ref (eA g 45), .int (nI 0), .int (nI 32), .int (-1), .ref (eA g 50)] σ (fun r1 σ1 => ∃ v1 : Int32, r1 = some (.int v1) ∧ K (some (.int v1)) σ1)) ∧ (x1 = nI 3 → Runs g 45 59 d M_X3_mixed [.ref (eA g 45)] σ (fun r2 σ2 => ∃ v2 : Int32, r2 = some (.int v2) ∧ K (some (.int v2)) σ2)) ∧ ((x1 < nI 0 ∨ nI 3 < x1) → K (some (.int (-1))) σ))) : Runs g 45 59 (d + 1) M_X3_count [.ref (eA g 45), .int x1] σ K := by
  refine Runs.of (by decide) (Nat.le_of_ble_eq_true rfl) ?_
  show WP g 45 59 (d + 1) M_X3_count 0 [(0, .ref (eA g 45)), (1, .int x1)] [] σ K
  refine wp_iload_n 1 dX3_count_0 rfl rfl ?_
  by_cases c0 : x1 = nI 0
  · replace h := h.1 c0
    refine wp_tableIn (off := 31) 32 dX3_count_1 (by rw [c0]; decide) (by rw [c0]; decide) (by rw [c0]; decide) (by decide) ?_
    refine wp_aload_n 0 dX3_count_32 rfl rfl ?_
    refine wp_get 45 2 0 (by decide) (by decide) rfl rfl inG3 (by decide) wf_X3_55 rfl dX3_count_33 ?_
    exact wp_iret rfl dX3_count_36 h
  by_cases c1 : x1 = nI 1
  · replace h := h.2.1 c1
    refine wp_tableIn (off := 36) 37 dX3_count_1 (by rw [c1]; decide) (by rw [c1]; decide) (by rw [c1]; decide) (by decide) ?_
    refine wp_aload_n 0 dX3_count_37 rfl rfl ?_
    refine wp_get 45 2 2 (by decide) (by decide) rfl rfl inG3 (by decide) wf_X3_62 rfl dX3_count_38 ?_
    exact wp_iret rfl dX3_count_41 h
  by_cases c2 : x1 = nI 2
  · replace h := h.2.2.1 c2
    refine wp_tableIn (off := 41) 42 dX3_count_1 (by rw [c2]; decide) (by rw [c2]; decide) (by rw [c2]; decide) (by decide) ?_
    refine wp_aload_n 0 dX3_count_42 rfl rfl ?_
    refine wp_iconst (nI 0) dX3_count_43 (by decide) ?_
    refine wp_bipush (nI 32) dX3_count_44 (by decide) ?_
    refine wp_iconst (-1) dX3_count_46 (by decide) ?_
    refine wp_aload_n 0 dX3_count_47 rfl rfl ?_
    refine wp_get 45 2 7 (by decide) (by decide) rfl rfl inG3 (by decide) wf_X3_24 rfl dX3_count_48 ?_
    refine wp_callV [.int (nI 0), .int (nI 32), .int (-1), .ref (eA g 50)] [] 45 2 (by decide) (by decide) rfl rfl wc_X3_forks wm_X3_88 ws_X3_forks we_X3_forks wi_X3 ok_X3_forks (by decide) (Nat.le_of_ble_eq_true rfl) dX3_count_51 rfl h ?_
    rintro r1 σ1 ⟨v1, rfl, h⟩
    show WP g 45 59 (d + 1) M_X3_count 54 [(0, .ref (eA g 45)), (1, .int x1)] [.int v1] σ1 K
    exact wp_iret rfl dX3_count_54 h
  by_cases c3 : x1 = nI 3
  · replace h := h.2.2.2.1 c3
    refine wp_tableIn (off := 54) 55 dX3_count_1 (by rw [c3]; decide) (by rw [c3]; decide) (by rw [c3]; decide) (by decide) ?_
    refine wp_aload_n 0 dX3_count_55 rfl rfl ?_
    refine wp_callV [] [] 45 2 (by decide) (by decide) rfl rfl wc_X3_mixed wm_X3_140 ws_X3_mixed we_X3_mixed wi_X3 ok_X3_mixed (by decide) (Nat.le_of_ble_eq_true rfl) dX3_count_56 rfl h ?_
    rintro r2 σ2 ⟨v2, rfl, h⟩
    show WP g 45 59 (d + 1) M_X3_count 59 [(0, .ref (eA g 45)), (1, .int x1)] [.int v2] σ2 K
    exact wp_iret rfl dX3_count_59 h
  have c9 : x1 < nI 0 ∨ nI 3 < x1 := by rcases tsw_out x1 with q | q | q | q | q <;> first | exact absurd q c0 | exact absurd q c1 | exact absurd q c2 | exact absurd q c3 | exact q
  replace h := h.2.2.2.2 c9
  refine wp_tableOut 60 dX3_count_1 (tsw_int c9) (by decide) ?_
  refine wp_iconst (-1) dX3_count_60 (by decide) ?_
  exact wp_iret rfl dX3_count_61 h
set_option maxRecDepth 100000 in
set_option maxHeartbeats 4000000 in
theorem E_X3_mixed (g : Ev) (d : Nat)  (σ : St) (K : Option Value → St → Prop) (h : WP g 45 59 (d + 1) M_X3_mixed 4 [(0, .ref (eA g 45)), (1, .int (nI 0)), (2, .int (nI 0))] [] σ K) : Runs g 45 59 (d + 1) M_X3_mixed [.ref (eA g 45)] σ K := by
  refine Runs.of (by decide) (Nat.le_of_ble_eq_true rfl) ?_
  show WP g 45 59 (d + 1) M_X3_mixed 0 [(0, .ref (eA g 45))] [] σ K
  refine wp_iconst (nI 0) dX3_mixed_0 (by decide) ?_
  refine wp_istore_n (lv' := [(1, .int (nI 0)), (0, .ref (eA g 45))]) dX3_mixed_1 rfl (by decide) rfl ?_
  refine wp_iconst (nI 0) dX3_mixed_2 (by decide) ?_
  refine wp_istore_n (lv' := [(2, .int (nI 0)), (1, .int (nI 0)), (0, .ref (eA g 45))]) dX3_mixed_3 rfl (by decide) rfl ?_
  exact wp_sub [2, 1, 0] rfl h
set_option maxRecDepth 100000 in
set_option maxHeartbeats 4000000 in
theorem R_X3_mixed_4 (g : Ev) (d : Nat) (x1 : Int32) (x2 : Int32) (σ : St) (K : Option Value → St → Prop) (h : (((nI 32) ≤ x2 → K (some (.int x1)) σ) ∧ (¬ (nI 32) ≤ x2 → Runs g 45 59 d M_X3_manyOf [.ref (eA g 45), .int x2] σ (fun r1 σ1 => ∃ v1 : Int32, r1 = some (.int v1) ∧ ((v1 ≤ nI 0 → WP g 45 59 (d + 1) M_X3_mixed 4 [(0, .ref (eA g 45)), (1, .int (x1 + (nI 0))), (2, .int (x2 + (nI 1)))] [] σ1 K) ∧ (¬ v1 ≤ nI 0 → Runs g 45 59 d M_X3_manyOf [.ref (eA g 45), .int x2] σ1 (fun r2 σ2 => ∃ v2 : Int32, r2 = some (.int v2) ∧ (((sV σ2 9) ≤ v2 → WP g 45 59 (d + 1) M_X3_mixed 4 [(0, .ref (eA g 45)), (1, .int (x1 + (nI 0))), (2, .int (x2 + (nI 1)))] [] σ2 K) ∧ (¬ (sV σ2 9) ≤ v2 → WP g 45 59 (d + 1) M_X3_mixed 4 [(0, .ref (eA g 45)), (1, .int (x1 + (nI 1))), (2, .int (x2 + (nI 1)))] [] σ2 K))))))))) : WP g 45 59 (d + 1) M_X3_mixed 4 [(0, .ref (eA g 45)), (1, .int x1), (2, .int x2)] [] σ K := by
  refine wp_iload_n 2 dX3_mixed_4 rfl rfl ?_
  refine wp_bipush (nI 32) dX3_mixed_5 (by decide) ?_
  refine wp_icmp_ge 44 dX3_mixed_7 (by decide) (fun c => ?_) (fun c => ?_)
  · replace h := h.1 c
    refine wp_iload_n 1 dX3_mixed_44 rfl rfl ?_
    exact wp_iret rfl dX3_mixed_45 h
  · replace h := h.2 c
    refine wp_iload_n 1 dX3_mixed_10 rfl rfl ?_
    refine wp_aload_n 0 dX3_mixed_11 rfl rfl ?_
    refine wp_iload_n 2 dX3_mixed_12 rfl rfl ?_
    refine wp_callV [.int x2] [.int x1] 45 2 (by decide) (by decide) rfl rfl wc_X3_manyOf wm_X3_111 ws_X3_manyOf we_X3_manyOf wi_X3 ok_X3_manyOf (by decide) (Nat.le_of_ble_eq_true rfl) dX3_mixed_13 rfl h ?_
    rintro r1 σ1 ⟨v1, rfl, h⟩
    show WP g 45 59 (d + 1) M_X3_mixed 16 [(0, .ref (eA g 45)), (1, .int x1), (2, .int x2)] [.int v1, .int x1] σ1 K
    refine wp_if_le 35 dX3_mixed_16 (by decide) (fun c => ?_) (fun c => ?_)
    · replace h := h.1 c
      refine wp_iconst (nI 0) dX3_mixed_35 (by decide) ?_
      refine wp_iadd dX3_mixed_36 ?_
      refine wp_istore_n (lv' := [(1, .int (x1 + (nI 0))), (0, .ref (eA g 45)), (2, .int x2)]) dX3_mixed_37 rfl (by decide) rfl ?_
      refine wp_iinc 2 (nI 1) (lv' := [(2, .int (x2 + (nI 1))), (1, .int (x1 + (nI 0))), (0, .ref (eA g 45))]) dX3_mixed_38 (by decide) rfl (by decide) rfl ?_
      refine wp_goto 4 dX3_mixed_41 (by decide) ?_
      exact wp_sub [2, 1, 0] rfl h
    · replace h := h.2 c
      refine wp_aload_n 0 dX3_mixed_19 rfl rfl ?_
      refine wp_iload_n 2 dX3_mixed_20 rfl rfl ?_
      refine wp_callV [.int x2] [.int x1] 45 2 (by decide) (by decide) rfl rfl wc_X3_manyOf wm_X3_111 ws_X3_manyOf we_X3_manyOf wi_X3 ok_X3_manyOf (by decide) (Nat.le_of_ble_eq_true rfl) dX3_mixed_21 rfl h ?_
      rintro r2 σ2 ⟨v2, rfl, h⟩
      show WP g 45 59 (d + 1) M_X3_mixed 24 [(0, .ref (eA g 45)), (1, .int x1), (2, .int x2)] [.int v2, .int x1] σ2 K
      refine wp_aload_n 0 dX3_mixed_24 rfl rfl ?_
      refine wp_get 45 2 1 (by decide) (by decide) rfl rfl inG3 (by decide) wf_X3_59 rfl dX3_mixed_25 ?_
      refine wp_icmp_ge 35 dX3_mixed_28 (by decide) (fun c => ?_) (fun c => ?_)
      · replace h := h.1 c
        refine wp_iconst (nI 0) dX3_mixed_35 (by decide) ?_
        refine wp_iadd dX3_mixed_36 ?_
        refine wp_istore_n (lv' := [(1, .int (x1 + (nI 0))), (0, .ref (eA g 45)), (2, .int x2)]) dX3_mixed_37 rfl (by decide) rfl ?_
        refine wp_iinc 2 (nI 1) (lv' := [(2, .int (x2 + (nI 1))), (1, .int (x1 + (nI 0))), (0, .ref (eA g 45))]) dX3_mixed_38 (by decide) rfl (by decide) rfl ?_
        refine wp_goto 4 dX3_mixed_41 (by decide) ?_
        exact wp_sub [2, 1, 0] rfl h
      · replace h := h.2 c
        refine wp_iconst (nI 1) dX3_mixed_31 (by decide) ?_
        refine wp_goto 36 dX3_mixed_32 (by decide) ?_
        refine wp_iadd dX3_mixed_36 ?_
        refine wp_istore_n (lv' := [(1, .int (x1 + (nI 1))), (0, .ref (eA g 45)), (2, .int x2)]) dX3_mixed_37 rfl (by decide) rfl ?_
        refine wp_iinc 2 (nI 1) (lv' := [(2, .int (x2 + (nI 1))), (1, .int (x1 + (nI 1))), (0, .ref (eA g 45))]) dX3_mixed_38 (by decide) rfl (by decide) rfl ?_
        refine wp_goto 4 dX3_mixed_41 (by decide) ?_
        exact wp_sub [2, 1, 0] rfl h

set_option maxRecDepth 100000 in
set_option maxHeartbeats 4000000 in
theorem E_X1_forksOf (g : Ev) (d : Nat) (x2 : Int32) (x3 : Int32) (x4 : Int32) (x5 : Int32) (σ : St) (K : Option Value → St → Prop) (h : Runs g 0 45 d M_X1_list [.ref (eA g 6), .ref (eA g 1), .int x2, .int x3, .int x4, .int x5] σ (fun r1 σ1 => r1 = none ∧ WP g 0 45 (d + 1) M_X1_forksOf 17 [(0, .ref (eA g 6)), (1, .ref (eA g 1)), (5, .int x5), (6, .int (nI 0)), (7, .int (nI 0))] [] σ1 K)) : Runs g 0 45 (d + 1) M_X1_forksOf [.ref (eA g 6), .ref (eA g 1), .int x2, .int x3, .int x4, .int x5] σ K := by
  refine Runs.of (by decide) (Nat.le_of_ble_eq_true rfl) ?_
  show WP g 0 45 (d + 1) M_X1_forksOf 0 [(0, .ref (eA g 6)), (1, .ref (eA g 1)), (2, .int x2), (3, .int x3), (4, .int x4), (5, .int x5)] [] σ K
  refine wp_aload_n 0 dX1_forksOf_0 rfl rfl ?_
  refine wp_aload_n 1 dX1_forksOf_1 rfl rfl ?_
  refine wp_iload_n 2 dX1_forksOf_2 rfl rfl ?_
  refine wp_iload_n 3 dX1_forksOf_3 rfl rfl ?_
  refine wp_iload 4 dX1_forksOf_4 rfl ?_
  refine wp_iload 5 dX1_forksOf_6 rfl ?_
  refine wp_callV [.ref (eA g 1), .int x2, .int x3, .int x4, .int x5] [] 6 0 (by decide) (by decide) rfl rfl wc_X1_list wm_X1_24 ws_X1_list we_X1_list wi_X1 ok_X1_list (by decide) (Nat.le_of_ble_eq_true rfl) dX1_forksOf_8 rfl h ?_
  rintro r1 σ1 ⟨rfl, h⟩
  show WP g 0 45 (d + 1) M_X1_forksOf 11 [(0, .ref (eA g 6)), (1, .ref (eA g 1)), (2, .int x2), (3, .int x3), (4, .int x4), (5, .int x5)] [] σ1 K
  refine wp_iconst (nI 0) dX1_forksOf_11 (by decide) ?_
  refine wp_istore (lv' := [(6, .int (nI 0)), (0, .ref (eA g 6)), (1, .ref (eA g 1)), (2, .int x2), (3, .int x3), (4, .int x4), (5, .int x5)]) dX1_forksOf_12 (by decide) rfl ?_
  refine wp_iconst (nI 0) dX1_forksOf_14 (by decide) ?_
  refine wp_istore (lv' := [(7, .int (nI 0)), (6, .int (nI 0)), (0, .ref (eA g 6)), (1, .ref (eA g 1)), (2, .int x2), (3, .int x3), (4, .int x4), (5, .int x5)]) dX1_forksOf_15 (by decide) rfl ?_
  exact wp_sub [2, 3, 7, 1, 0] rfl h
set_option maxRecDepth 100000 in
set_option maxHeartbeats 4000000 in
theorem R_X1_forksOf_17 (g : Ev) (d : Nat) (x5 : Int32) (x6 : Int32) (x7 : Int32) (σ : St) (K : Option Value → St → Prop) (h : ((x5 ≤ x7 → K (some (.int x6)) σ) ∧ (¬ x5 ≤ x7 → Runs g 0 45 d M_X1_cut [.ref (eA g 6), .ref (eA g 1), .int (jshl (nI 1) ((x5 - (nI 1)) - x7))] σ (fun r1 σ1 => ∃ v1 : Int32, r1 = some (.int v1) ∧ vp_in x7 (lenI 7) ∧ vp_in x7 (lenI 7) ∧ WP g 0 45 (d + 1) M_X1_forksOf 17 [(0, .ref (eA g 6)), (1, .ref (eA g 1)), (5, .int x5), (6, .int (x6 + (sI (uI σ1 7 x7.toNatClampNeg v1) 7 x7.toNatClampNeg))), (7, .int (x7 + (nI 1)))] [] (uI σ1 7 x7.toNatClampNeg v1) K)))) : WP g 0 45 (d + 1) M_X1_forksOf 17 [(0, .ref (eA g 6)), (1, .ref (eA g 1)), (5, .int x5), (6, .int x6), (7, .int x7)] [] σ K := by
  refine wp_iload 4 dX1_forksOf_17 rfl ?_
  refine wp_iload 2 dX1_forksOf_19 rfl ?_
  refine wp_icmp_ge 63 dX1_forksOf_21 (by decide) (fun c => ?_) (fun c => ?_)
  · replace h := h.1 c
    refine wp_iload 3 dX1_forksOf_63 rfl ?_
    exact wp_iret rfl dX1_forksOf_65 h
  · replace h := h.2 c
    refine wp_aload_n 0 dX1_forksOf_24 rfl rfl ?_
    refine wp_get 6 0 0 (by decide) (by decide) rfl rfl inG1 (by decide) wf_X1_11 rfl dX1_forksOf_25 ?_
    refine wp_iload 4 dX1_forksOf_28 rfl ?_
    refine wp_aload_n 0 dX1_forksOf_30 rfl rfl ?_
    refine wp_aload_n 1 dX1_forksOf_31 rfl rfl ?_
    refine wp_iconst (nI 1) dX1_forksOf_32 (by decide) ?_
    refine wp_iload 2 dX1_forksOf_33 rfl ?_
    refine wp_iconst (nI 1) dX1_forksOf_35 (by decide) ?_
    refine wp_isub dX1_forksOf_36 ?_
    refine wp_iload 4 dX1_forksOf_37 rfl ?_
    refine wp_isub dX1_forksOf_39 ?_
    refine wp_ishl dX1_forksOf_40 ?_
    refine wp_callV [.ref (eA g 1), .int (jshl (nI 1) ((x5 - (nI 1)) - x7))] [.int x7, .ref (eA g 7)] 6 0 (by decide) (by decide) rfl rfl wc_X1_cut wm_X1_28 ws_X1_cut we_X1_cut wi_X1 ok_X1_cut (by decide) (Nat.le_of_ble_eq_true rfl) dX1_forksOf_41 rfl h ?_
    rintro r1 σ1 ⟨v1, rfl, h⟩
    show WP g 0 45 (d + 1) M_X1_forksOf 44 [(0, .ref (eA g 6)), (1, .ref (eA g 1)), (5, .int x5), (6, .int x6), (7, .int x7)] [.int v1, .int x7, .ref (eA g 7)] σ1 K
    refine wp_iast (by decide) (by decide) dX1_forksOf_44 h.1 ?_
    replace h := h.2
    refine wp_iload 3 dX1_forksOf_45 rfl ?_
    refine wp_aload_n 0 dX1_forksOf_47 rfl rfl ?_
    refine wp_get 6 0 0 (by decide) (by decide) rfl rfl inG1 (by decide) wf_X1_11 rfl dX1_forksOf_48 ?_
    refine wp_iload 4 dX1_forksOf_51 rfl ?_
    refine wp_iald (by decide) (by decide) dX1_forksOf_53 h.1 ?_
    replace h := h.2
    refine wp_iadd dX1_forksOf_54 ?_
    refine wp_istore (lv' := [(6, .int (x6 + (sI (uI σ1 7 x7.toNatClampNeg v1) 7 x7.toNatClampNeg))), (0, .ref (eA g 6)), (1, .ref (eA g 1)), (5, .int x5), (7, .int x7)]) dX1_forksOf_55 (by decide) rfl ?_
    refine wp_iinc 4 (nI 1) (lv' := [(7, .int (x7 + (nI 1))), (6, .int (x6 + (sI (uI σ1 7 x7.toNatClampNeg v1) 7 x7.toNatClampNeg))), (0, .ref (eA g 6)), (1, .ref (eA g 1)), (5, .int x5)]) dX1_forksOf_57 (by decide) rfl (by decide) rfl ?_
    refine wp_goto 17 dX1_forksOf_60 (by decide) ?_
    exact wp_sub [2, 3, 4, 1, 0] rfl h
set_option maxRecDepth 100000 in
set_option maxHeartbeats 4000000 in
theorem E_X1_list (g : Ev) (d : Nat) (x2 : Int32) (x3 : Int32) (x4 : Int32) (x5 : Int32) (σ : St) (K : Option Value → St → Prop) (h : Runs g 0 45 d M_X1_clear [.ref (eA g 6), .int ((x3 - x2) + (nI 1))] σ (fun r1 σ1 => r1 = none ∧ WP g 0 45 (d + 1) M_X1_list 12 [(0, .ref (eA g 6)), (1, .ref (eA g 1)), (3, .int x3), (4, .int x4), (5, .int x5), (6, .int x2)] [] σ1 K)) : Runs g 0 45 (d + 1) M_X1_list [.ref (eA g 6), .ref (eA g 1), .int x2, .int x3, .int x4, .int x5] σ K := by
  refine Runs.of (by decide) (Nat.le_of_ble_eq_true rfl) ?_
  show WP g 0 45 (d + 1) M_X1_list 0 [(0, .ref (eA g 6)), (1, .ref (eA g 1)), (2, .int x2), (3, .int x3), (4, .int x4), (5, .int x5)] [] σ K
  refine wp_aload_n 0 dX1_list_0 rfl rfl ?_
  refine wp_iload_n 3 dX1_list_1 rfl rfl ?_
  refine wp_iload_n 2 dX1_list_2 rfl rfl ?_
  refine wp_isub dX1_list_3 ?_
  refine wp_iconst (nI 1) dX1_list_4 (by decide) ?_
  refine wp_iadd dX1_list_5 ?_
  refine wp_callV [.int ((x3 - x2) + (nI 1))] [] 6 0 (by decide) (by decide) rfl rfl wc_X1_clear wm_X1_32 ws_X1_clear we_X1_clear wi_X1 ok_X1_clear (by decide) (Nat.le_of_ble_eq_true rfl) dX1_list_6 rfl h ?_
  rintro r1 σ1 ⟨rfl, h⟩
  show WP g 0 45 (d + 1) M_X1_list 9 [(0, .ref (eA g 6)), (1, .ref (eA g 1)), (2, .int x2), (3, .int x3), (4, .int x4), (5, .int x5)] [] σ1 K
  refine wp_iload_n 2 dX1_list_9 rfl rfl ?_
  refine wp_istore (lv' := [(6, .int x2), (0, .ref (eA g 6)), (1, .ref (eA g 1)), (2, .int x2), (3, .int x3), (4, .int x4), (5, .int x5)]) dX1_list_10 (by decide) rfl ?_
  exact wp_sub [1, 2, 4, 5, 6, 0] rfl h
set_option maxRecDepth 100000 in
set_option maxHeartbeats 4000000 in
theorem R_X1_list_12 (g : Ev) (d : Nat) (x3 : Int32) (x4 : Int32) (x5 : Int32) (x6 : Int32) (σ : St) (K : Option Value → St → Prop) (h : ((x3 < x6 → K none σ) ∧ (¬ x3 < x6 → ((¬ x6 = x4 → Runs g 0 45 d M_X1_find [.ref (eA g 6), .ref (eA g 1), .int x6, .int (nI 0), .int (jshl (nI 1) x5)] σ (fun r1 σ1 => r1 = none ∧ WP g 0 45 (d + 1) M_X1_list 12 [(0, .ref (eA g 6)), (1, .ref (eA g 1)), (3, .int x3), (4, .int x4), (5, .int x5), (6, .int (x6 + (nI 1)))] [] σ1 K)) ∧ (x6 = x4 → Runs g 0 45 d M_X1_find [.ref (eA g 6), .ref (eA g 1), .int (nI 32), .int (nI 0), .int (jshl (nI 1) x5)] σ (fun r2 σ2 => r2 = none ∧ WP g 0 45 (d + 1) M_X1_list 12 [(0, .ref (eA g 6)), (1, .ref (eA g 1)), (3, .int x3), (4, .int x4), (5, .int x5), (6, .int (x6 + (nI 1)))] [] σ2 K)))))) : WP g 0 45 (d + 1) M_X1_list 12 [(0, .ref (eA g 6)), (1, .ref (eA g 1)), (3, .int x3), (4, .int x4), (5, .int x5), (6, .int x6)] [] σ K := by
  refine wp_iload 5 dX1_list_12 rfl ?_
  refine wp_iload_n 2 dX1_list_14 rfl rfl ?_
  refine wp_icmp_gt 48 dX1_list_15 (by decide) (fun c => ?_) (fun c => ?_)
  · replace h := h.1 c
    exact wp_vret rfl dX1_list_48 h
  · replace h := h.2 c
    refine wp_aload_n 0 dX1_list_18 rfl rfl ?_
    refine wp_aload_n 1 dX1_list_19 rfl rfl ?_
    refine wp_iload 5 dX1_list_20 rfl ?_
    refine wp_iload 3 dX1_list_22 rfl ?_
    refine wp_icmp_ne 32 dX1_list_24 (by decide) (fun c => ?_) (fun c => ?_)
    · replace h := h.1 c
      refine wp_iload 5 dX1_list_32 rfl ?_
      refine wp_iconst (nI 0) dX1_list_34 (by decide) ?_
      refine wp_iconst (nI 1) dX1_list_35 (by decide) ?_
      refine wp_iload 4 dX1_list_36 rfl ?_
      refine wp_ishl dX1_list_38 ?_
      refine wp_callV [.ref (eA g 1), .int x6, .int (nI 0), .int (jshl (nI 1) x5)] [] 6 0 (by decide) (by decide) rfl rfl wc_X1_find wm_X1_36 ws_X1_find we_X1_find wi_X1 ok_X1_find (by decide) (Nat.le_of_ble_eq_true rfl) dX1_list_39 rfl h ?_
      rintro r1 σ1 ⟨rfl, h⟩
      show WP g 0 45 (d + 1) M_X1_list 42 [(0, .ref (eA g 6)), (1, .ref (eA g 1)), (3, .int x3), (4, .int x4), (5, .int x5), (6, .int x6)] [] σ1 K
      refine wp_iinc 5 (nI 1) (lv' := [(6, .int (x6 + (nI 1))), (0, .ref (eA g 6)), (1, .ref (eA g 1)), (3, .int x3), (4, .int x4), (5, .int x5)]) dX1_list_42 (by decide) rfl (by decide) rfl ?_
      refine wp_goto 12 dX1_list_45 (by decide) ?_
      exact wp_sub [1, 2, 3, 4, 5, 0] rfl h
    · replace h := h.2 c
      refine wp_bipush (nI 32) dX1_list_27 (by decide) ?_
      refine wp_goto 34 dX1_list_29 (by decide) ?_
      refine wp_iconst (nI 0) dX1_list_34 (by decide) ?_
      refine wp_iconst (nI 1) dX1_list_35 (by decide) ?_
      refine wp_iload 4 dX1_list_36 rfl ?_
      refine wp_ishl dX1_list_38 ?_
      refine wp_callV [.ref (eA g 1), .int (nI 32), .int (nI 0), .int (jshl (nI 1) x5)] [] 6 0 (by decide) (by decide) rfl rfl wc_X1_find wm_X1_36 ws_X1_find we_X1_find wi_X1 ok_X1_find (by decide) (Nat.le_of_ble_eq_true rfl) dX1_list_39 rfl h ?_
      rintro r2 σ2 ⟨rfl, h⟩
      show WP g 0 45 (d + 1) M_X1_list 42 [(0, .ref (eA g 6)), (1, .ref (eA g 1)), (3, .int x3), (4, .int x4), (5, .int x5), (6, .int x6)] [] σ2 K
      refine wp_iinc 5 (nI 1) (lv' := [(6, .int (x6 + (nI 1))), (0, .ref (eA g 6)), (1, .ref (eA g 1)), (3, .int x3), (4, .int x4), (5, .int x5)]) dX1_list_42 (by decide) rfl (by decide) rfl ?_
      refine wp_goto 12 dX1_list_45 (by decide) ?_
      exact wp_sub [1, 2, 3, 4, 5, 0] rfl h
set_option maxRecDepth 100000 in
set_option maxHeartbeats 4000000 in
theorem E_X1_forksListed (g : Ev) (d : Nat) (x2 : Int32) (σ : St) (K : Option Value → St → Prop) (h : WP g 0 45 (d + 1) M_X1_forksListed 5 [(0, .ref (eA g 6)), (1, .ref (eA g 1)), (2, .int x2), (3, .int (nI 0)), (4, .int (nI 0))] [] σ K) : Runs g 0 45 (d + 1) M_X1_forksListed [.ref (eA g 6), .ref (eA g 1), .int x2] σ K := by
  refine Runs.of (by decide) (Nat.le_of_ble_eq_true rfl) ?_
  show WP g 0 45 (d + 1) M_X1_forksListed 0 [(0, .ref (eA g 6)), (1, .ref (eA g 1)), (2, .int x2)] [] σ K
  refine wp_iconst (nI 0) dX1_forksListed_0 (by decide) ?_
  refine wp_istore_n (lv' := [(3, .int (nI 0)), (0, .ref (eA g 6)), (1, .ref (eA g 1)), (2, .int x2)]) dX1_forksListed_1 rfl (by decide) rfl ?_
  refine wp_iconst (nI 0) dX1_forksListed_2 (by decide) ?_
  refine wp_istore (lv' := [(4, .int (nI 0)), (3, .int (nI 0)), (0, .ref (eA g 6)), (1, .ref (eA g 1)), (2, .int x2)]) dX1_forksListed_3 (by decide) rfl ?_
  exact wp_sub [2, 3, 4, 1, 0] rfl h
set_option maxRecDepth 100000 in
set_option maxHeartbeats 4000000 in
theorem R_X1_forksListed_5 (g : Ev) (d : Nat) (x2 : Int32) (x3 : Int32) (x4 : Int32) (σ : St) (K : Option Value → St → Prop) (h : (((sV σ 6) ≤ x4 → K (some (.int x3)) σ) ∧ (¬ (sV σ 6) ≤ x4 → ((sR σ 1) < 45 ∧ vp_in x4 (lenI (sR σ 1))) ∧ vp_in (jshr (sI σ (sR σ 1) x4.toNatClampNeg) (nI 12)) 34 ∧ ((sR σ 1) < 45 ∧ vp_in x4 (lenI (sR σ 1))) ∧ Runs g 0 45 d M_X0_alike [.ref (eA g (11 + (jshr (sI σ (sR σ 1) x4.toNatClampNeg) (nI 12)).toNatClampNeg)), .int ((sI σ (sR σ 1) x4.toNatClampNeg) &&& (nI 4095)), .ref (eA g (11 + (jshr (sI σ (sR σ 1) x4.toNatClampNeg) (nI 12)).toNatClampNeg)), .int (((sI σ (sR σ 1) x4.toNatClampNeg) &&& (nI 4095)) + x2), .int x2] σ (fun r1 σ1 => ∃ v1 : Int32, r1 = some (.int v1) ∧ ((¬ v1 = nI 0 → WP g 0 45 (d + 1) M_X1_forksListed 5 [(0, .ref (eA g 6)), (1, .ref (eA g 1)), (2, .int x2), (3, .int x3), (4, .int (x4 + (nI 1)))] [] σ1 K) ∧ (v1 = nI 0 → WP g 0 45 (d + 1) M_X1_forksListed 5 [(0, .ref (eA g 6)), (1, .ref (eA g 1)), (2, .int x2), (3, .int (x3 + (nI 1))), (4, .int (x4 + (nI 1)))] [] σ1 K)))))) : WP g 0 45 (d + 1) M_X1_forksListed 5 [(0, .ref (eA g 6)), (1, .ref (eA g 1)), (2, .int x2), (3, .int x3), (4, .int x4)] [] σ K := by
  refine wp_iload 4 dX1_forksListed_5 rfl ?_
  refine wp_aload_n 0 dX1_forksListed_7 rfl rfl ?_
  refine wp_get 6 0 3 (by decide) (by decide) rfl rfl inG1 (by decide) wf_X1_40 rfl dX1_forksListed_8 ?_
  refine wp_icmp_ge 67 dX1_forksListed_11 (by decide) (fun c => ?_) (fun c => ?_)
  · replace h := h.1 c
    refine wp_iload_n 3 dX1_forksListed_67 rfl rfl ?_
    exact wp_iret rfl dX1_forksListed_68 h
  · replace h := h.2 c
    refine wp_aload_n 1 dX1_forksListed_14 rfl rfl ?_
    refine wp_aload_n 0 dX1_forksListed_15 rfl rfl ?_
    refine wp_get 6 0 2 (by decide) (by decide) rfl rfl inG1 (by decide) wf_X1_18 rfl dX1_forksListed_16 ?_
    refine wp_iload 4 dX1_forksListed_19 rfl ?_
    refine wp_iald (Nat.zero_le _) h.1.1 dX1_forksListed_21 h.1.2 ?_
    replace h := h.2
    refine wp_bipush (nI 12) dX1_forksListed_22 (by decide) ?_
    refine wp_ishr dX1_forksListed_24 ?_
    refine wp_aald (by decide) (by decide) dX1_forksListed_25 h.1 ?_
    replace h := h.2
    refine wp_astore (lv' := [(5, .ref (eA g (11 + (jshr (sI σ (sR σ 1) x4.toNatClampNeg) (nI 12)).toNatClampNeg))), (0, .ref (eA g 6)), (1, .ref (eA g 1)), (2, .int x2), (3, .int x3), (4, .int x4)]) dX1_forksListed_26 (by decide) rfl ?_
    refine wp_aload_n 1 dX1_forksListed_28 rfl rfl ?_
    refine wp_get 6 0 2 (by decide) (by decide) rfl rfl inG1 (by decide) wf_X1_18 rfl dX1_forksListed_29 ?_
    refine wp_iload 5 dX1_forksListed_32 rfl ?_
    refine wp_iald (Nat.zero_le _) h.1.1 dX1_forksListed_34 h.1.2 ?_
    replace h := h.2
    refine wp_sipush (nI 4095) dX1_forksListed_35 (by decide) ?_
    refine wp_iand dX1_forksListed_38 ?_
    refine wp_istore (lv' := [(6, .int ((sI σ (sR σ 1) x4.toNatClampNeg) &&& (nI 4095))), (5, .ref (eA g (11 + (jshr (sI σ (sR σ 1) x4.toNatClampNeg) (nI 12)).toNatClampNeg))), (0, .ref (eA g 6)), (1, .ref (eA g 1)), (2, .int x2), (3, .int x3), (4, .int x4)]) dX1_forksListed_39 (by decide) rfl ?_
    refine wp_aload 1 dX1_forksListed_41 rfl ?_
    refine wp_iload 0 dX1_forksListed_43 rfl ?_
    refine wp_aload 1 dX1_forksListed_45 rfl ?_
    refine wp_iload 0 dX1_forksListed_47 rfl ?_
    refine wp_iload_n 4 dX1_forksListed_49 rfl rfl ?_
    refine wp_iadd dX1_forksListed_50 ?_
    refine wp_iload_n 4 dX1_forksListed_51 rfl rfl ?_
    refine wp_callSN [.ref (eA g (11 + (jshr (sI σ (sR σ 1) x4.toNatClampNeg) (nI 12)).toNatClampNeg)), .int ((sI σ (sR σ 1) x4.toNatClampNeg) &&& (nI 4095)), .ref (eA g (11 + (jshr (sI σ (sR σ 1) x4.toNatClampNeg) (nI 12)).toNatClampNeg)), .int (((sI σ (sR σ 1) x4.toNatClampNeg) &&& (nI 4095)) + x2), .int x2] [] wc_X0_alike wn_X1_44 ws_X0_alike wi_X0 ok_X0_alike (by decide) (Nat.le_of_ble_eq_true rfl) dX1_forksListed_52 rfl h ?_
    rintro r1 σ1 ⟨v1, rfl, h⟩
    show WP g 0 45 (d + 1) M_X1_forksListed 55 [(6, .int ((sI σ (sR σ 1) x4.toNatClampNeg) &&& (nI 4095))), (5, .ref (eA g (11 + (jshr (sI σ (sR σ 1) x4.toNatClampNeg) (nI 12)).toNatClampNeg))), (0, .ref (eA g 6)), (1, .ref (eA g 1)), (2, .int x2), (3, .int x3), (4, .int x4)] [.int v1] σ1 K
    refine wp_if_ne 61 dX1_forksListed_55 (by decide) (fun c => ?_) (fun c => ?_)
    · replace h := h.1 c
      refine wp_iinc 6 (nI 1) (lv' := [(4, .int (x4 + (nI 1))), (6, .int ((sI σ (sR σ 1) x4.toNatClampNeg) &&& (nI 4095))), (5, .ref (eA g (11 + (jshr (sI σ (sR σ 1) x4.toNatClampNeg) (nI 12)).toNatClampNeg))), (0, .ref (eA g 6)), (1, .ref (eA g 1)), (2, .int x2), (3, .int x3)]) dX1_forksListed_61 (by decide) rfl (by decide) rfl ?_
      refine wp_goto 5 dX1_forksListed_64 (by decide) ?_
      exact wp_sub [3, 4, 5, 6, 0] rfl h
    · replace h := h.2 c
      refine wp_iinc 5 (nI 1) (lv' := [(3, .int (x3 + (nI 1))), (6, .int ((sI σ (sR σ 1) x4.toNatClampNeg) &&& (nI 4095))), (5, .ref (eA g (11 + (jshr (sI σ (sR σ 1) x4.toNatClampNeg) (nI 12)).toNatClampNeg))), (0, .ref (eA g 6)), (1, .ref (eA g 1)), (2, .int x2), (4, .int x4)]) dX1_forksListed_58 (by decide) rfl (by decide) rfl ?_
      refine wp_iinc 6 (nI 1) (lv' := [(4, .int (x4 + (nI 1))), (3, .int (x3 + (nI 1))), (6, .int ((sI σ (sR σ 1) x4.toNatClampNeg) &&& (nI 4095))), (5, .ref (eA g (11 + (jshr (sI σ (sR σ 1) x4.toNatClampNeg) (nI 12)).toNatClampNeg))), (0, .ref (eA g 6)), (1, .ref (eA g 1)), (2, .int x2)]) dX1_forksListed_61 (by decide) rfl (by decide) rfl ?_
      refine wp_goto 5 dX1_forksListed_64 (by decide) ?_
      exact wp_sub [4, 5, 6, 1, 0] rfl h
set_option maxRecDepth 100000 in
set_option maxHeartbeats 4000000 in
theorem E_X1_cut (g : Ev) (d : Nat) (x2 : Int32) (σ : St) (K : Option Value → St → Prop) (h : Runs g 0 45 d M_X1_clear [.ref (eA g 6), .int ((nI 2) * (sV (uR (uR σ 1 (sR σ 0)) 0 (sR σ 1)) 6))] (uR (uR σ 1 (sR σ 0)) 0 (sR σ 1)) (fun r1 σ1 => r1 = none ∧ WP g 0 45 (d + 1) M_X1_cut 38 [(0, .ref (eA g 6)), (1, .ref (eA g 1)), (2, .int x2), (4, .int (sV (uR (uR σ 1 (sR σ 0)) 0 (sR σ 1)) 6)), (5, .int (nI 0)), (6, .int (nI 0))] [] σ1 K)) : Runs g 0 45 (d + 1) M_X1_cut [.ref (eA g 6), .ref (eA g 1), .int x2] σ K := by
  refine Runs.of (by decide) (Nat.le_of_ble_eq_true rfl) ?_
  show WP g 0 45 (d + 1) M_X1_cut 0 [(0, .ref (eA g 6)), (1, .ref (eA g 1)), (2, .int x2)] [] σ K
  refine wp_aload_n 0 dX1_cut_0 rfl rfl ?_
  refine wp_get 6 0 2 (by decide) (by decide) rfl rfl inG1 (by decide) wf_X1_18 rfl dX1_cut_1 ?_
  refine wp_astore_n (lv' := [(3, .ref (eA g (sR σ 1))), (0, .ref (eA g 6)), (1, .ref (eA g 1)), (2, .int x2)]) dX1_cut_4 rfl (by decide) rfl ?_
  refine wp_aload_n 1 dX1_cut_5 rfl rfl ?_
  refine wp_aload_n 1 dX1_cut_6 rfl rfl ?_
  refine wp_get 6 0 1 (by decide) (by decide) rfl rfl inG1 (by decide) wf_X1_15 rfl dX1_cut_7 ?_
  refine wp_put (ty := (.array .int)) 6 0 2 tyX1 tyX1_ok nmX1 (uR σ 1 (sR σ 0)) (by decide) (by decide) rfl rfl inG1 (by decide) wf_X1_18 rfl (by decide +kernel) rfl rfl (Nat.le_of_ble_eq_true rfl) dX1_cut_10 rfl wcell_uR ?_
  refine wp_aload_n 1 dX1_cut_13 rfl rfl ?_
  refine wp_aload_n 0 dX1_cut_14 rfl rfl ?_
  refine wp_put (ty := (.array .int)) 6 0 1 tyX1 tyX1_ok nmX1 (uR (uR σ 1 (sR σ 0)) 0 (sR σ 1)) (by decide) (by decide) rfl rfl inG1 (by decide) wf_X1_15 rfl (by decide +kernel) rfl rfl (Nat.le_of_ble_eq_true rfl) dX1_cut_15 rfl wcell_uR ?_
  refine wp_aload_n 1 dX1_cut_18 rfl rfl ?_
  refine wp_get 6 0 3 (by decide) (by decide) rfl rfl inG1 (by decide) wf_X1_40 rfl dX1_cut_19 ?_
  refine wp_istore (lv' := [(4, .int (sV (uR (uR σ 1 (sR σ 0)) 0 (sR σ 1)) 6)), (3, .ref (eA g (sR σ 1))), (0, .ref (eA g 6)), (1, .ref (eA g 1)), (2, .int x2)]) dX1_cut_22 (by decide) rfl ?_
  refine wp_aload_n 2 dX1_cut_24 rfl rfl ?_
  refine wp_iconst (nI 2) dX1_cut_25 (by decide) ?_
  refine wp_iload 0 dX1_cut_26 rfl ?_
  refine wp_imul dX1_cut_28 ?_
  refine wp_callV [.int ((nI 2) * (sV (uR (uR σ 1 (sR σ 0)) 0 (sR σ 1)) 6))] [] 6 0 (by decide) (by decide) rfl rfl wc_X1_clear wm_X1_32 ws_X1_clear we_X1_clear wi_X1 ok_X1_clear (by decide) (Nat.le_of_ble_eq_true rfl) dX1_cut_29 rfl h ?_
  rintro r1 σ1 ⟨rfl, h⟩
  show WP g 0 45 (d + 1) M_X1_cut 32 [(4, .int (sV (uR (uR σ 1 (sR σ 0)) 0 (sR σ 1)) 6)), (3, .ref (eA g (sR σ 1))), (0, .ref (eA g 6)), (1, .ref (eA g 1)), (2, .int x2)] [] σ1 K
  refine wp_iconst (nI 0) dX1_cut_32 (by decide) ?_
  refine wp_istore (lv' := [(5, .int (nI 0)), (4, .int (sV (uR (uR σ 1 (sR σ 0)) 0 (sR σ 1)) 6)), (3, .ref (eA g (sR σ 1))), (0, .ref (eA g 6)), (1, .ref (eA g 1)), (2, .int x2)]) dX1_cut_33 (by decide) rfl ?_
  refine wp_iconst (nI 0) dX1_cut_35 (by decide) ?_
  refine wp_istore (lv' := [(6, .int (nI 0)), (5, .int (nI 0)), (4, .int (sV (uR (uR σ 1 (sR σ 0)) 0 (sR σ 1)) 6)), (3, .ref (eA g (sR σ 1))), (0, .ref (eA g 6)), (1, .ref (eA g 1)), (2, .int x2)]) dX1_cut_36 (by decide) rfl ?_
  exact wp_sub [4, 5, 6, 2, 1, 0] rfl h
set_option maxRecDepth 100000 in
set_option maxHeartbeats 4000000 in
theorem R_X1_cut_38 (g : Ev) (d : Nat) (x2 : Int32) (x4 : Int32) (x5 : Int32) (x6 : Int32) (σ : St) (K : Option Value → St → Prop) (h : ((x4 ≤ x6 → K (some (.int x5)) σ) ∧ (¬ x4 ≤ x6 → ((sR σ 0) < 45 ∧ vp_in x6 (lenI (sR σ 0))) ∧ ((sR σ 0) < 45 ∧ vp_in x6 (lenI (sR σ 0))) ∧ Runs g 0 45 d M_X1_find [.ref (eA g 6), .ref (eA g 1), .int (jshr (sI σ (sR σ 0) x6.toNatClampNeg) (nI 12)), .int ((sI σ (sR σ 0) x6.toNatClampNeg) &&& (nI 4095)), .int x2] σ (fun r1 σ1 => r1 = none ∧ vp_in (jshr (sI σ (sR σ 0) x6.toNatClampNeg) (nI 12)) 34 ∧ vp_in (jshr (sI σ (sR σ 0) x6.toNatClampNeg) (nI 12)) 34 ∧ Runs g 0 45 d M_X0_alike [.ref (eA g (11 + (jshr (sI σ (sR σ 0) x6.toNatClampNeg) (nI 12)).toNatClampNeg)), .int ((sI σ (sR σ 0) x6.toNatClampNeg) &&& (nI 4095)), .ref (eA g (11 + (jshr (sI σ (sR σ 0) x6.toNatClampNeg) (nI 12)).toNatClampNeg)), .int (((sI σ (sR σ 0) x6.toNatClampNeg) &&& (nI 4095)) + x2), .int x2] σ1 (fun r2 σ2 => ∃ v2 : Int32, r2 = some (.int v2) ∧ ((¬ v2 = nI 0 → WP g 0 45 (d + 1) M_X1_cut 38 [(0, .ref (eA g 6)), (1, .ref (eA g 1)), (2, .int x2), (4, .int x4), (5, .int x5), (6, .int (x6 + (nI 1)))] [] σ2 K) ∧ (v2 = nI 0 → Runs g 0 45 d M_X1_find [.ref (eA g 6), .ref (eA g 1), .int (jshr (sI σ (sR σ 0) x6.toNatClampNeg) (nI 12)), .int (((sI σ (sR σ 0) x6.toNatClampNeg) &&& (nI 4095)) + x2), .int x2] σ2 (fun r3 σ3 => r3 = none ∧ WP g 0 45 (d + 1) M_X1_cut 38 [(0, .ref (eA g 6)), (1, .ref (eA g 1)), (2, .int x2), (4, .int x4), (5, .int (x5 + (nI 1))), (6, .int (x6 + (nI 1)))] [] σ3 K)))))))) : WP g 0 45 (d + 1) M_X1_cut 38 [(0, .ref (eA g 6)), (1, .ref (eA g 1)), (2, .int x2), (4, .int x4), (5, .int x5), (6, .int x6)] [] σ K := by
  refine wp_iload 5 dX1_cut_38 rfl ?_
  refine wp_iload 3 dX1_cut_40 rfl ?_
  refine wp_icmp_ge 122 dX1_cut_42 (by decide) (fun c => ?_) (fun c => ?_)
  · replace h := h.1 c
    refine wp_iload 4 dX1_cut_122 rfl ?_
    exact wp_iret rfl dX1_cut_124 h
  · replace h := h.2 c
    refine wp_aload_n 0 dX1_cut_45 rfl rfl ?_
    refine wp_get 6 0 1 (by decide) (by decide) rfl rfl inG1 (by decide) wf_X1_15 rfl dX1_cut_46 ?_
    refine wp_iload 5 dX1_cut_49 rfl ?_
    refine wp_iald (Nat.zero_le _) h.1.1 dX1_cut_51 h.1.2 ?_
    replace h := h.2
    refine wp_bipush (nI 12) dX1_cut_52 (by decide) ?_
    refine wp_ishr dX1_cut_54 ?_
    refine wp_istore (lv' := [(7, .int (jshr (sI σ (sR σ 0) x6.toNatClampNeg) (nI 12))), (0, .ref (eA g 6)), (1, .ref (eA g 1)), (2, .int x2), (4, .int x4), (5, .int x5), (6, .int x6)]) dX1_cut_55 (by decide) rfl ?_
    refine wp_aload_n 1 dX1_cut_57 rfl rfl ?_
    refine wp_get 6 0 1 (by decide) (by decide) rfl rfl inG1 (by decide) wf_X1_15 rfl dX1_cut_58 ?_
    refine wp_iload 6 dX1_cut_61 rfl ?_
    refine wp_iald (Nat.zero_le _) h.1.1 dX1_cut_63 h.1.2 ?_
    replace h := h.2
    refine wp_sipush (nI 4095) dX1_cut_64 (by decide) ?_
    refine wp_iand dX1_cut_67 ?_
    refine wp_istore (lv' := [(8, .int ((sI σ (sR σ 0) x6.toNatClampNeg) &&& (nI 4095))), (7, .int (jshr (sI σ (sR σ 0) x6.toNatClampNeg) (nI 12))), (0, .ref (eA g 6)), (1, .ref (eA g 1)), (2, .int x2), (4, .int x4), (5, .int x5), (6, .int x6)]) dX1_cut_68 (by decide) rfl ?_
    refine wp_aload_n 2 dX1_cut_70 rfl rfl ?_
    refine wp_aload_n 3 dX1_cut_71 rfl rfl ?_
    refine wp_iload 1 dX1_cut_72 rfl ?_
    refine wp_iload 0 dX1_cut_74 rfl ?_
    refine wp_iload_n 4 dX1_cut_76 rfl rfl ?_
    refine wp_callV [.ref (eA g 1), .int (jshr (sI σ (sR σ 0) x6.toNatClampNeg) (nI 12)), .int ((sI σ (sR σ 0) x6.toNatClampNeg) &&& (nI 4095)), .int x2] [] 6 0 (by decide) (by decide) rfl rfl wc_X1_find wm_X1_36 ws_X1_find we_X1_find wi_X1 ok_X1_find (by decide) (Nat.le_of_ble_eq_true rfl) dX1_cut_77 rfl h ?_
    rintro r1 σ1 ⟨rfl, h⟩
    show WP g 0 45 (d + 1) M_X1_cut 80 [(8, .int ((sI σ (sR σ 0) x6.toNatClampNeg) &&& (nI 4095))), (7, .int (jshr (sI σ (sR σ 0) x6.toNatClampNeg) (nI 12))), (0, .ref (eA g 6)), (1, .ref (eA g 1)), (2, .int x2), (4, .int x4), (5, .int x5), (6, .int x6)] [] σ1 K
    refine wp_aload_n 3 dX1_cut_80 rfl rfl ?_
    refine wp_iload 1 dX1_cut_81 rfl ?_
    refine wp_aald (by decide) (by decide) dX1_cut_83 h.1 ?_
    replace h := h.2
    refine wp_iload 0 dX1_cut_84 rfl ?_
    refine wp_aload_n 3 dX1_cut_86 rfl rfl ?_
    refine wp_iload 1 dX1_cut_87 rfl ?_
    refine wp_aald (by decide) (by decide) dX1_cut_89 h.1 ?_
    replace h := h.2
    refine wp_iload 0 dX1_cut_90 rfl ?_
    refine wp_iload_n 4 dX1_cut_92 rfl rfl ?_
    refine wp_iadd dX1_cut_93 ?_
    refine wp_iload_n 4 dX1_cut_94 rfl rfl ?_
    refine wp_callSN [.ref (eA g (11 + (jshr (sI σ (sR σ 0) x6.toNatClampNeg) (nI 12)).toNatClampNeg)), .int ((sI σ (sR σ 0) x6.toNatClampNeg) &&& (nI 4095)), .ref (eA g (11 + (jshr (sI σ (sR σ 0) x6.toNatClampNeg) (nI 12)).toNatClampNeg)), .int (((sI σ (sR σ 0) x6.toNatClampNeg) &&& (nI 4095)) + x2), .int x2] [] wc_X0_alike wn_X1_44 ws_X0_alike wi_X0 ok_X0_alike (by decide) (Nat.le_of_ble_eq_true rfl) dX1_cut_95 rfl h ?_
    rintro r2 σ2 ⟨v2, rfl, h⟩
    show WP g 0 45 (d + 1) M_X1_cut 98 [(8, .int ((sI σ (sR σ 0) x6.toNatClampNeg) &&& (nI 4095))), (7, .int (jshr (sI σ (sR σ 0) x6.toNatClampNeg) (nI 12))), (0, .ref (eA g 6)), (1, .ref (eA g 1)), (2, .int x2), (4, .int x4), (5, .int x5), (6, .int x6)] [.int v2] σ2 K
    refine wp_if_ne 116 dX1_cut_98 (by decide) (fun c => ?_) (fun c => ?_)
    · replace h := h.1 c
      refine wp_iinc 7 (nI 1) (lv' := [(6, .int (x6 + (nI 1))), (8, .int ((sI σ (sR σ 0) x6.toNatClampNeg) &&& (nI 4095))), (7, .int (jshr (sI σ (sR σ 0) x6.toNatClampNeg) (nI 12))), (0, .ref (eA g 6)), (1, .ref (eA g 1)), (2, .int x2), (4, .int x4), (5, .int x5)]) dX1_cut_116 (by decide) rfl (by decide) rfl ?_
      refine wp_goto 38 dX1_cut_119 (by decide) ?_
      exact wp_sub [3, 4, 5, 6, 7, 0] rfl h
    · replace h := h.2 c
      refine wp_aload_n 2 dX1_cut_101 rfl rfl ?_
      refine wp_aload_n 3 dX1_cut_102 rfl rfl ?_
      refine wp_iload 1 dX1_cut_103 rfl ?_
      refine wp_iload 0 dX1_cut_105 rfl ?_
      refine wp_iload_n 4 dX1_cut_107 rfl rfl ?_
      refine wp_iadd dX1_cut_108 ?_
      refine wp_iload_n 4 dX1_cut_109 rfl rfl ?_
      refine wp_callV [.ref (eA g 1), .int (jshr (sI σ (sR σ 0) x6.toNatClampNeg) (nI 12)), .int (((sI σ (sR σ 0) x6.toNatClampNeg) &&& (nI 4095)) + x2), .int x2] [] 6 0 (by decide) (by decide) rfl rfl wc_X1_find wm_X1_36 ws_X1_find we_X1_find wi_X1 ok_X1_find (by decide) (Nat.le_of_ble_eq_true rfl) dX1_cut_110 rfl h ?_
      rintro r3 σ3 ⟨rfl, h⟩
      show WP g 0 45 (d + 1) M_X1_cut 113 [(8, .int ((sI σ (sR σ 0) x6.toNatClampNeg) &&& (nI 4095))), (7, .int (jshr (sI σ (sR σ 0) x6.toNatClampNeg) (nI 12))), (0, .ref (eA g 6)), (1, .ref (eA g 1)), (2, .int x2), (4, .int x4), (5, .int x5), (6, .int x6)] [] σ3 K
      refine wp_iinc 6 (nI 1) (lv' := [(5, .int (x5 + (nI 1))), (8, .int ((sI σ (sR σ 0) x6.toNatClampNeg) &&& (nI 4095))), (7, .int (jshr (sI σ (sR σ 0) x6.toNatClampNeg) (nI 12))), (0, .ref (eA g 6)), (1, .ref (eA g 1)), (2, .int x2), (4, .int x4), (6, .int x6)]) dX1_cut_113 (by decide) rfl (by decide) rfl ?_
      refine wp_iinc 7 (nI 1) (lv' := [(6, .int (x6 + (nI 1))), (5, .int (x5 + (nI 1))), (8, .int ((sI σ (sR σ 0) x6.toNatClampNeg) &&& (nI 4095))), (7, .int (jshr (sI σ (sR σ 0) x6.toNatClampNeg) (nI 12))), (0, .ref (eA g 6)), (1, .ref (eA g 1)), (2, .int x2), (4, .int x4)]) dX1_cut_116 (by decide) rfl (by decide) rfl ?_
      refine wp_goto 38 dX1_cut_119 (by decide) ?_
      exact wp_sub [4, 5, 6, 7, 1, 0] rfl h
set_option maxRecDepth 100000 in
set_option maxHeartbeats 4000000 in
theorem E_X1_clear (g : Ev) (d : Nat) (x1 : Int32) (σ : St) (K : Option Value → St → Prop) (h : WP g 0 45 (d + 1) M_X1_clear 5 [(0, .ref (eA g 6)), (1, .int x1)] [] (uV σ 7 (nI 2)) K) : Runs g 0 45 (d + 1) M_X1_clear [.ref (eA g 6), .int x1] σ K := by
  refine Runs.of (by decide) (Nat.le_of_ble_eq_true rfl) ?_
  show WP g 0 45 (d + 1) M_X1_clear 0 [(0, .ref (eA g 6)), (1, .int x1)] [] σ K
  refine wp_aload_n 0 dX1_clear_0 rfl rfl ?_
  refine wp_iconst (nI 2) dX1_clear_1 (by decide) ?_
  refine wp_put (ty := .int) 6 0 5 tyX1 tyX1_ok nmX1 (uV σ 7 (nI 2)) (by decide) (by decide) rfl rfl inG1 (by decide) wf_X1_50 rfl (by decide +kernel) rfl rfl (Nat.le_of_ble_eq_true rfl) dX1_clear_2 rfl (wcell_uV6 (by decide)) ?_
  exact wp_sub [0, 1] rfl h
set_option maxRecDepth 100000 in
set_option maxHeartbeats 4000000 in
theorem R_X1_clear_5 (g : Ev) (d : Nat) (x1 : Int32) (σ : St) (K : Option Value → St → Prop) (h : ((((nI 2) * x1) ≤ (sV σ 7) → Runs g 0 45 d M_J7_fill_fda19 [.ref (eA g 10), .int (nI 0), .int (sV σ 7), .int (nI 0)] σ (fun r1 σ1 => r1 = none ∧ K none (uV σ1 6 (nI 0)))) ∧ (¬ ((nI 2) * x1) ≤ (sV σ 7) → (((nI 16384) ≤ (sV σ 7) → Runs g 0 45 d M_J7_fill_fda19 [.ref (eA g 10), .int (nI 0), .int (sV σ 7), .int (nI 0)] σ (fun r2 σ2 => r2 = none ∧ K none (uV σ2 6 (nI 0)))) ∧ (¬ (nI 16384) ≤ (sV σ 7) → WP g 0 45 (d + 1) M_X1_clear 5 [(0, .ref (eA g 6)), (1, .int x1)] [] (uV σ 7 ((sV σ 7) * (nI 2))) K))))) : WP g 0 45 (d + 1) M_X1_clear 5 [(0, .ref (eA g 6)), (1, .int x1)] [] σ K := by
  refine wp_aload_n 0 dX1_clear_5 rfl rfl ?_
  refine wp_get 6 0 5 (by decide) (by decide) rfl rfl inG1 (by decide) wf_X1_50 rfl dX1_clear_6 ?_
  refine wp_iconst (nI 2) dX1_clear_9 (by decide) ?_
  refine wp_iload_n 1 dX1_clear_10 rfl rfl ?_
  refine wp_imul dX1_clear_11 ?_
  refine wp_icmp_ge 38 dX1_clear_12 (by decide) (fun c => ?_) (fun c => ?_)
  · replace h := h.1 c
    refine wp_aload_n 0 dX1_clear_38 rfl rfl ?_
    refine wp_get 6 0 4 (by decide) (by decide) rfl rfl inG1 (by decide) wf_X1_21 rfl dX1_clear_39 ?_
    refine wp_iconst (nI 0) dX1_clear_42 (by decide) ?_
    refine wp_aload_n 0 dX1_clear_43 rfl rfl ?_
    refine wp_get 6 0 5 (by decide) (by decide) rfl rfl inG1 (by decide) wf_X1_50 rfl dX1_clear_44 ?_
    refine wp_iconst (nI 0) dX1_clear_47 (by decide) ?_
    refine wp_callS [.ref (eA g 10), .int (nI 0), .int (sV σ 7), .int (nI 0)] [] wc_J7_fill_fda19 wm_X1_53 ws_J7_fill_fda19 wi_J7 ok_J7_fill_fda19 (by decide) (Nat.le_of_ble_eq_true rfl) dX1_clear_48 rfl h ?_
    rintro r1 σ1 ⟨rfl, h⟩
    show WP g 0 45 (d + 1) M_X1_clear 51 [(0, .ref (eA g 6)), (1, .int x1)] [] σ1 K
    refine wp_aload_n 0 dX1_clear_51 rfl rfl ?_
    refine wp_iconst (nI 0) dX1_clear_52 (by decide) ?_
    refine wp_put (ty := .int) 6 0 3 tyX1 tyX1_ok nmX1 (uV σ1 6 (nI 0)) (by decide) (by decide) rfl rfl inG1 (by decide) wf_X1_40 rfl (by decide +kernel) rfl rfl (Nat.le_of_ble_eq_true rfl) dX1_clear_53 rfl (wcell_uV6 (by decide)) ?_
    exact wp_vret rfl dX1_clear_56 h
  · replace h := h.2 c
    refine wp_aload_n 0 dX1_clear_15 rfl rfl ?_
    refine wp_get 6 0 5 (by decide) (by decide) rfl rfl inG1 (by decide) wf_X1_50 rfl dX1_clear_16 ?_
    refine wp_sipush (nI 16384) dX1_clear_19 (by decide) ?_
    refine wp_icmp_ge 38 dX1_clear_22 (by decide) (fun c => ?_) (fun c => ?_)
    · replace h := h.1 c
      refine wp_aload_n 0 dX1_clear_38 rfl rfl ?_
      refine wp_get 6 0 4 (by decide) (by decide) rfl rfl inG1 (by decide) wf_X1_21 rfl dX1_clear_39 ?_
      refine wp_iconst (nI 0) dX1_clear_42 (by decide) ?_
      refine wp_aload_n 0 dX1_clear_43 rfl rfl ?_
      refine wp_get 6 0 5 (by decide) (by decide) rfl rfl inG1 (by decide) wf_X1_50 rfl dX1_clear_44 ?_
      refine wp_iconst (nI 0) dX1_clear_47 (by decide) ?_
      refine wp_callS [.ref (eA g 10), .int (nI 0), .int (sV σ 7), .int (nI 0)] [] wc_J7_fill_fda19 wm_X1_53 ws_J7_fill_fda19 wi_J7 ok_J7_fill_fda19 (by decide) (Nat.le_of_ble_eq_true rfl) dX1_clear_48 rfl h ?_
      rintro r2 σ2 ⟨rfl, h⟩
      show WP g 0 45 (d + 1) M_X1_clear 51 [(0, .ref (eA g 6)), (1, .int x1)] [] σ2 K
      refine wp_aload_n 0 dX1_clear_51 rfl rfl ?_
      refine wp_iconst (nI 0) dX1_clear_52 (by decide) ?_
      refine wp_put (ty := .int) 6 0 3 tyX1 tyX1_ok nmX1 (uV σ2 6 (nI 0)) (by decide) (by decide) rfl rfl inG1 (by decide) wf_X1_40 rfl (by decide +kernel) rfl rfl (Nat.le_of_ble_eq_true rfl) dX1_clear_53 rfl (wcell_uV6 (by decide)) ?_
      exact wp_vret rfl dX1_clear_56 h
    · replace h := h.2 c
      refine wp_aload_n 0 dX1_clear_25 rfl rfl ?_
      refine wp_dup dX1_clear_26 rfl ?_
      refine wp_get 6 0 5 (by decide) (by decide) rfl rfl inG1 (by decide) wf_X1_50 rfl dX1_clear_27 ?_
      refine wp_iconst (nI 2) dX1_clear_30 (by decide) ?_
      refine wp_imul dX1_clear_31 ?_
      refine wp_put (ty := .int) 6 0 5 tyX1 tyX1_ok nmX1 (uV σ 7 ((sV σ 7) * (nI 2))) (by decide) (by decide) rfl rfl inG1 (by decide) wf_X1_50 rfl (by decide +kernel) rfl rfl (Nat.le_of_ble_eq_true rfl) dX1_clear_32 rfl (wcell_uV6 (by decide)) ?_
      refine wp_goto 5 dX1_clear_35 (by decide) ?_
      exact wp_sub [0, 1] rfl h
set_option maxRecDepth 100000 in
set_option maxHeartbeats 4000000 in
theorem E_X1_find (g : Ev) (d : Nat) (x2 : Int32) (x3 : Int32) (x4 : Int32) (σ : St) (K : Option Value → St → Prop) (h : vp_in x2 34 ∧ Runs g 0 45 d M_X0_hash [.ref (eA g (11 + x2.toNatClampNeg)), .int x3, .int x4] σ (fun r1 σ1 => ∃ v1 : Int32, r1 = some (.int v1) ∧ WP g 0 45 (d + 1) M_X1_find 25 [(0, .ref (eA g 6)), (1, .ref (eA g 1)), (2, .int x2), (3, .int x3), (4, .int x4), (5, .ref (eA g (11 + x2.toNatClampNeg))), (6, .int (v1 &&& ((sV σ1 7) - (nI 1)))), (7, .int (nI 0))] [] σ1 K)) : Runs g 0 45 (d + 1) M_X1_find [.ref (eA g 6), .ref (eA g 1), .int x2, .int x3, .int x4] σ K := by
  refine Runs.of (by decide) (Nat.le_of_ble_eq_true rfl) ?_
  show WP g 0 45 (d + 1) M_X1_find 0 [(0, .ref (eA g 6)), (1, .ref (eA g 1)), (2, .int x2), (3, .int x3), (4, .int x4)] [] σ K
  refine wp_aload_n 1 dX1_find_0 rfl rfl ?_
  refine wp_iload_n 2 dX1_find_1 rfl rfl ?_
  refine wp_aald (by decide) (by decide) dX1_find_2 h.1 ?_
  replace h := h.2
  refine wp_astore (lv' := [(5, .ref (eA g (11 + x2.toNatClampNeg))), (0, .ref (eA g 6)), (1, .ref (eA g 1)), (2, .int x2), (3, .int x3), (4, .int x4)]) dX1_find_3 (by decide) rfl ?_
  refine wp_aload 0 dX1_find_5 rfl ?_
  refine wp_iload_n 4 dX1_find_7 rfl rfl ?_
  refine wp_iload 5 dX1_find_8 rfl ?_
  refine wp_callSN [.ref (eA g (11 + x2.toNatClampNeg)), .int x3, .int x4] [] wc_X0_hash wn_X1_59 ws_X0_hash wi_X0 ok_X0_hash (by decide) (Nat.le_of_ble_eq_true rfl) dX1_find_10 rfl h ?_
  rintro r1 σ1 ⟨v1, rfl, h⟩
  show WP g 0 45 (d + 1) M_X1_find 13 [(5, .ref (eA g (11 + x2.toNatClampNeg))), (0, .ref (eA g 6)), (1, .ref (eA g 1)), (2, .int x2), (3, .int x3), (4, .int x4)] [.int v1] σ1 K
  refine wp_aload_n 1 dX1_find_13 rfl rfl ?_
  refine wp_get 6 0 5 (by decide) (by decide) rfl rfl inG1 (by decide) wf_X1_50 rfl dX1_find_14 ?_
  refine wp_iconst (nI 1) dX1_find_17 (by decide) ?_
  refine wp_isub dX1_find_18 ?_
  refine wp_iand dX1_find_19 ?_
  refine wp_istore (lv' := [(6, .int (v1 &&& ((sV σ1 7) - (nI 1)))), (5, .ref (eA g (11 + x2.toNatClampNeg))), (0, .ref (eA g 6)), (1, .ref (eA g 1)), (2, .int x2), (3, .int x3), (4, .int x4)]) dX1_find_20 (by decide) rfl ?_
  refine wp_iconst (nI 0) dX1_find_22 (by decide) ?_
  refine wp_istore (lv' := [(7, .int (nI 0)), (6, .int (v1 &&& ((sV σ1 7) - (nI 1)))), (5, .ref (eA g (11 + x2.toNatClampNeg))), (0, .ref (eA g 6)), (1, .ref (eA g 1)), (2, .int x2), (3, .int x3), (4, .int x4)]) dX1_find_23 (by decide) rfl ?_
  exact wp_sub [3, 4, 5, 6, 7, 2, 1, 0] rfl h
set_option maxRecDepth 100000 in
set_option maxHeartbeats 4000000 in
theorem R_X1_find_25 (g : Ev) (d : Nat) (x2 : Int32) (x3 : Int32) (x4 : Int32) (k5 : Nat) (x6 : Int32) (x7 : Int32) (σ : St) (K : Option Value → St → Prop) (h : (((sV σ 7) ≤ x7 → K none σ) ∧ (¬ (sV σ 7) ≤ x7 → vp_in x6 (lenI 10) ∧ ((nI 0 ≤ ((sI σ 10 x6.toNatClampNeg) - (nI 1)) → ((sR σ 1) < 45 ∧ vp_in ((sI σ 10 x6.toNatClampNeg) - (nI 1)) (lenI (sR σ 1))) ∧ vp_in (jshr (sI σ (sR σ 1) ((sI σ 10 x6.toNatClampNeg) - (nI 1)).toNatClampNeg) (nI 12)) 34 ∧ ((sR σ 1) < 45 ∧ vp_in ((sI σ 10 x6.toNatClampNeg) - (nI 1)) (lenI (sR σ 1))) ∧ Runs g 0 45 d M_X0_alike [.ref (eA g k5), .int x3, .ref (eA g (11 + (jshr (sI σ (sR σ 1) ((sI σ 10 x6.toNatClampNeg) - (nI 1)).toNatClampNeg) (nI 12)).toNatClampNeg)), .int ((sI σ (sR σ 1) ((sI σ 10 x6.toNatClampNeg) - (nI 1)).toNatClampNeg) &&& (nI 4095)), .int x4] σ (fun r1 σ1 => ∃ v1 : Int32, r1 = some (.int v1) ∧ ((v1 = nI 0 → WP g 0 45 (d + 1) M_X1_find 25 [(0, .ref (eA g 6)), (1, .ref (eA g 1)), (2, .int x2), (3, .int x3), (4, .int x4), (5, .ref (eA g k5)), (6, .int ((x6 + (nI 1)) &&& ((sV σ1 7) - (nI 1)))), (7, .int (x7 + (nI 1)))] [] σ1 K) ∧ (¬ v1 = nI 0 → K none σ1)))) ∧ (¬ nI 0 ≤ ((sI σ 10 x6.toNatClampNeg) - (nI 1)) → Runs g 0 45 d M_X1_note [.ref (eA g 6), .int x6, .int ((jshl x2 (nI 12)) ||| x3)] σ (fun r2 σ2 => r2 = none ∧ K none σ2)))))) : WP g 0 45 (d + 1) M_X1_find 25 [(0, .ref (eA g 6)), (1, .ref (eA g 1)), (2, .int x2), (3, .int x3), (4, .int x4), (5, .ref (eA g k5)), (6, .int x6), (7, .int x7)] [] σ K := by
  refine wp_iload 7 dX1_find_25 rfl ?_
  refine wp_aload_n 0 dX1_find_27 rfl rfl ?_
  refine wp_get 6 0 5 (by decide) (by decide) rfl rfl inG1 (by decide) wf_X1_50 rfl dX1_find_28 ?_
  refine wp_icmp_ge 121 dX1_find_31 (by decide) (fun c => ?_) (fun c => ?_)
  · replace h := h.1 c
    exact wp_vret rfl dX1_find_121 h
  · replace h := h.2 c
    refine wp_aload_n 0 dX1_find_34 rfl rfl ?_
    refine wp_get 6 0 4 (by decide) (by decide) rfl rfl inG1 (by decide) wf_X1_21 rfl dX1_find_35 ?_
    refine wp_iload 6 dX1_find_38 rfl ?_
    refine wp_iald (by decide) (by decide) dX1_find_40 h.1 ?_
    replace h := h.2
    refine wp_iconst (nI 1) dX1_find_41 (by decide) ?_
    refine wp_isub dX1_find_42 ?_
    refine wp_istore (lv' := [(8, .int ((sI σ 10 x6.toNatClampNeg) - (nI 1))), (0, .ref (eA g 6)), (1, .ref (eA g 1)), (2, .int x2), (3, .int x3), (4, .int x4), (5, .ref (eA g k5)), (6, .int x6), (7, .int x7)]) dX1_find_43 (by decide) rfl ?_
    refine wp_iload 0 dX1_find_45 rfl ?_
    refine wp_if_ge 63 dX1_find_47 (by decide) (fun c => ?_) (fun c => ?_)
    · replace h := h.1 c
      refine wp_aload_n 2 dX1_find_63 rfl rfl ?_
      refine wp_aload_n 1 dX1_find_64 rfl rfl ?_
      refine wp_get 6 0 2 (by decide) (by decide) rfl rfl inG1 (by decide) wf_X1_18 rfl dX1_find_65 ?_
      refine wp_iload 0 dX1_find_68 rfl ?_
      refine wp_iald (Nat.zero_le _) h.1.1 dX1_find_70 h.1.2 ?_
      replace h := h.2
      refine wp_bipush (nI 12) dX1_find_71 (by decide) ?_
      refine wp_ishr dX1_find_73 ?_
      refine wp_aald (by decide) (by decide) dX1_find_74 h.1 ?_
      replace h := h.2
      refine wp_astore (lv' := [(9, .ref (eA g (11 + (jshr (sI σ (sR σ 1) ((sI σ 10 x6.toNatClampNeg) - (nI 1)).toNatClampNeg) (nI 12)).toNatClampNeg))), (8, .int ((sI σ 10 x6.toNatClampNeg) - (nI 1))), (0, .ref (eA g 6)), (1, .ref (eA g 1)), (2, .int x2), (3, .int x3), (4, .int x4), (5, .ref (eA g k5)), (6, .int x6), (7, .int x7)]) dX1_find_75 (by decide) rfl ?_
      refine wp_aload 7 dX1_find_77 rfl ?_
      refine wp_iload_n 5 dX1_find_79 rfl rfl ?_
      refine wp_aload 0 dX1_find_80 rfl ?_
      refine wp_aload_n 2 dX1_find_82 rfl rfl ?_
      refine wp_get 6 0 2 (by decide) (by decide) rfl rfl inG1 (by decide) wf_X1_18 rfl dX1_find_83 ?_
      refine wp_iload 1 dX1_find_86 rfl ?_
      refine wp_iald (Nat.zero_le _) h.1.1 dX1_find_88 h.1.2 ?_
      replace h := h.2
      refine wp_sipush (nI 4095) dX1_find_89 (by decide) ?_
      refine wp_iand dX1_find_92 ?_
      refine wp_iload 6 dX1_find_93 rfl ?_
      refine wp_callSN [.ref (eA g k5), .int x3, .ref (eA g (11 + (jshr (sI σ (sR σ 1) ((sI σ 10 x6.toNatClampNeg) - (nI 1)).toNatClampNeg) (nI 12)).toNatClampNeg)), .int ((sI σ (sR σ 1) ((sI σ 10 x6.toNatClampNeg) - (nI 1)).toNatClampNeg) &&& (nI 4095)), .int x4] [] wc_X0_alike wn_X1_44 ws_X0_alike wi_X0 ok_X0_alike (by decide) (Nat.le_of_ble_eq_true rfl) dX1_find_95 rfl h ?_
      rintro r1 σ1 ⟨v1, rfl, h⟩
      show WP g 0 45 (d + 1) M_X1_find 98 [(9, .ref (eA g (11 + (jshr (sI σ (sR σ 1) ((sI σ 10 x6.toNatClampNeg) - (nI 1)).toNatClampNeg) (nI 12)).toNatClampNeg))), (8, .int ((sI σ 10 x6.toNatClampNeg) - (nI 1))), (0, .ref (eA g 6)), (1, .ref (eA g 1)), (2, .int x2), (3, .int x3), (4, .int x4), (5, .ref (eA g k5)), (6, .int x6), (7, .int x7)] [.int v1] σ1 K
      refine wp_if_eq 102 dX1_find_98 (by decide) (fun c => ?_) (fun c => ?_)
      · replace h := h.1 c
        refine wp_iload 8 dX1_find_102 rfl ?_
        refine wp_iconst (nI 1) dX1_find_104 (by decide) ?_
        refine wp_iadd dX1_find_105 ?_
        refine wp_aload_n 2 dX1_find_106 rfl rfl ?_
        refine wp_get 6 0 5 (by decide) (by decide) rfl rfl inG1 (by decide) wf_X1_50 rfl dX1_find_107 ?_
        refine wp_iconst (nI 1) dX1_find_110 (by decide) ?_
        refine wp_isub dX1_find_111 ?_
        refine wp_iand dX1_find_112 ?_
        refine wp_istore (lv' := [(6, .int ((x6 + (nI 1)) &&& ((sV σ1 7) - (nI 1)))), (9, .ref (eA g (11 + (jshr (sI σ (sR σ 1) ((sI σ 10 x6.toNatClampNeg) - (nI 1)).toNatClampNeg) (nI 12)).toNatClampNeg))), (8, .int ((sI σ 10 x6.toNatClampNeg) - (nI 1))), (0, .ref (eA g 6)), (1, .ref (eA g 1)), (2, .int x2), (3, .int x3), (4, .int x4), (5, .ref (eA g k5)), (7, .int x7)]) dX1_find_113 (by decide) rfl ?_
        refine wp_iinc 9 (nI 1) (lv' := [(7, .int (x7 + (nI 1))), (6, .int ((x6 + (nI 1)) &&& ((sV σ1 7) - (nI 1)))), (9, .ref (eA g (11 + (jshr (sI σ (sR σ 1) ((sI σ 10 x6.toNatClampNeg) - (nI 1)).toNatClampNeg) (nI 12)).toNatClampNeg))), (8, .int ((sI σ 10 x6.toNatClampNeg) - (nI 1))), (0, .ref (eA g 6)), (1, .ref (eA g 1)), (2, .int x2), (3, .int x3), (4, .int x4), (5, .ref (eA g k5))]) dX1_find_115 (by decide) rfl (by decide) rfl ?_
        refine wp_goto 25 dX1_find_118 (by decide) ?_
        exact wp_sub [4, 5, 6, 7, 8, 9, 1, 0] rfl h
      · replace h := h.2 c
        exact wp_vret rfl dX1_find_101 h
    · replace h := h.2 c
      refine wp_aload_n 1 dX1_find_50 rfl rfl ?_
      refine wp_iload 7 dX1_find_51 rfl ?_
      refine wp_iload_n 3 dX1_find_53 rfl rfl ?_
      refine wp_bipush (nI 12) dX1_find_54 (by decide) ?_
      refine wp_ishl dX1_find_56 ?_
      refine wp_iload_n 4 dX1_find_57 rfl rfl ?_
      refine wp_ior dX1_find_58 ?_
      refine wp_callV [.int x6, .int ((jshl x2 (nI 12)) ||| x3)] [] 6 0 (by decide) (by decide) rfl rfl wc_X1_note wm_X1_63 ws_X1_note we_X1_note wi_X1 ok_X1_note (by decide) (Nat.le_of_ble_eq_true rfl) dX1_find_59 rfl h ?_
      rintro r2 σ2 ⟨rfl, h⟩
      show WP g 0 45 (d + 1) M_X1_find 62 [(8, .int ((sI σ 10 x6.toNatClampNeg) - (nI 1))), (0, .ref (eA g 6)), (1, .ref (eA g 1)), (2, .int x2), (3, .int x3), (4, .int x4), (5, .ref (eA g k5)), (6, .int x6), (7, .int x7)] [] σ2 K
      exact wp_vret rfl dX1_find_62 h
set_option maxRecDepth 100000 in
set_option maxHeartbeats 4000000 in
theorem E_X1_note (g : Ev) (d : Nat) (x1 : Int32) (x2 : Int32) (σ : St) (K : Option Value → St → Prop) (h : (((nI 8192) ≤ (sV σ 6) → K none σ) ∧ (¬ (nI 8192) ≤ (sV σ 6) → ((sR σ 1) < 45 ∧ vp_in (sV σ 6) (lenI (sR σ 1))) ∧ vp_in x1 (lenI 10) ∧ K none (uI (uV (uI σ (sR σ 1) (sV σ 6).toNatClampNeg x2) 6 ((sV (uI σ (sR σ 1) (sV σ 6).toNatClampNeg x2) 6) + (nI 1))) 10 x1.toNatClampNeg (sV (uV (uI σ (sR σ 1) (sV σ 6).toNatClampNeg x2) 6 ((sV (uI σ (sR σ 1) (sV σ 6).toNatClampNeg x2) 6) + (nI 1))) 6))))) : Runs g 0 45 (d + 1) M_X1_note [.ref (eA g 6), .int x1, .int x2] σ K := by
  refine Runs.of (by decide) (Nat.le_of_ble_eq_true rfl) ?_
  show WP g 0 45 (d + 1) M_X1_note 0 [(0, .ref (eA g 6)), (1, .int x1), (2, .int x2)] [] σ K
  refine wp_aload_n 0 dX1_note_0 rfl rfl ?_
  refine wp_get 6 0 3 (by decide) (by decide) rfl rfl inG1 (by decide) wf_X1_40 rfl dX1_note_1 ?_
  refine wp_sipush (nI 8192) dX1_note_4 (by decide) ?_
  refine wp_icmp_ge 40 dX1_note_7 (by decide) (fun c => ?_) (fun c => ?_)
  · replace h := h.1 c
    exact wp_vret rfl dX1_note_40 h
  · replace h := h.2 c
    refine wp_aload_n 0 dX1_note_10 rfl rfl ?_
    refine wp_get 6 0 2 (by decide) (by decide) rfl rfl inG1 (by decide) wf_X1_18 rfl dX1_note_11 ?_
    refine wp_aload_n 0 dX1_note_14 rfl rfl ?_
    refine wp_get 6 0 3 (by decide) (by decide) rfl rfl inG1 (by decide) wf_X1_40 rfl dX1_note_15 ?_
    refine wp_iload_n 2 dX1_note_18 rfl rfl ?_
    refine wp_iast (Nat.zero_le _) h.1.1 dX1_note_19 h.1.2 ?_
    replace h := h.2
    refine wp_aload_n 0 dX1_note_20 rfl rfl ?_
    refine wp_dup dX1_note_21 rfl ?_
    refine wp_get 6 0 3 (by decide) (by decide) rfl rfl inG1 (by decide) wf_X1_40 rfl dX1_note_22 ?_
    refine wp_iconst (nI 1) dX1_note_25 (by decide) ?_
    refine wp_iadd dX1_note_26 ?_
    refine wp_put (ty := .int) 6 0 3 tyX1 tyX1_ok nmX1 (uV (uI σ (sR σ 1) (sV σ 6).toNatClampNeg x2) 6 ((sV (uI σ (sR σ 1) (sV σ 6).toNatClampNeg x2) 6) + (nI 1))) (by decide) (by decide) rfl rfl inG1 (by decide) wf_X1_40 rfl (by decide +kernel) rfl rfl (Nat.le_of_ble_eq_true rfl) dX1_note_27 rfl (wcell_uV6 (by decide)) ?_
    refine wp_aload_n 0 dX1_note_30 rfl rfl ?_
    refine wp_get 6 0 4 (by decide) (by decide) rfl rfl inG1 (by decide) wf_X1_21 rfl dX1_note_31 ?_
    refine wp_iload_n 1 dX1_note_34 rfl rfl ?_
    refine wp_aload_n 0 dX1_note_35 rfl rfl ?_
    refine wp_get 6 0 3 (by decide) (by decide) rfl rfl inG1 (by decide) wf_X1_40 rfl dX1_note_36 ?_
    refine wp_iast (by decide) (by decide) dX1_note_39 h.1 ?_
    replace h := h.2
    exact wp_vret rfl dX1_note_40 h

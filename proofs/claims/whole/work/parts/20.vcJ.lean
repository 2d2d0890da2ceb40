set_option maxRecDepth 100000 in
set_option maxHeartbeats 4000000 in
theorem E_J13_bitCount_95d88 (g : Ev) (d : Nat) (l0 : Int64) (σ : St) (K : Option Value → St → Prop) (h : WP g 0 45 (d + 1) M_J13_bitCount_95d88 10 [(0, .long (l0 - ((jlushr l0 (nI 1)) &&& 6148914691236517205)))] [] σ K) : Runs g 0 45 (d + 1) M_J13_bitCount_95d88 [.long l0] σ K := by
  refine Runs.of (by decide) (Nat.le_of_ble_eq_true rfl) ?_
  show WP g 0 45 (d + 1) M_J13_bitCount_95d88 0 [(0, .long l0)] [] σ K
  refine wp_lload_n 0 dJ13_bitCount_95d88_0 rfl rfl ?_
  refine wp_lload_n 0 dJ13_bitCount_95d88_1 rfl rfl ?_
  refine wp_iconst (nI 1) dJ13_bitCount_95d88_2 (by decide) ?_
  refine wp_lushr dJ13_bitCount_95d88_3 ?_
  refine wp_ldc2 wk_J13_314 dJ13_bitCount_95d88_4 ?_
  refine wp_land dJ13_bitCount_95d88_7 ?_
  refine wp_lsub dJ13_bitCount_95d88_8 ?_
  refine wp_lstore_n (lv' := [(0, .long (l0 - ((jlushr l0 (nI 1)) &&& 6148914691236517205)))]) dJ13_bitCount_95d88_9 rfl (by decide) rfl ?_
  exact wp_sub [0] rfl h
set_option maxRecDepth 100000 in
set_option maxHeartbeats 4000000 in
theorem R_J13_bitCount_95d88_10 (g : Ev) (d : Nat) (l0 : Int64) (σ : St) (K : Option Value → St → Prop) (h : WP g 0 45 (d + 1) M_J13_bitCount_95d88 24 [(0, .long ((l0 &&& 3689348814741910323) + ((jlushr l0 (nI 2)) &&& 3689348814741910323)))] [] σ K) : WP g 0 45 (d + 1) M_J13_bitCount_95d88 10 [(0, .long l0)] [] σ K := by
  refine wp_lload_n 0 dJ13_bitCount_95d88_10 rfl rfl ?_
  refine wp_ldc2 wk_J13_316 dJ13_bitCount_95d88_11 ?_
  refine wp_land dJ13_bitCount_95d88_14 ?_
  refine wp_lload_n 0 dJ13_bitCount_95d88_15 rfl rfl ?_
  refine wp_iconst (nI 2) dJ13_bitCount_95d88_16 (by decide) ?_
  refine wp_lushr dJ13_bitCount_95d88_17 ?_
  refine wp_ldc2 wk_J13_316 dJ13_bitCount_95d88_18 ?_
  refine wp_land dJ13_bitCount_95d88_21 ?_
  refine wp_ladd dJ13_bitCount_95d88_22 ?_
  refine wp_lstore_n (lv' := [(0, .long ((l0 &&& 3689348814741910323) + ((jlushr l0 (nI 2)) &&& 3689348814741910323)))]) dJ13_bitCount_95d88_23 rfl (by decide) rfl ?_
  exact wp_sub [0] rfl h
set_option maxRecDepth 100000 in
set_option maxHeartbeats 4000000 in
theorem R_J13_bitCount_95d88_24 (g : Ev) (d : Nat) (l0 : Int64) (σ : St) (K : Option Value → St → Prop) (h : WP g 0 45 (d + 1) M_J13_bitCount_95d88 34 [(0, .long ((l0 + (jlushr l0 (nI 4))) &&& 1085102592571150095))] [] σ K) : WP g 0 45 (d + 1) M_J13_bitCount_95d88 24 [(0, .long l0)] [] σ K := by
  refine wp_lload_n 0 dJ13_bitCount_95d88_24 rfl rfl ?_
  refine wp_lload_n 0 dJ13_bitCount_95d88_25 rfl rfl ?_
  refine wp_iconst (nI 4) dJ13_bitCount_95d88_26 (by decide) ?_
  refine wp_lushr dJ13_bitCount_95d88_27 ?_
  refine wp_ladd dJ13_bitCount_95d88_28 ?_
  refine wp_ldc2 wk_J13_318 dJ13_bitCount_95d88_29 ?_
  refine wp_land dJ13_bitCount_95d88_32 ?_
  refine wp_lstore_n (lv' := [(0, .long ((l0 + (jlushr l0 (nI 4))) &&& 1085102592571150095))]) dJ13_bitCount_95d88_33 rfl (by decide) rfl ?_
  exact wp_sub [0] rfl h
set_option maxRecDepth 100000 in
set_option maxHeartbeats 4000000 in
theorem R_J13_bitCount_95d88_34 (g : Ev) (d : Nat) (l0 : Int64) (σ : St) (K : Option Value → St → Prop) (h : WP g 0 45 (d + 1) M_J13_bitCount_95d88 41 [(0, .long (l0 + (jlushr l0 (nI 8))))] [] σ K) : WP g 0 45 (d + 1) M_J13_bitCount_95d88 34 [(0, .long l0)] [] σ K := by
  refine wp_lload_n 0 dJ13_bitCount_95d88_34 rfl rfl ?_
  refine wp_lload_n 0 dJ13_bitCount_95d88_35 rfl rfl ?_
  refine wp_bipush (nI 8) dJ13_bitCount_95d88_36 (by decide) ?_
  refine wp_lushr dJ13_bitCount_95d88_38 ?_
  refine wp_ladd dJ13_bitCount_95d88_39 ?_
  refine wp_lstore_n (lv' := [(0, .long (l0 + (jlushr l0 (nI 8))))]) dJ13_bitCount_95d88_40 rfl (by decide) rfl ?_
  exact wp_sub [0] rfl h
set_option maxRecDepth 100000 in
set_option maxHeartbeats 4000000 in
theorem R_J13_bitCount_95d88_41 (g : Ev) (d : Nat) (l0 : Int64) (σ : St) (K : Option Value → St → Prop) (h : WP g 0 45 (d + 1) M_J13_bitCount_95d88 48 [(0, .long (l0 + (jlushr l0 (nI 16))))] [] σ K) : WP g 0 45 (d + 1) M_J13_bitCount_95d88 41 [(0, .long l0)] [] σ K := by
  refine wp_lload_n 0 dJ13_bitCount_95d88_41 rfl rfl ?_
  refine wp_lload_n 0 dJ13_bitCount_95d88_42 rfl rfl ?_
  refine wp_bipush (nI 16) dJ13_bitCount_95d88_43 (by decide) ?_
  refine wp_lushr dJ13_bitCount_95d88_45 ?_
  refine wp_ladd dJ13_bitCount_95d88_46 ?_
  refine wp_lstore_n (lv' := [(0, .long (l0 + (jlushr l0 (nI 16))))]) dJ13_bitCount_95d88_47 rfl (by decide) rfl ?_
  exact wp_sub [0] rfl h
set_option maxRecDepth 100000 in
set_option maxHeartbeats 4000000 in
theorem R_J13_bitCount_95d88_48 (g : Ev) (d : Nat) (l0 : Int64) (σ : St) (K : Option Value → St → Prop) (h : WP g 0 45 (d + 1) M_J13_bitCount_95d88 55 [(0, .long (l0 + (jlushr l0 (nI 32))))] [] σ K) : WP g 0 45 (d + 1) M_J13_bitCount_95d88 48 [(0, .long l0)] [] σ K := by
  refine wp_lload_n 0 dJ13_bitCount_95d88_48 rfl rfl ?_
  refine wp_lload_n 0 dJ13_bitCount_95d88_49 rfl rfl ?_
  refine wp_bipush (nI 32) dJ13_bitCount_95d88_50 (by decide) ?_
  refine wp_lushr dJ13_bitCount_95d88_52 ?_
  refine wp_ladd dJ13_bitCount_95d88_53 ?_
  refine wp_lstore_n (lv' := [(0, .long (l0 + (jlushr l0 (nI 32))))]) dJ13_bitCount_95d88_54 rfl (by decide) rfl ?_
  exact wp_sub [0] rfl h
set_option maxRecDepth 100000 in
set_option maxHeartbeats 4000000 in
theorem R_J13_bitCount_95d88_55 (g : Ev) (d : Nat) (l0 : Int64) (σ : St) (K : Option Value → St → Prop) (h : K (some (.int ((l0 : Int64).toInt32 &&& (nI 127)))) σ) : WP g 0 45 (d + 1) M_J13_bitCount_95d88 55 [(0, .long l0)] [] σ K := by
  refine wp_lload_n 0 dJ13_bitCount_95d88_55 rfl rfl ?_
  refine wp_l2i dJ13_bitCount_95d88_56 ?_
  refine wp_bipush (nI 127) dJ13_bitCount_95d88_57 (by decide) ?_
  refine wp_iand dJ13_bitCount_95d88_59 ?_
  exact wp_iret rfl dJ13_bitCount_95d88_60 h
set_option maxRecDepth 100000 in
set_option maxHeartbeats 4000000 in
theorem E_J7_rangeCheck_23922 (g : Ev) (d : Nat) (x0 : Int32) (x1 : Int32) (x2 : Int32) (σ : St) (K : Option Value → St → Prop) (h : ((x1 ≤ x2 → ((nI 0 ≤ x1 → ((x2 ≤ x0 → K none σ) ∧ (¬ x2 ≤ x0 → False))) ∧ (¬ nI 0 ≤ x1 → False))) ∧ (¬ x1 ≤ x2 → False))) : Runs g 0 45 (d + 1) M_J7_rangeCheck_23922 [.int x0, .int x1, .int x2] σ K := by
  refine Runs.of (by decide) (Nat.le_of_ble_eq_true rfl) ?_
  show WP g 0 45 (d + 1) M_J7_rangeCheck_23922 0 [(0, .int x0), (1, .int x1), (2, .int x2)] [] σ K
  refine wp_iload_n 1 dJ7_rangeCheck_23922_0 rfl rfl ?_
  refine wp_iload_n 2 dJ7_rangeCheck_23922_1 rfl rfl ?_
  refine wp_icmp_le 46 dJ7_rangeCheck_23922_2 (by decide) (fun c => ?_) (fun c => ?_)
  · replace h := h.1 c
    refine wp_iload_n 1 dJ7_rangeCheck_23922_46 rfl rfl ?_
    refine wp_if_ge 59 dJ7_rangeCheck_23922_47 (by decide) (fun c => ?_) (fun c => ?_)
    · replace h := h.1 c
      refine wp_iload_n 2 dJ7_rangeCheck_23922_59 rfl rfl ?_
      refine wp_iload_n 0 dJ7_rangeCheck_23922_60 rfl rfl ?_
      refine wp_icmp_le 73 dJ7_rangeCheck_23922_61 (by decide) (fun c => ?_) (fun c => ?_)
      · replace h := h.1 c
        exact wp_vret rfl dJ7_rangeCheck_23922_73 h
      · replace h := h.2 c
        exact h.elim
    · replace h := h.2 c
      exact h.elim
  · replace h := h.2 c
    exact h.elim
set_option maxRecDepth 100000 in
set_option maxHeartbeats 4000000 in
theorem E_J7_fill_d0a16 (g : Ev) (d : Nat) (k0 : Nat) (l1 : Int64) (σ : St) (K : Option Value → St → Prop) (h : 0 < lenJ k0 ∧ WP g 0 45 (d + 1) M_J7_fill_d0a16 6 [(0, .ref (eA g k0)), (1, .long l1), (3, .int (nI 0)), (4, .int (nI (lenJ k0)))] [] σ K) : Runs g 0 45 (d + 1) M_J7_fill_d0a16 [.ref (eA g k0), .long l1] σ K := by
  refine Runs.of (by decide) (Nat.le_of_ble_eq_true rfl) ?_
  show WP g 0 45 (d + 1) M_J7_fill_d0a16 0 [(0, .ref (eA g k0)), (1, .long l1)] [] σ K
  refine wp_iconst (nI 0) dJ7_fill_d0a16_0 (by decide) ?_
  refine wp_istore_n (lv' := [(3, .int (nI 0)), (0, .ref (eA g k0)), (1, .long l1)]) dJ7_fill_d0a16_1 rfl (by decide) rfl ?_
  refine wp_aload_n 1 dJ7_fill_d0a16_2 rfl rfl ?_
  refine wp_alenJ (Nat.zero_le _) (lenJ_pos h.1).2 h.1 dJ7_fill_d0a16_3 ?_
  replace h := h.2
  refine wp_istore (lv' := [(4, .int (nI (lenJ k0))), (3, .int (nI 0)), (0, .ref (eA g k0)), (1, .long l1)]) dJ7_fill_d0a16_4 (by decide) rfl ?_
  exact wp_sub [2, 3, 1, 0] rfl h
set_option maxRecDepth 100000 in
set_option maxHeartbeats 4000000 in
theorem R_J7_fill_d0a16_6 (g : Ev) (d : Nat) (k0 : Nat) (l1 : Int64) (x3 : Int32) (x4 : Int32) (σ : St) (K : Option Value → St → Prop) (h : ((x4 ≤ x3 → K none σ) ∧ (¬ x4 ≤ x3 → vp_in x3 (lenJ k0) ∧ WP g 0 45 (d + 1) M_J7_fill_d0a16 6 [(0, .ref (eA g k0)), (1, .long l1), (3, .int (x3 + (nI 1))), (4, .int x4)] [] (uL σ k0 x3.toNatClampNeg l1) K))) : WP g 0 45 (d + 1) M_J7_fill_d0a16 6 [(0, .ref (eA g k0)), (1, .long l1), (3, .int x3), (4, .int x4)] [] σ K := by
  refine wp_iload_n 2 dJ7_fill_d0a16_6 rfl rfl ?_
  refine wp_iload 3 dJ7_fill_d0a16_7 rfl ?_
  refine wp_icmp_ge 22 dJ7_fill_d0a16_9 (by decide) (fun c => ?_) (fun c => ?_)
  · replace h := h.1 c
    exact wp_vret rfl dJ7_fill_d0a16_22 h
  · replace h := h.2 c
    refine wp_aload_n 0 dJ7_fill_d0a16_12 rfl rfl ?_
    refine wp_iload_n 2 dJ7_fill_d0a16_13 rfl rfl ?_
    refine wp_lload_n 1 dJ7_fill_d0a16_14 rfl rfl ?_
    refine wp_last (Nat.zero_le _) (lenJ_hi h.1) dJ7_fill_d0a16_15 h.1 ?_
    replace h := h.2
    refine wp_iinc 2 (nI 1) (lv' := [(3, .int (x3 + (nI 1))), (0, .ref (eA g k0)), (1, .long l1), (4, .int x4)]) dJ7_fill_d0a16_16 (by decide) rfl (by decide) rfl ?_
    refine wp_goto 6 dJ7_fill_d0a16_19 (by decide) ?_
    exact wp_sub [1, 2, 0, 3] rfl h
set_option maxRecDepth 100000 in
set_option maxHeartbeats 4000000 in
theorem E_J7_fill_bad5a (g : Ev) (d : Nat) (k0 : Nat) (x1 : Int32) (x2 : Int32) (l3 : Int64) (σ : St) (K : Option Value → St → Prop) (h : 0 < lenJ k0 ∧ Runs g 0 45 d M_J7_rangeCheck_23922 [.int (nI (lenJ k0)), .int x1, .int x2] σ (fun r1 σ1 => r1 = none ∧ WP g 0 45 (d + 1) M_J7_fill_bad5a 10 [(0, .ref (eA g k0)), (2, .int x2), (3, .long l3), (5, .int x1)] [] σ1 K)) : Runs g 0 45 (d + 1) M_J7_fill_bad5a [.ref (eA g k0), .int x1, .int x2, .long l3] σ K := by
  refine Runs.of (by decide) (Nat.le_of_ble_eq_true rfl) ?_
  show WP g 0 45 (d + 1) M_J7_fill_bad5a 0 [(0, .ref (eA g k0)), (1, .int x1), (2, .int x2), (3, .long l3)] [] σ K
  refine wp_aload_n 0 dJ7_fill_bad5a_0 rfl rfl ?_
  refine wp_alenJ (Nat.zero_le _) (lenJ_pos h.1).2 h.1 dJ7_fill_bad5a_1 ?_
  replace h := h.2
  refine wp_iload_n 1 dJ7_fill_bad5a_2 rfl rfl ?_
  refine wp_iload_n 2 dJ7_fill_bad5a_3 rfl rfl ?_
  refine wp_callS [.int (nI (lenJ k0)), .int x1, .int x2] [] wc_J7_rangeCheck_23922 wm_J7_13 ws_J7_rangeCheck_23922 wi_J7 ok_J7_rangeCheck_23922 (by decide) (Nat.le_of_ble_eq_true rfl) dJ7_fill_bad5a_4 rfl h ?_
  rintro r1 σ1 ⟨rfl, h⟩
  show WP g 0 45 (d + 1) M_J7_fill_bad5a 7 [(0, .ref (eA g k0)), (1, .int x1), (2, .int x2), (3, .long l3)] [] σ1 K
  refine wp_iload_n 1 dJ7_fill_bad5a_7 rfl rfl ?_
  refine wp_istore (lv' := [(5, .int x1), (0, .ref (eA g k0)), (1, .int x1), (2, .int x2), (3, .long l3)]) dJ7_fill_bad5a_8 (by decide) rfl ?_
  exact wp_sub [1, 3, 4, 0] rfl h
set_option maxRecDepth 100000 in
set_option maxHeartbeats 4000000 in
theorem R_J7_fill_bad5a_10 (g : Ev) (d : Nat) (k0 : Nat) (x2 : Int32) (l3 : Int64) (x5 : Int32) (σ : St) (K : Option Value → St → Prop) (h : ((x2 ≤ x5 → K none σ) ∧ (¬ x2 ≤ x5 → vp_in x5 (lenJ k0) ∧ WP g 0 45 (d + 1) M_J7_fill_bad5a 10 [(0, .ref (eA g k0)), (2, .int x2), (3, .long l3), (5, .int (x5 + (nI 1)))] [] (uL σ k0 x5.toNatClampNeg l3) K))) : WP g 0 45 (d + 1) M_J7_fill_bad5a 10 [(0, .ref (eA g k0)), (2, .int x2), (3, .long l3), (5, .int x5)] [] σ K := by
  refine wp_iload 3 dJ7_fill_bad5a_10 rfl ?_
  refine wp_iload_n 1 dJ7_fill_bad5a_12 rfl rfl ?_
  refine wp_icmp_ge 27 dJ7_fill_bad5a_13 (by decide) (fun c => ?_) (fun c => ?_)
  · replace h := h.1 c
    exact wp_vret rfl dJ7_fill_bad5a_27 h
  · replace h := h.2 c
    refine wp_aload_n 0 dJ7_fill_bad5a_16 rfl rfl ?_
    refine wp_iload 3 dJ7_fill_bad5a_17 rfl ?_
    refine wp_lload_n 2 dJ7_fill_bad5a_19 rfl rfl ?_
    refine wp_last (Nat.zero_le _) (lenJ_hi h.1) dJ7_fill_bad5a_20 h.1 ?_
    replace h := h.2
    refine wp_iinc 3 (nI 1) (lv' := [(5, .int (x5 + (nI 1))), (0, .ref (eA g k0)), (2, .int x2), (3, .long l3)]) dJ7_fill_bad5a_21 (by decide) rfl (by decide) rfl ?_
    refine wp_goto 10 dJ7_fill_bad5a_24 (by decide) ?_
    exact wp_sub [1, 2, 3, 0] rfl h
set_option maxRecDepth 100000 in
set_option maxHeartbeats 4000000 in
theorem E_J7_fill_fda19 (g : Ev) (d : Nat) (k0 : Nat) (x1 : Int32) (x2 : Int32) (x3 : Int32) (σ : St) (K : Option Value → St → Prop) (h : (k0 < 45 ∧ 0 < lenI k0) ∧ Runs g 0 45 d M_J7_rangeCheck_23922 [.int (nI (lenI k0)), .int x1, .int x2] σ (fun r1 σ1 => r1 = none ∧ WP g 0 45 (d + 1) M_J7_fill_fda19 10 [(0, .ref (eA g k0)), (2, .int x2), (3, .int x3), (4, .int x1)] [] σ1 K)) : Runs g 0 45 (d + 1) M_J7_fill_fda19 [.ref (eA g k0), .int x1, .int x2, .int x3] σ K := by
  refine Runs.of (by decide) (Nat.le_of_ble_eq_true rfl) ?_
  show WP g 0 45 (d + 1) M_J7_fill_fda19 0 [(0, .ref (eA g k0)), (1, .int x1), (2, .int x2), (3, .int x3)] [] σ K
  refine wp_aload_n 0 dJ7_fill_fda19_0 rfl rfl ?_
  refine wp_alenI (Nat.zero_le _) h.1.1 h.1.2 dJ7_fill_fda19_1 ?_
  replace h := h.2
  refine wp_iload_n 1 dJ7_fill_fda19_2 rfl rfl ?_
  refine wp_iload_n 2 dJ7_fill_fda19_3 rfl rfl ?_
  refine wp_callS [.int (nI (lenI k0)), .int x1, .int x2] [] wc_J7_rangeCheck_23922 wm_J7_13 ws_J7_rangeCheck_23922 wi_J7 ok_J7_rangeCheck_23922 (by decide) (Nat.le_of_ble_eq_true rfl) dJ7_fill_fda19_4 rfl h ?_
  rintro r1 σ1 ⟨rfl, h⟩
  show WP g 0 45 (d + 1) M_J7_fill_fda19 7 [(0, .ref (eA g k0)), (1, .int x1), (2, .int x2), (3, .int x3)] [] σ1 K
  refine wp_iload_n 1 dJ7_fill_fda19_7 rfl rfl ?_
  refine wp_istore (lv' := [(4, .int x1), (0, .ref (eA g k0)), (1, .int x1), (2, .int x2), (3, .int x3)]) dJ7_fill_fda19_8 (by decide) rfl ?_
  exact wp_sub [1, 3, 4, 0] rfl h
set_option maxRecDepth 100000 in
set_option maxHeartbeats 4000000 in
theorem R_J7_fill_fda19_10 (g : Ev) (d : Nat) (k0 : Nat) (x2 : Int32) (x3 : Int32) (x4 : Int32) (σ : St) (K : Option Value → St → Prop) (h : ((x2 ≤ x4 → K none σ) ∧ (¬ x2 ≤ x4 → (k0 < 45 ∧ vp_in x4 (lenI k0)) ∧ WP g 0 45 (d + 1) M_J7_fill_fda19 10 [(0, .ref (eA g k0)), (2, .int x2), (3, .int x3), (4, .int (x4 + (nI 1)))] [] (uI σ k0 x4.toNatClampNeg x3) K))) : WP g 0 45 (d + 1) M_J7_fill_fda19 10 [(0, .ref (eA g k0)), (2, .int x2), (3, .int x3), (4, .int x4)] [] σ K := by
  refine wp_iload 3 dJ7_fill_fda19_10 rfl ?_
  refine wp_iload_n 1 dJ7_fill_fda19_12 rfl rfl ?_
  refine wp_icmp_ge 27 dJ7_fill_fda19_13 (by decide) (fun c => ?_) (fun c => ?_)
  · replace h := h.1 c
    exact wp_vret rfl dJ7_fill_fda19_27 h
  · replace h := h.2 c
    refine wp_aload_n 0 dJ7_fill_fda19_16 rfl rfl ?_
    refine wp_iload 3 dJ7_fill_fda19_17 rfl ?_
    refine wp_iload_n 2 dJ7_fill_fda19_19 rfl rfl ?_
    refine wp_iast (Nat.zero_le _) h.1.1 dJ7_fill_fda19_20 h.1.2 ?_
    replace h := h.2
    refine wp_iinc 3 (nI 1) (lv' := [(4, .int (x4 + (nI 1))), (0, .ref (eA g k0)), (2, .int x2), (3, .int x3)]) dJ7_fill_fda19_21 (by decide) rfl (by decide) rfl ?_
    refine wp_goto 10 dJ7_fill_fda19_24 (by decide) ?_
    exact wp_sub [1, 2, 3, 0] rfl h

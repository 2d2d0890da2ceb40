set_option maxRecDepth 100000 in
set_option maxHeartbeats 4000000 in
theorem E_X2_fresh (g : Ev) (d : Nat) (x1 : Int32) (x2 : Int32) (σ : St) (K : Option Value → St → Prop) (h : ((x1 < (nI 1) → K (some (.int (nI 0))) σ) ∧ (¬ x1 < (nI 1) → (((nI 12) < x1 → K (some (.int (nI 0))) σ) ∧ (¬ (nI 12) < x1 → ((x2 < nI 0 → K (some (.int (nI 0))) σ) ∧ (¬ x2 < nI 0 → ((x2 ≤ (nI 20000) → Runs g 0 45 d M_X2_begin [.ref (eA g 0), .int x1, .int x2] σ (fun r1 σ1 => r1 = none ∧ K (some (.int (nI 1))) σ1)) ∧ (¬ x2 ≤ (nI 20000) → K (some (.int (nI 0))) σ))))))))) : Runs g 0 45 (d + 1) M_X2_fresh [.ref (eA g 0), .int x1, .int x2] σ K := by
  refine Runs.of (by decide) (Nat.le_of_ble_eq_true rfl) ?_
  show WP g 0 45 (d + 1) M_X2_fresh 0 [(0, .ref (eA g 0)), (1, .int x1), (2, .int x2)] [] σ K
  refine wp_iload_n 1 dX2_fresh_0 rfl rfl ?_
  refine wp_iconst (nI 1) dX2_fresh_1 (by decide) ?_
  refine wp_icmp_lt 22 dX2_fresh_2 (by decide) (fun c => ?_) (fun c => ?_)
  · replace h := h.1 c
    refine wp_iconst (nI 0) dX2_fresh_22 (by decide) ?_
    exact wp_zret rfl rfl dX2_fresh_23 h
  · replace h := h.2 c
    refine wp_iload_n 1 dX2_fresh_5 rfl rfl ?_
    refine wp_bipush (nI 12) dX2_fresh_6 (by decide) ?_
    refine wp_icmp_gt 22 dX2_fresh_8 (by decide) (fun c => ?_) (fun c => ?_)
    · replace h := h.1 c
      refine wp_iconst (nI 0) dX2_fresh_22 (by decide) ?_
      exact wp_zret rfl rfl dX2_fresh_23 h
    · replace h := h.2 c
      refine wp_iload_n 2 dX2_fresh_11 rfl rfl ?_
      refine wp_if_lt 22 dX2_fresh_12 (by decide) (fun c => ?_) (fun c => ?_)
      · replace h := h.1 c
        refine wp_iconst (nI 0) dX2_fresh_22 (by decide) ?_
        exact wp_zret rfl rfl dX2_fresh_23 h
      · replace h := h.2 c
        refine wp_iload_n 2 dX2_fresh_15 rfl rfl ?_
        refine wp_sipush (nI 20000) dX2_fresh_16 (by decide) ?_
        refine wp_icmp_le 24 dX2_fresh_19 (by decide) (fun c => ?_) (fun c => ?_)
        · replace h := h.1 c
          refine wp_aload_n 0 dX2_fresh_24 rfl rfl ?_
          refine wp_iload_n 1 dX2_fresh_25 rfl rfl ?_
          refine wp_iload_n 2 dX2_fresh_26 rfl rfl ?_
          refine wp_callV [.int x1, .int x2] [] 0 1 (by decide) (by decide) rfl rfl wc_X2_begin wm_X2_36 ws_X2_begin we_X2_begin wi_X2 ok_X2_begin (by decide) (Nat.le_of_ble_eq_true rfl) dX2_fresh_27 rfl h ?_
          rintro r1 σ1 ⟨rfl, h⟩
          show WP g 0 45 (d + 1) M_X2_fresh 30 [(0, .ref (eA g 0)), (1, .int x1), (2, .int x2)] [] σ1 K
          refine wp_iconst (nI 1) dX2_fresh_30 (by decide) ?_
          exact wp_zret rfl rfl dX2_fresh_31 h
        · replace h := h.2 c
          refine wp_iconst (nI 0) dX2_fresh_22 (by decide) ?_
          exact wp_zret rfl rfl dX2_fresh_23 h
set_option maxRecDepth 100000 in
set_option maxHeartbeats 4000000 in
theorem E_X2_constant (g : Ev) (d : Nat) (x1 : Int32) (x2 : Int32) (σ : St) (K : Option Value → St → Prop) (h : Runs g 0 45 d M_X2_isRegister [.int x1] σ (fun r1 σ1 => ∃ v1 : Int32, r1 = some (.int v1) ∧ ((¬ v1 = nI 0 → vp_in x1 34 ∧ ((x2 = nI 0 → Runs g 0 45 d M_J7_fill_bad5a [.ref (eA g (11 + x1.toNatClampNeg)), .int (nI 0), .int (sV σ1 2), .long 0] σ1 (fun r2 σ2 => r2 = none ∧ Runs g 0 45 d M_X2_restPointer [.ref (eA g 0)] σ2 (fun r3 σ3 => r3 = none ∧ K (some (.int (nI 0))) σ3))) ∧ (¬ x2 = nI 0 → Runs g 0 45 d M_J7_fill_bad5a [.ref (eA g (11 + x1.toNatClampNeg)), .int (nI 0), .int (sV σ1 2), .long (sW σ1)] σ1 (fun r4 σ4 => r4 = none ∧ Runs g 0 45 d M_X2_restPointer [.ref (eA g 0)] σ4 (fun r5 σ5 => r5 = none ∧ K (some (.int (nI 0))) σ5))))) ∧ (v1 = nI 0 → K (some (.int (-2))) σ1)))) : Runs g 0 45 (d + 1) M_X2_constant [.ref (eA g 0), .int x1, .int x2] σ K := by
  refine Runs.of (by decide) (Nat.le_of_ble_eq_true rfl) ?_
  show WP g 0 45 (d + 1) M_X2_constant 0 [(0, .ref (eA g 0)), (1, .int x1), (2, .int x2)] [] σ K
  refine wp_iload_n 1 dX2_constant_0 rfl rfl ?_
  refine wp_callS [.int x1] [] wc_X2_isRegister wm_X2_40 ws_X2_isRegister wi_X2 ok_X2_isRegister (by decide) (Nat.le_of_ble_eq_true rfl) dX2_constant_1 rfl h ?_
  rintro r1 σ1 ⟨v1, rfl, h⟩
  show WP g 0 45 (d + 1) M_X2_constant 4 [(0, .ref (eA g 0)), (1, .int x1), (2, .int x2)] [.int v1] σ1 K
  refine wp_if_ne 10 dX2_constant_4 (by decide) (fun c => ?_) (fun c => ?_)
  · replace h := h.1 c
    refine wp_aload_n 0 dX2_constant_10 rfl rfl ?_
    refine wp_get 0 1 0 (by decide) (by decide) rfl rfl inG2 (by decide) wf_X2_13 rfl dX2_constant_11 ?_
    refine wp_iload_n 1 dX2_constant_14 rfl rfl ?_
    refine wp_aald (by decide) (by decide) dX2_constant_15 h.1 ?_
    replace h := h.2
    refine wp_iconst (nI 0) dX2_constant_16 (by decide) ?_
    refine wp_aload_n 0 dX2_constant_17 rfl rfl ?_
    refine wp_get 0 1 8 (by decide) (by decide) rfl rfl inG2 (by decide) wf_X2_44 rfl dX2_constant_18 ?_
    refine wp_iload_n 2 dX2_constant_21 rfl rfl ?_
    refine wp_if_eq 32 dX2_constant_22 (by decide) (fun c => ?_) (fun c => ?_)
    · replace h := h.1 c
      refine wp_lconst 0 dX2_constant_32 (by decide) ?_
      refine wp_callS [.ref (eA g (11 + x1.toNatClampNeg)), .int (nI 0), .int (sV σ1 2), .long 0] [] wc_J7_fill_bad5a wm_X2_52 ws_J7_fill_bad5a wi_J7 ok_J7_fill_bad5a (by decide) (Nat.le_of_ble_eq_true rfl) dX2_constant_33 rfl h ?_
      rintro r2 σ2 ⟨rfl, h⟩
      show WP g 0 45 (d + 1) M_X2_constant 36 [(0, .ref (eA g 0)), (1, .int x1), (2, .int x2)] [] σ2 K
      refine wp_aload_n 0 dX2_constant_36 rfl rfl ?_
      refine wp_callV [] [] 0 1 (by decide) (by decide) rfl rfl wc_X2_restPointer wm_X2_58 ws_X2_restPointer we_X2_restPointer wi_X2 ok_X2_restPointer (by decide) (Nat.le_of_ble_eq_true rfl) dX2_constant_37 rfl h ?_
      rintro r3 σ3 ⟨rfl, h⟩
      show WP g 0 45 (d + 1) M_X2_constant 40 [(0, .ref (eA g 0)), (1, .int x1), (2, .int x2)] [] σ3 K
      refine wp_iconst (nI 0) dX2_constant_40 (by decide) ?_
      exact wp_iret rfl dX2_constant_41 h
    · replace h := h.2 c
      refine wp_aload_n 0 dX2_constant_25 rfl rfl ?_
      refine wp_get 0 1 9 (by decide) (by decide) rfl rfl inG2 (by decide) wf_X2_48 rfl dX2_constant_26 ?_
      refine wp_goto 33 dX2_constant_29 (by decide) ?_
      refine wp_callS [.ref (eA g (11 + x1.toNatClampNeg)), .int (nI 0), .int (sV σ1 2), .long (sW σ1)] [] wc_J7_fill_bad5a wm_X2_52 ws_J7_fill_bad5a wi_J7 ok_J7_fill_bad5a (by decide) (Nat.le_of_ble_eq_true rfl) dX2_constant_33 rfl h ?_
      rintro r4 σ4 ⟨rfl, h⟩
      show WP g 0 45 (d + 1) M_X2_constant 36 [(0, .ref (eA g 0)), (1, .int x1), (2, .int x2)] [] σ4 K
      refine wp_aload_n 0 dX2_constant_36 rfl rfl ?_
      refine wp_callV [] [] 0 1 (by decide) (by decide) rfl rfl wc_X2_restPointer wm_X2_58 ws_X2_restPointer we_X2_restPointer wi_X2 ok_X2_restPointer (by decide) (Nat.le_of_ble_eq_true rfl) dX2_constant_37 rfl h ?_
      rintro r5 σ5 ⟨rfl, h⟩
      show WP g 0 45 (d + 1) M_X2_constant 40 [(0, .ref (eA g 0)), (1, .int x1), (2, .int x2)] [] σ5 K
      refine wp_iconst (nI 0) dX2_constant_40 (by decide) ?_
      exact wp_iret rfl dX2_constant_41 h
  · replace h := h.2 c
    refine wp_bipush (-2) dX2_constant_7 (by decide) ?_
    exact wp_iret rfl dX2_constant_9 h
set_option maxRecDepth 100000 in
set_option maxHeartbeats 4000000 in
theorem E_X2_letter (g : Ev) (d : Nat) (x1 : Int32) (x2 : Int32) (σ : St) (K : Option Value → St → Prop) (h : Runs g 0 45 d M_X2_isRegister [.int x1] σ (fun r1 σ1 => ∃ v1 : Int32, r1 = some (.int v1) ∧ ((v1 = nI 0 → K (some (.int (-2))) σ1) ∧ (¬ v1 = nI 0 → Runs g 0 45 d M_X2_isLetter [.ref (eA g 0), .int x2] σ1 (fun r2 σ2 => ∃ v2 : Int32, r2 = some (.int v2) ∧ ((¬ v2 = nI 0 → Runs g 0 45 d M_X2_placeOf [.ref (eA g 0), .int x2] σ2 (fun r3 σ3 => ∃ v3 : Int32, r3 = some (.int v3) ∧ vp_in (nI 32) 34 ∧ WP g 0 45 (d + 1) M_X2_letter 36 [(0, .ref (eA g 0)), (1, .int x1), (3, .int v3), (4, .ref (eA g (11 + (nI 32).toNatClampNeg))), (5, .int (nI 0))] [] σ3 K)) ∧ (v2 = nI 0 → K (some (.int (-2))) σ2))))))) : Runs g 0 45 (d + 1) M_X2_letter [.ref (eA g 0), .int x1, .int x2] σ K := by
  refine Runs.of (by decide) (Nat.le_of_ble_eq_true rfl) ?_
  show WP g 0 45 (d + 1) M_X2_letter 0 [(0, .ref (eA g 0)), (1, .int x1), (2, .int x2)] [] σ K
  refine wp_iload_n 1 dX2_letter_0 rfl rfl ?_
  refine wp_callS [.int x1] [] wc_X2_isRegister wm_X2_40 ws_X2_isRegister wi_X2 ok_X2_isRegister (by decide) (Nat.le_of_ble_eq_true rfl) dX2_letter_1 rfl h ?_
  rintro r1 σ1 ⟨v1, rfl, h⟩
  show WP g 0 45 (d + 1) M_X2_letter 4 [(0, .ref (eA g 0)), (1, .int x1), (2, .int x2)] [.int v1] σ1 K
  refine wp_if_eq 15 dX2_letter_4 (by decide) (fun c => ?_) (fun c => ?_)
  · replace h := h.1 c
    refine wp_bipush (-2) dX2_letter_15 (by decide) ?_
    exact wp_iret rfl dX2_letter_17 h
  · replace h := h.2 c
    refine wp_aload_n 0 dX2_letter_7 rfl rfl ?_
    refine wp_iload_n 2 dX2_letter_8 rfl rfl ?_
    refine wp_callV [.int x2] [] 0 1 (by decide) (by decide) rfl rfl wc_X2_isLetter wm_X2_61 ws_X2_isLetter we_X2_isLetter wi_X2 ok_X2_isLetter (by decide) (Nat.le_of_ble_eq_true rfl) dX2_letter_9 rfl h ?_
    rintro r2 σ2 ⟨v2, rfl, h⟩
    show WP g 0 45 (d + 1) M_X2_letter 12 [(0, .ref (eA g 0)), (1, .int x1), (2, .int x2)] [.int v2] σ2 K
    refine wp_if_ne 18 dX2_letter_12 (by decide) (fun c => ?_) (fun c => ?_)
    · replace h := h.1 c
      refine wp_aload_n 0 dX2_letter_18 rfl rfl ?_
      refine wp_iload_n 2 dX2_letter_19 rfl rfl ?_
      refine wp_callV [.int x2] [] 0 1 (by decide) (by decide) rfl rfl wc_X2_placeOf wm_X2_64 ws_X2_placeOf we_X2_placeOf wi_X2 ok_X2_placeOf (by decide) (Nat.le_of_ble_eq_true rfl) dX2_letter_20 rfl h ?_
      rintro r3 σ3 ⟨v3, rfl, h⟩
      show WP g 0 45 (d + 1) M_X2_letter 23 [(0, .ref (eA g 0)), (1, .int x1), (2, .int x2)] [.int v3] σ3 K
      refine wp_istore_n (lv' := [(3, .int v3), (0, .ref (eA g 0)), (1, .int x1), (2, .int x2)]) dX2_letter_23 rfl (by decide) rfl ?_
      refine wp_aload_n 1 dX2_letter_24 rfl rfl ?_
      refine wp_get 0 1 0 (by decide) (by decide) rfl rfl inG2 (by decide) wf_X2_13 rfl dX2_letter_25 ?_
      refine wp_bipush (nI 32) dX2_letter_28 (by decide) ?_
      refine wp_aald (by decide) (by decide) dX2_letter_30 h.1 ?_
      replace h := h.2
      refine wp_astore (lv' := [(4, .ref (eA g (11 + (nI 32).toNatClampNeg))), (3, .int v3), (0, .ref (eA g 0)), (1, .int x1), (2, .int x2)]) dX2_letter_31 (by decide) rfl ?_
      refine wp_iconst (nI 0) dX2_letter_33 (by decide) ?_
      refine wp_istore (lv' := [(5, .int (nI 0)), (4, .ref (eA g (11 + (nI 32).toNatClampNeg))), (3, .int v3), (0, .ref (eA g 0)), (1, .int x1), (2, .int x2)]) dX2_letter_34 (by decide) rfl ?_
      exact wp_sub [3, 4, 2, 1, 0] rfl h
    · replace h := h.2 c
      refine wp_bipush (-2) dX2_letter_15 (by decide) ?_
      exact wp_iret rfl dX2_letter_17 h
set_option maxRecDepth 100000 in
set_option maxHeartbeats 4000000 in
theorem R_X2_letter_36 (g : Ev) (d : Nat) (x1 : Int32) (x3 : Int32) (k4 : Nat) (x5 : Int32) (σ : St) (K : Option Value → St → Prop) (h : (((sV σ 2) ≤ x5 → Runs g 0 45 d M_X2_keep [.ref (eA g 0), .int x1] σ (fun r1 σ1 => ∃ v1 : Int32, r1 = some (.int v1) ∧ K (some (.int v1)) σ1)) ∧ (¬ (sV σ 2) ≤ x5 → Runs g 0 45 d M_X0_letterWord [.int x5, .int x3] σ (fun r2 σ2 => ∃ v2 : Int64, r2 = some (.long v2) ∧ vp_in x5 (lenJ k4) ∧ WP g 0 45 (d + 1) M_X2_letter 36 [(0, .ref (eA g 0)), (1, .int x1), (3, .int x3), (4, .ref (eA g k4)), (5, .int (x5 + (nI 1)))] [] (uL σ2 k4 x5.toNatClampNeg (v2 &&& (sW σ2))) K)))) : WP g 0 45 (d + 1) M_X2_letter 36 [(0, .ref (eA g 0)), (1, .int x1), (3, .int x3), (4, .ref (eA g k4)), (5, .int x5)] [] σ K := by
  refine wp_iload 4 dX2_letter_36 rfl ?_
  refine wp_aload_n 0 dX2_letter_38 rfl rfl ?_
  refine wp_get 0 1 8 (by decide) (by decide) rfl rfl inG2 (by decide) wf_X2_44 rfl dX2_letter_39 ?_
  refine wp_icmp_ge 67 dX2_letter_42 (by decide) (fun c => ?_) (fun c => ?_)
  · replace h := h.1 c
    refine wp_aload_n 0 dX2_letter_67 rfl rfl ?_
    refine wp_iload_n 1 dX2_letter_68 rfl rfl ?_
    refine wp_callV [.int x1] [] 0 1 (by decide) (by decide) rfl rfl wc_X2_keep wm_X2_72 ws_X2_keep we_X2_keep wi_X2 ok_X2_keep (by decide) (Nat.le_of_ble_eq_true rfl) dX2_letter_69 rfl h ?_
    rintro r1 σ1 ⟨v1, rfl, h⟩
    show WP g 0 45 (d + 1) M_X2_letter 72 [(0, .ref (eA g 0)), (1, .int x1), (3, .int x3), (4, .ref (eA g k4)), (5, .int x5)] [.int v1] σ1 K
    exact wp_iret rfl dX2_letter_72 h
  · replace h := h.2 c
    refine wp_aload 3 dX2_letter_45 rfl ?_
    refine wp_iload 4 dX2_letter_47 rfl ?_
    refine wp_iload 4 dX2_letter_49 rfl ?_
    refine wp_iload_n 2 dX2_letter_51 rfl rfl ?_
    refine wp_callSN [.int x5, .int x3] [.int x5, .ref (eA g k4)] wc_X0_letterWord wn_X2_68 ws_X0_letterWord wi_X0 ok_X0_letterWord (by decide) (Nat.le_of_ble_eq_true rfl) dX2_letter_52 rfl h ?_
    rintro r2 σ2 ⟨v2, rfl, h⟩
    show WP g 0 45 (d + 1) M_X2_letter 55 [(0, .ref (eA g 0)), (1, .int x1), (3, .int x3), (4, .ref (eA g k4)), (5, .int x5)] [.long v2, .int x5, .ref (eA g k4)] σ2 K
    refine wp_aload_n 0 dX2_letter_55 rfl rfl ?_
    refine wp_get 0 1 9 (by decide) (by decide) rfl rfl inG2 (by decide) wf_X2_48 rfl dX2_letter_56 ?_
    refine wp_land dX2_letter_59 ?_
    refine wp_last (Nat.zero_le _) (lenJ_hi h.1) dX2_letter_60 h.1 ?_
    replace h := h.2
    refine wp_iinc 4 (nI 1) (lv' := [(5, .int (x5 + (nI 1))), (0, .ref (eA g 0)), (1, .int x1), (3, .int x3), (4, .ref (eA g k4))]) dX2_letter_61 (by decide) rfl (by decide) rfl ?_
    refine wp_goto 36 dX2_letter_64 (by decide) ?_
    exact wp_sub [1, 2, 3, 4, 0] rfl h
set_option maxRecDepth 100000 in
set_option maxHeartbeats 4000000 in
theorem E_X2_join (g : Ev) (d : Nat) (x1 : Int32) (x2 : Int32) (x3 : Int32) (x4 : Int32) (σ : St) (K : Option Value → St → Prop) (h : Runs g 0 45 d M_X2_isRegister [.int x1] σ (fun r1 σ1 => ∃ v1 : Int32, r1 = some (.int v1) ∧ ((v1 = nI 0 → K (some (.int (-2))) σ1) ∧ (¬ v1 = nI 0 → Runs g 0 45 d M_X2_isRegister [.int x2] σ1 (fun r2 σ2 => ∃ v2 : Int32, r2 = some (.int v2) ∧ ((v2 = nI 0 → K (some (.int (-2))) σ2) ∧ (¬ v2 = nI 0 → Runs g 0 45 d M_X2_isRegister [.int x3] σ2 (fun r3 σ3 => ∃ v3 : Int32, r3 = some (.int v3) ∧ ((v3 = nI 0 → K (some (.int (-2))) σ3) ∧ (¬ v3 = nI 0 → ((x4 < nI 0 → K (some (.int (-2))) σ3) ∧ (¬ x4 < nI 0 → ((x4 ≤ (nI 15) → vp_in (nI 32) 34 ∧ WP g 0 45 (d + 1) M_X2_join 48 [(0, .ref (eA g 0)), (1, .int x1), (2, .int x2), (3, .int x3), (4, .int x4), (5, .ref (eA g (11 + (nI 32).toNatClampNeg))), (6, .int (nI 0))] [] σ3 K) ∧ (¬ x4 ≤ (nI 15) → K (some (.int (-2))) σ3)))))))))))))) : Runs g 0 45 (d + 1) M_X2_join [.ref (eA g 0), .int x1, .int x2, .int x3, .int x4] σ K := by
  refine Runs.of (by decide) (Nat.le_of_ble_eq_true rfl) ?_
  show WP g 0 45 (d + 1) M_X2_join 0 [(0, .ref (eA g 0)), (1, .int x1), (2, .int x2), (3, .int x3), (4, .int x4)] [] σ K
  refine wp_iload_n 1 dX2_join_0 rfl rfl ?_
  refine wp_callS [.int x1] [] wc_X2_isRegister wm_X2_40 ws_X2_isRegister wi_X2 ok_X2_isRegister (by decide) (Nat.le_of_ble_eq_true rfl) dX2_join_1 rfl h ?_
  rintro r1 σ1 ⟨v1, rfl, h⟩
  show WP g 0 45 (d + 1) M_X2_join 4 [(0, .ref (eA g 0)), (1, .int x1), (2, .int x2), (3, .int x3), (4, .int x4)] [.int v1] σ1 K
  refine wp_if_eq 33 dX2_join_4 (by decide) (fun c => ?_) (fun c => ?_)
  · replace h := h.1 c
    refine wp_bipush (-2) dX2_join_33 (by decide) ?_
    exact wp_iret rfl dX2_join_35 h
  · replace h := h.2 c
    refine wp_iload_n 2 dX2_join_7 rfl rfl ?_
    refine wp_callS [.int x2] [] wc_X2_isRegister wm_X2_40 ws_X2_isRegister wi_X2 ok_X2_isRegister (by decide) (Nat.le_of_ble_eq_true rfl) dX2_join_8 rfl h ?_
    rintro r2 σ2 ⟨v2, rfl, h⟩
    show WP g 0 45 (d + 1) M_X2_join 11 [(0, .ref (eA g 0)), (1, .int x1), (2, .int x2), (3, .int x3), (4, .int x4)] [.int v2] σ2 K
    refine wp_if_eq 33 dX2_join_11 (by decide) (fun c => ?_) (fun c => ?_)
    · replace h := h.1 c
      refine wp_bipush (-2) dX2_join_33 (by decide) ?_
      exact wp_iret rfl dX2_join_35 h
    · replace h := h.2 c
      refine wp_iload_n 3 dX2_join_14 rfl rfl ?_
      refine wp_callS [.int x3] [] wc_X2_isRegister wm_X2_40 ws_X2_isRegister wi_X2 ok_X2_isRegister (by decide) (Nat.le_of_ble_eq_true rfl) dX2_join_15 rfl h ?_
      rintro r3 σ3 ⟨v3, rfl, h⟩
      show WP g 0 45 (d + 1) M_X2_join 18 [(0, .ref (eA g 0)), (1, .int x1), (2, .int x2), (3, .int x3), (4, .int x4)] [.int v3] σ3 K
      refine wp_if_eq 33 dX2_join_18 (by decide) (fun c => ?_) (fun c => ?_)
      · replace h := h.1 c
        refine wp_bipush (-2) dX2_join_33 (by decide) ?_
        exact wp_iret rfl dX2_join_35 h
      · replace h := h.2 c
        refine wp_iload 4 dX2_join_21 rfl ?_
        refine wp_if_lt 33 dX2_join_23 (by decide) (fun c => ?_) (fun c => ?_)
        · replace h := h.1 c
          refine wp_bipush (-2) dX2_join_33 (by decide) ?_
          exact wp_iret rfl dX2_join_35 h
        · replace h := h.2 c
          refine wp_iload 4 dX2_join_26 rfl ?_
          refine wp_bipush (nI 15) dX2_join_28 (by decide) ?_
          refine wp_icmp_le 36 dX2_join_30 (by decide) (fun c => ?_) (fun c => ?_)
          · replace h := h.1 c
            refine wp_aload_n 0 dX2_join_36 rfl rfl ?_
            refine wp_get 0 1 0 (by decide) (by decide) rfl rfl inG2 (by decide) wf_X2_13 rfl dX2_join_37 ?_
            refine wp_bipush (nI 32) dX2_join_40 (by decide) ?_
            refine wp_aald (by decide) (by decide) dX2_join_42 h.1 ?_
            replace h := h.2
            refine wp_astore (lv' := [(5, .ref (eA g (11 + (nI 32).toNatClampNeg))), (0, .ref (eA g 0)), (1, .int x1), (2, .int x2), (3, .int x3), (4, .int x4)]) dX2_join_43 (by decide) rfl ?_
            refine wp_iconst (nI 0) dX2_join_45 (by decide) ?_
            refine wp_istore (lv' := [(6, .int (nI 0)), (5, .ref (eA g (11 + (nI 32).toNatClampNeg))), (0, .ref (eA g 0)), (1, .int x1), (2, .int x2), (3, .int x3), (4, .int x4)]) dX2_join_46 (by decide) rfl ?_
            exact wp_sub [2, 3, 4, 5, 6, 1, 0] rfl h
          · replace h := h.2 c
            refine wp_bipush (-2) dX2_join_33 (by decide) ?_
            exact wp_iret rfl dX2_join_35 h
set_option maxRecDepth 100000 in
set_option maxHeartbeats 4000000 in
theorem R_X2_join_48 (g : Ev) (d : Nat) (x1 : Int32) (x2 : Int32) (x3 : Int32) (x4 : Int32) (k5 : Nat) (x6 : Int32) (σ : St) (K : Option Value → St → Prop) (h : (((sV σ 2) ≤ x6 → Runs g 0 45 d M_X2_keep [.ref (eA g 0), .int x1] σ (fun r1 σ1 => ∃ v1 : Int32, r1 = some (.int v1) ∧ K (some (.int v1)) σ1)) ∧ (¬ (sV σ 2) ≤ x6 → vp_in x2 34 ∧ vp_in x6 (lenJ (11 + x2.toNatClampNeg)) ∧ vp_in x3 34 ∧ vp_in x6 (lenJ (11 + x3.toNatClampNeg)) ∧ Runs g 0 45 d M_X0_joinedWord [.long (sL σ (11 + x2.toNatClampNeg) x6.toNatClampNeg), .long (sL σ (11 + x3.toNatClampNeg) x6.toNatClampNeg), .int x4] σ (fun r2 σ2 => ∃ v2 : Int64, r2 = some (.long v2) ∧ vp_in x6 (lenJ k5) ∧ WP g 0 45 (d + 1) M_X2_join 48 [(0, .ref (eA g 0)), (1, .int x1), (2, .int x2), (3, .int x3), (4, .int x4), (5, .ref (eA g k5)), (6, .int (x6 + (nI 1)))] [] (uL σ2 k5 x6.toNatClampNeg (v2 &&& (sW σ2))) K)))) : WP g 0 45 (d + 1) M_X2_join 48 [(0, .ref (eA g 0)), (1, .int x1), (2, .int x2), (3, .int x3), (4, .int x4), (5, .ref (eA g k5)), (6, .int x6)] [] σ K := by
  refine wp_iload 6 dX2_join_48 rfl ?_
  refine wp_aload_n 0 dX2_join_50 rfl rfl ?_
  refine wp_get 0 1 8 (by decide) (by decide) rfl rfl inG2 (by decide) wf_X2_44 rfl dX2_join_51 ?_
  refine wp_icmp_ge 96 dX2_join_54 (by decide) (fun c => ?_) (fun c => ?_)
  · replace h := h.1 c
    refine wp_aload_n 0 dX2_join_96 rfl rfl ?_
    refine wp_iload_n 1 dX2_join_97 rfl rfl ?_
    refine wp_callV [.int x1] [] 0 1 (by decide) (by decide) rfl rfl wc_X2_keep wm_X2_72 ws_X2_keep we_X2_keep wi_X2 ok_X2_keep (by decide) (Nat.le_of_ble_eq_true rfl) dX2_join_98 rfl h ?_
    rintro r1 σ1 ⟨v1, rfl, h⟩
    show WP g 0 45 (d + 1) M_X2_join 101 [(0, .ref (eA g 0)), (1, .int x1), (2, .int x2), (3, .int x3), (4, .int x4), (5, .ref (eA g k5)), (6, .int x6)] [.int v1] σ1 K
    exact wp_iret rfl dX2_join_101 h
  · replace h := h.2 c
    refine wp_aload 5 dX2_join_57 rfl ?_
    refine wp_iload 6 dX2_join_59 rfl ?_
    refine wp_aload_n 0 dX2_join_61 rfl rfl ?_
    refine wp_get 0 1 0 (by decide) (by decide) rfl rfl inG2 (by decide) wf_X2_13 rfl dX2_join_62 ?_
    refine wp_iload_n 2 dX2_join_65 rfl rfl ?_
    refine wp_aald (by decide) (by decide) dX2_join_66 h.1 ?_
    replace h := h.2
    refine wp_iload 6 dX2_join_67 rfl ?_
    refine wp_lald (Nat.zero_le _) (lenJ_hi h.1) dX2_join_69 h.1 ?_
    replace h := h.2
    refine wp_aload_n 0 dX2_join_70 rfl rfl ?_
    refine wp_get 0 1 0 (by decide) (by decide) rfl rfl inG2 (by decide) wf_X2_13 rfl dX2_join_71 ?_
    refine wp_iload_n 3 dX2_join_74 rfl rfl ?_
    refine wp_aald (by decide) (by decide) dX2_join_75 h.1 ?_
    replace h := h.2
    refine wp_iload 6 dX2_join_76 rfl ?_
    refine wp_lald (Nat.zero_le _) (lenJ_hi h.1) dX2_join_78 h.1 ?_
    replace h := h.2
    refine wp_iload 4 dX2_join_79 rfl ?_
    refine wp_callSN [.long (sL σ (11 + x2.toNatClampNeg) x6.toNatClampNeg), .long (sL σ (11 + x3.toNatClampNeg) x6.toNatClampNeg), .int x4] [.int x6, .ref (eA g k5)] wc_X0_joinedWord wn_X2_75 ws_X0_joinedWord wi_X0 ok_X0_joinedWord (by decide) (Nat.le_of_ble_eq_true rfl) dX2_join_81 rfl h ?_
    rintro r2 σ2 ⟨v2, rfl, h⟩
    show WP g 0 45 (d + 1) M_X2_join 84 [(0, .ref (eA g 0)), (1, .int x1), (2, .int x2), (3, .int x3), (4, .int x4), (5, .ref (eA g k5)), (6, .int x6)] [.long v2, .int x6, .ref (eA g k5)] σ2 K
    refine wp_aload_n 0 dX2_join_84 rfl rfl ?_
    refine wp_get 0 1 9 (by decide) (by decide) rfl rfl inG2 (by decide) wf_X2_48 rfl dX2_join_85 ?_
    refine wp_land dX2_join_88 ?_
    refine wp_last (Nat.zero_le _) (lenJ_hi h.1) dX2_join_89 h.1 ?_
    replace h := h.2
    refine wp_iinc 6 (nI 1) (lv' := [(6, .int (x6 + (nI 1))), (0, .ref (eA g 0)), (1, .int x1), (2, .int x2), (3, .int x3), (4, .int x4), (5, .ref (eA g k5))]) dX2_join_90 (by decide) rfl (by decide) rfl ?_
    refine wp_goto 48 dX2_join_93 (by decide) ?_
    exact wp_sub [1, 2, 3, 4, 5, 6, 0] rfl h
set_option maxRecDepth 100000 in
set_option maxHeartbeats 4000000 in
theorem E_X2_fork (g : Ev) (d : Nat) (x1 : Int32) (x2 : Int32) (x3 : Int32) (x4 : Int32) (σ : St) (K : Option Value → St → Prop) (h : Runs g 0 45 d M_X2_isRegister [.int x1] σ (fun r1 σ1 => ∃ v1 : Int32, r1 = some (.int v1) ∧ ((v1 = nI 0 → K (some (.int (-2))) σ1) ∧ (¬ v1 = nI 0 → Runs g 0 45 d M_X2_isRegister [.int x2] σ1 (fun r2 σ2 => ∃ v2 : Int32, r2 = some (.int v2) ∧ ((v2 = nI 0 → K (some (.int (-2))) σ2) ∧ (¬ v2 = nI 0 → Runs g 0 45 d M_X2_isRegister [.int x3] σ2 (fun r3 σ3 => ∃ v3 : Int32, r3 = some (.int v3) ∧ ((v3 = nI 0 → K (some (.int (-2))) σ3) ∧ (¬ v3 = nI 0 → Runs g 0 45 d M_X2_isRegister [.int x4] σ3 (fun r4 σ4 => ∃ v4 : Int32, r4 = some (.int v4) ∧ ((¬ v4 = nI 0 → vp_in (nI 32) 34 ∧ WP g 0 45 (d + 1) M_X2_fork 44 [(0, .ref (eA g 0)), (1, .int x1), (2, .int x2), (3, .int x3), (4, .int x4), (5, .ref (eA g (11 + (nI 32).toNatClampNeg))), (6, .int (nI 0))] [] σ4 K) ∧ (v4 = nI 0 → K (some (.int (-2))) σ4))))))))))))) : Runs g 0 45 (d + 1) M_X2_fork [.ref (eA g 0), .int x1, .int x2, .int x3, .int x4] σ K := by
  refine Runs.of (by decide) (Nat.le_of_ble_eq_true rfl) ?_
  show WP g 0 45 (d + 1) M_X2_fork 0 [(0, .ref (eA g 0)), (1, .int x1), (2, .int x2), (3, .int x3), (4, .int x4)] [] σ K
  refine wp_iload_n 1 dX2_fork_0 rfl rfl ?_
  refine wp_callS [.int x1] [] wc_X2_isRegister wm_X2_40 ws_X2_isRegister wi_X2 ok_X2_isRegister (by decide) (Nat.le_of_ble_eq_true rfl) dX2_fork_1 rfl h ?_
  rintro r1 σ1 ⟨v1, rfl, h⟩
  show WP g 0 45 (d + 1) M_X2_fork 4 [(0, .ref (eA g 0)), (1, .int x1), (2, .int x2), (3, .int x3), (4, .int x4)] [.int v1] σ1 K
  refine wp_if_eq 29 dX2_fork_4 (by decide) (fun c => ?_) (fun c => ?_)
  · replace h := h.1 c
    refine wp_bipush (-2) dX2_fork_29 (by decide) ?_
    exact wp_iret rfl dX2_fork_31 h
  · replace h := h.2 c
    refine wp_iload_n 2 dX2_fork_7 rfl rfl ?_
    refine wp_callS [.int x2] [] wc_X2_isRegister wm_X2_40 ws_X2_isRegister wi_X2 ok_X2_isRegister (by decide) (Nat.le_of_ble_eq_true rfl) dX2_fork_8 rfl h ?_
    rintro r2 σ2 ⟨v2, rfl, h⟩
    show WP g 0 45 (d + 1) M_X2_fork 11 [(0, .ref (eA g 0)), (1, .int x1), (2, .int x2), (3, .int x3), (4, .int x4)] [.int v2] σ2 K
    refine wp_if_eq 29 dX2_fork_11 (by decide) (fun c => ?_) (fun c => ?_)
    · replace h := h.1 c
      refine wp_bipush (-2) dX2_fork_29 (by decide) ?_
      exact wp_iret rfl dX2_fork_31 h
    · replace h := h.2 c
      refine wp_iload_n 3 dX2_fork_14 rfl rfl ?_
      refine wp_callS [.int x3] [] wc_X2_isRegister wm_X2_40 ws_X2_isRegister wi_X2 ok_X2_isRegister (by decide) (Nat.le_of_ble_eq_true rfl) dX2_fork_15 rfl h ?_
      rintro r3 σ3 ⟨v3, rfl, h⟩
      show WP g 0 45 (d + 1) M_X2_fork 18 [(0, .ref (eA g 0)), (1, .int x1), (2, .int x2), (3, .int x3), (4, .int x4)] [.int v3] σ3 K
      refine wp_if_eq 29 dX2_fork_18 (by decide) (fun c => ?_) (fun c => ?_)
      · replace h := h.1 c
        refine wp_bipush (-2) dX2_fork_29 (by decide) ?_
        exact wp_iret rfl dX2_fork_31 h
      · replace h := h.2 c
        refine wp_iload 4 dX2_fork_21 rfl ?_
        refine wp_callS [.int x4] [] wc_X2_isRegister wm_X2_40 ws_X2_isRegister wi_X2 ok_X2_isRegister (by decide) (Nat.le_of_ble_eq_true rfl) dX2_fork_23 rfl h ?_
        rintro r4 σ4 ⟨v4, rfl, h⟩
        show WP g 0 45 (d + 1) M_X2_fork 26 [(0, .ref (eA g 0)), (1, .int x1), (2, .int x2), (3, .int x3), (4, .int x4)] [.int v4] σ4 K
        refine wp_if_ne 32 dX2_fork_26 (by decide) (fun c => ?_) (fun c => ?_)
        · replace h := h.1 c
          refine wp_aload_n 0 dX2_fork_32 rfl rfl ?_
          refine wp_get 0 1 0 (by decide) (by decide) rfl rfl inG2 (by decide) wf_X2_13 rfl dX2_fork_33 ?_
          refine wp_bipush (nI 32) dX2_fork_36 (by decide) ?_
          refine wp_aald (by decide) (by decide) dX2_fork_38 h.1 ?_
          replace h := h.2
          refine wp_astore (lv' := [(5, .ref (eA g (11 + (nI 32).toNatClampNeg))), (0, .ref (eA g 0)), (1, .int x1), (2, .int x2), (3, .int x3), (4, .int x4)]) dX2_fork_39 (by decide) rfl ?_
          refine wp_iconst (nI 0) dX2_fork_41 (by decide) ?_
          refine wp_istore (lv' := [(6, .int (nI 0)), (5, .ref (eA g (11 + (nI 32).toNatClampNeg))), (0, .ref (eA g 0)), (1, .int x1), (2, .int x2), (3, .int x3), (4, .int x4)]) dX2_fork_42 (by decide) rfl ?_
          exact wp_sub [2, 3, 4, 5, 6, 1, 0] rfl h
        · replace h := h.2 c
          refine wp_bipush (-2) dX2_fork_29 (by decide) ?_
          exact wp_iret rfl dX2_fork_31 h
set_option maxRecDepth 100000 in
set_option maxHeartbeats 4000000 in
theorem R_X2_fork_44 (g : Ev) (d : Nat) (x1 : Int32) (x2 : Int32) (x3 : Int32) (x4 : Int32) (k5 : Nat) (x6 : Int32) (σ : St) (K : Option Value → St → Prop) (h : (((sV σ 2) ≤ x6 → Runs g 0 45 d M_X2_keep [.ref (eA g 0), .int x1] σ (fun r1 σ1 => ∃ v1 : Int32, r1 = some (.int v1) ∧ K (some (.int v1)) σ1)) ∧ (¬ (sV σ 2) ≤ x6 → vp_in x2 34 ∧ vp_in x6 (lenJ (11 + x2.toNatClampNeg)) ∧ vp_in x3 34 ∧ vp_in x6 (lenJ (11 + x3.toNatClampNeg)) ∧ vp_in x4 34 ∧ vp_in x6 (lenJ (11 + x4.toNatClampNeg)) ∧ Runs g 0 45 d M_X0_chosenWord [.long (sL σ (11 + x2.toNatClampNeg) x6.toNatClampNeg), .long (sL σ (11 + x3.toNatClampNeg) x6.toNatClampNeg), .long (sL σ (11 + x4.toNatClampNeg) x6.toNatClampNeg)] σ (fun r2 σ2 => ∃ v2 : Int64, r2 = some (.long v2) ∧ vp_in x6 (lenJ k5) ∧ WP g 0 45 (d + 1) M_X2_fork 44 [(0, .ref (eA g 0)), (1, .int x1), (2, .int x2), (3, .int x3), (4, .int x4), (5, .ref (eA g k5)), (6, .int (x6 + (nI 1)))] [] (uL σ2 k5 x6.toNatClampNeg v2) K)))) : WP g 0 45 (d + 1) M_X2_fork 44 [(0, .ref (eA g 0)), (1, .int x1), (2, .int x2), (3, .int x3), (4, .int x4), (5, .ref (eA g k5)), (6, .int x6)] [] σ K := by
  refine wp_iload 6 dX2_fork_44 rfl ?_
  refine wp_aload_n 0 dX2_fork_46 rfl rfl ?_
  refine wp_get 0 1 8 (by decide) (by decide) rfl rfl inG2 (by decide) wf_X2_44 rfl dX2_fork_47 ?_
  refine wp_icmp_ge 95 dX2_fork_50 (by decide) (fun c => ?_) (fun c => ?_)
  · replace h := h.1 c
    refine wp_aload_n 0 dX2_fork_95 rfl rfl ?_
    refine wp_iload_n 1 dX2_fork_96 rfl rfl ?_
    refine wp_callV [.int x1] [] 0 1 (by decide) (by decide) rfl rfl wc_X2_keep wm_X2_72 ws_X2_keep we_X2_keep wi_X2 ok_X2_keep (by decide) (Nat.le_of_ble_eq_true rfl) dX2_fork_97 rfl h ?_
    rintro r1 σ1 ⟨v1, rfl, h⟩
    show WP g 0 45 (d + 1) M_X2_fork 100 [(0, .ref (eA g 0)), (1, .int x1), (2, .int x2), (3, .int x3), (4, .int x4), (5, .ref (eA g k5)), (6, .int x6)] [.int v1] σ1 K
    exact wp_iret rfl dX2_fork_100 h
  · replace h := h.2 c
    refine wp_aload 5 dX2_fork_53 rfl ?_
    refine wp_iload 6 dX2_fork_55 rfl ?_
    refine wp_aload_n 0 dX2_fork_57 rfl rfl ?_
    refine wp_get 0 1 0 (by decide) (by decide) rfl rfl inG2 (by decide) wf_X2_13 rfl dX2_fork_58 ?_
    refine wp_iload_n 2 dX2_fork_61 rfl rfl ?_
    refine wp_aald (by decide) (by decide) dX2_fork_62 h.1 ?_
    replace h := h.2
    refine wp_iload 6 dX2_fork_63 rfl ?_
    refine wp_lald (Nat.zero_le _) (lenJ_hi h.1) dX2_fork_65 h.1 ?_
    replace h := h.2
    refine wp_aload_n 0 dX2_fork_66 rfl rfl ?_
    refine wp_get 0 1 0 (by decide) (by decide) rfl rfl inG2 (by decide) wf_X2_13 rfl dX2_fork_67 ?_
    refine wp_iload_n 3 dX2_fork_70 rfl rfl ?_
    refine wp_aald (by decide) (by decide) dX2_fork_71 h.1 ?_
    replace h := h.2
    refine wp_iload 6 dX2_fork_72 rfl ?_
    refine wp_lald (Nat.zero_le _) (lenJ_hi h.1) dX2_fork_74 h.1 ?_
    replace h := h.2
    refine wp_aload_n 0 dX2_fork_75 rfl rfl ?_
    refine wp_get 0 1 0 (by decide) (by decide) rfl rfl inG2 (by decide) wf_X2_13 rfl dX2_fork_76 ?_
    refine wp_iload 4 dX2_fork_79 rfl ?_
    refine wp_aald (by decide) (by decide) dX2_fork_81 h.1 ?_
    replace h := h.2
    refine wp_iload 6 dX2_fork_82 rfl ?_
    refine wp_lald (Nat.zero_le _) (lenJ_hi h.1) dX2_fork_84 h.1 ?_
    replace h := h.2
    refine wp_callSN [.long (sL σ (11 + x2.toNatClampNeg) x6.toNatClampNeg), .long (sL σ (11 + x3.toNatClampNeg) x6.toNatClampNeg), .long (sL σ (11 + x4.toNatClampNeg) x6.toNatClampNeg)] [.int x6, .ref (eA g k5)] wc_X0_chosenWord wn_X2_79 ws_X0_chosenWord wi_X0 ok_X0_chosenWord (by decide) (Nat.le_of_ble_eq_true rfl) dX2_fork_85 rfl h ?_
    rintro r2 σ2 ⟨v2, rfl, h⟩
    show WP g 0 45 (d + 1) M_X2_fork 88 [(0, .ref (eA g 0)), (1, .int x1), (2, .int x2), (3, .int x3), (4, .int x4), (5, .ref (eA g k5)), (6, .int x6)] [.long v2, .int x6, .ref (eA g k5)] σ2 K
    refine wp_last (Nat.zero_le _) (lenJ_hi h.1) dX2_fork_88 h.1 ?_
    replace h := h.2
    refine wp_iinc 6 (nI 1) (lv' := [(6, .int (x6 + (nI 1))), (0, .ref (eA g 0)), (1, .int x1), (2, .int x2), (3, .int x3), (4, .int x4), (5, .ref (eA g k5))]) dX2_fork_89 (by decide) rfl (by decide) rfl ?_
    refine wp_goto 44 dX2_fork_92 (by decide) ?_
    exact wp_sub [1, 2, 3, 4, 5, 6, 0] rfl h
set_option maxRecDepth 100000 in
set_option maxHeartbeats 4000000 in
theorem E_X2_fix (g : Ev) (d : Nat) (x1 : Int32) (x2 : Int32) (x3 : Int32) (x4 : Int32) (σ : St) (K : Option Value → St → Prop) (h : Runs g 0 45 d M_X2_isRegister [.int x1] σ (fun r1 σ1 => ∃ v1 : Int32, r1 = some (.int v1) ∧ ((v1 = nI 0 → K (some (.int (-2))) σ1) ∧ (¬ v1 = nI 0 → Runs g 0 45 d M_X2_isRegister [.int x2] σ1 (fun r2 σ2 => ∃ v2 : Int32, r2 = some (.int v2) ∧ ((v2 = nI 0 → K (some (.int (-2))) σ2) ∧ (¬ v2 = nI 0 → Runs g 0 45 d M_X2_isLetter [.ref (eA g 0), .int x3] σ2 (fun r3 σ3 => ∃ v3 : Int32, r3 = some (.int v3) ∧ ((¬ v3 = nI 0 → Runs g 0 45 d M_X2_placeOf [.ref (eA g 0), .int x3] σ3 (fun r4 σ4 => ∃ v4 : Int32, r4 = some (.int v4) ∧ vp_in (nI 32) 34 ∧ WP g 0 45 (d + 1) M_X2_fix 44 [(0, .ref (eA g 0)), (1, .int x1), (2, .int x2), (4, .int x4), (5, .int v4), (6, .ref (eA g (11 + (nI 32).toNatClampNeg))), (7, .int (nI 0))] [] σ4 K)) ∧ (v3 = nI 0 → K (some (.int (-2))) σ3)))))))))) : Runs g 0 45 (d + 1) M_X2_fix [.ref (eA g 0), .int x1, .int x2, .int x3, .int x4] σ K := by
  refine Runs.of (by decide) (Nat.le_of_ble_eq_true rfl) ?_
  show WP g 0 45 (d + 1) M_X2_fix 0 [(0, .ref (eA g 0)), (1, .int x1), (2, .int x2), (3, .int x3), (4, .int x4)] [] σ K
  refine wp_iload_n 1 dX2_fix_0 rfl rfl ?_
  refine wp_callS [.int x1] [] wc_X2_isRegister wm_X2_40 ws_X2_isRegister wi_X2 ok_X2_isRegister (by decide) (Nat.le_of_ble_eq_true rfl) dX2_fix_1 rfl h ?_
  rintro r1 σ1 ⟨v1, rfl, h⟩
  show WP g 0 45 (d + 1) M_X2_fix 4 [(0, .ref (eA g 0)), (1, .int x1), (2, .int x2), (3, .int x3), (4, .int x4)] [.int v1] σ1 K
  refine wp_if_eq 22 dX2_fix_4 (by decide) (fun c => ?_) (fun c => ?_)
  · replace h := h.1 c
    refine wp_bipush (-2) dX2_fix_22 (by decide) ?_
    exact wp_iret rfl dX2_fix_24 h
  · replace h := h.2 c
    refine wp_iload_n 2 dX2_fix_7 rfl rfl ?_
    refine wp_callS [.int x2] [] wc_X2_isRegister wm_X2_40 ws_X2_isRegister wi_X2 ok_X2_isRegister (by decide) (Nat.le_of_ble_eq_true rfl) dX2_fix_8 rfl h ?_
    rintro r2 σ2 ⟨v2, rfl, h⟩
    show WP g 0 45 (d + 1) M_X2_fix 11 [(0, .ref (eA g 0)), (1, .int x1), (2, .int x2), (3, .int x3), (4, .int x4)] [.int v2] σ2 K
    refine wp_if_eq 22 dX2_fix_11 (by decide) (fun c => ?_) (fun c => ?_)
    · replace h := h.1 c
      refine wp_bipush (-2) dX2_fix_22 (by decide) ?_
      exact wp_iret rfl dX2_fix_24 h
    · replace h := h.2 c
      refine wp_aload_n 0 dX2_fix_14 rfl rfl ?_
      refine wp_iload_n 3 dX2_fix_15 rfl rfl ?_
      refine wp_callV [.int x3] [] 0 1 (by decide) (by decide) rfl rfl wc_X2_isLetter wm_X2_61 ws_X2_isLetter we_X2_isLetter wi_X2 ok_X2_isLetter (by decide) (Nat.le_of_ble_eq_true rfl) dX2_fix_16 rfl h ?_
      rintro r3 σ3 ⟨v3, rfl, h⟩
      show WP g 0 45 (d + 1) M_X2_fix 19 [(0, .ref (eA g 0)), (1, .int x1), (2, .int x2), (3, .int x3), (4, .int x4)] [.int v3] σ3 K
      refine wp_if_ne 25 dX2_fix_19 (by decide) (fun c => ?_) (fun c => ?_)
      · replace h := h.1 c
        refine wp_aload_n 0 dX2_fix_25 rfl rfl ?_
        refine wp_iload_n 3 dX2_fix_26 rfl rfl ?_
        refine wp_callV [.int x3] [] 0 1 (by decide) (by decide) rfl rfl wc_X2_placeOf wm_X2_64 ws_X2_placeOf we_X2_placeOf wi_X2 ok_X2_placeOf (by decide) (Nat.le_of_ble_eq_true rfl) dX2_fix_27 rfl h ?_
        rintro r4 σ4 ⟨v4, rfl, h⟩
        show WP g 0 45 (d + 1) M_X2_fix 30 [(0, .ref (eA g 0)), (1, .int x1), (2, .int x2), (3, .int x3), (4, .int x4)] [.int v4] σ4 K
        refine wp_istore (lv' := [(5, .int v4), (0, .ref (eA g 0)), (1, .int x1), (2, .int x2), (3, .int x3), (4, .int x4)]) dX2_fix_30 (by decide) rfl ?_
        refine wp_aload_n 1 dX2_fix_32 rfl rfl ?_
        refine wp_get 0 1 0 (by decide) (by decide) rfl rfl inG2 (by decide) wf_X2_13 rfl dX2_fix_33 ?_
        refine wp_bipush (nI 32) dX2_fix_36 (by decide) ?_
        refine wp_aald (by decide) (by decide) dX2_fix_38 h.1 ?_
        replace h := h.2
        refine wp_astore (lv' := [(6, .ref (eA g (11 + (nI 32).toNatClampNeg))), (5, .int v4), (0, .ref (eA g 0)), (1, .int x1), (2, .int x2), (3, .int x3), (4, .int x4)]) dX2_fix_39 (by decide) rfl ?_
        refine wp_iconst (nI 0) dX2_fix_41 (by decide) ?_
        refine wp_istore (lv' := [(7, .int (nI 0)), (6, .ref (eA g (11 + (nI 32).toNatClampNeg))), (5, .int v4), (0, .ref (eA g 0)), (1, .int x1), (2, .int x2), (3, .int x3), (4, .int x4)]) dX2_fix_42 (by decide) rfl ?_
        exact wp_sub [3, 4, 5, 7, 2, 1, 0] rfl h
      · replace h := h.2 c
        refine wp_bipush (-2) dX2_fix_22 (by decide) ?_
        exact wp_iret rfl dX2_fix_24 h
set_option maxRecDepth 100000 in
set_option maxHeartbeats 4000000 in
theorem R_X2_fix_44 (g : Ev) (d : Nat) (x1 : Int32) (x2 : Int32) (x4 : Int32) (x5 : Int32) (k6 : Nat) (x7 : Int32) (σ : St) (K : Option Value → St → Prop) (h : (((sV σ 2) ≤ x7 → Runs g 0 45 d M_X2_keep [.ref (eA g 0), .int x1] σ (fun r1 σ1 => ∃ v1 : Int32, r1 = some (.int v1) ∧ K (some (.int v1)) σ1)) ∧ (¬ (sV σ 2) ≤ x7 → vp_in x2 34 ∧ Runs g 0 45 d M_X0_fixedWord [.ref (eA g (11 + x2.toNatClampNeg)), .int x7, .int x5, .int x4] σ (fun r2 σ2 => ∃ v2 : Int64, r2 = some (.long v2) ∧ vp_in x7 (lenJ k6) ∧ WP g 0 45 (d + 1) M_X2_fix 44 [(0, .ref (eA g 0)), (1, .int x1), (2, .int x2), (4, .int x4), (5, .int x5), (6, .ref (eA g k6)), (7, .int (x7 + (nI 1)))] [] (uL σ2 k6 x7.toNatClampNeg v2) K)))) : WP g 0 45 (d + 1) M_X2_fix 44 [(0, .ref (eA g 0)), (1, .int x1), (2, .int x2), (4, .int x4), (5, .int x5), (6, .ref (eA g k6)), (7, .int x7)] [] σ K := by
  refine wp_iload 6 dX2_fix_44 rfl ?_
  refine wp_aload_n 0 dX2_fix_46 rfl rfl ?_
  refine wp_get 0 1 8 (by decide) (by decide) rfl rfl inG2 (by decide) wf_X2_44 rfl dX2_fix_47 ?_
  refine wp_icmp_ge 79 dX2_fix_50 (by decide) (fun c => ?_) (fun c => ?_)
  · replace h := h.1 c
    refine wp_aload_n 0 dX2_fix_79 rfl rfl ?_
    refine wp_iload_n 1 dX2_fix_80 rfl rfl ?_
    refine wp_callV [.int x1] [] 0 1 (by decide) (by decide) rfl rfl wc_X2_keep wm_X2_72 ws_X2_keep we_X2_keep wi_X2 ok_X2_keep (by decide) (Nat.le_of_ble_eq_true rfl) dX2_fix_81 rfl h ?_
    rintro r1 σ1 ⟨v1, rfl, h⟩
    show WP g 0 45 (d + 1) M_X2_fix 84 [(0, .ref (eA g 0)), (1, .int x1), (2, .int x2), (4, .int x4), (5, .int x5), (6, .ref (eA g k6)), (7, .int x7)] [.int v1] σ1 K
    exact wp_iret rfl dX2_fix_84 h
  · replace h := h.2 c
    refine wp_aload 5 dX2_fix_53 rfl ?_
    refine wp_iload 6 dX2_fix_55 rfl ?_
    refine wp_aload_n 0 dX2_fix_57 rfl rfl ?_
    refine wp_get 0 1 0 (by decide) (by decide) rfl rfl inG2 (by decide) wf_X2_13 rfl dX2_fix_58 ?_
    refine wp_iload_n 2 dX2_fix_61 rfl rfl ?_
    refine wp_aald (by decide) (by decide) dX2_fix_62 h.1 ?_
    replace h := h.2
    refine wp_iload 6 dX2_fix_63 rfl ?_
    refine wp_iload 4 dX2_fix_65 rfl ?_
    refine wp_iload 3 dX2_fix_67 rfl ?_
    refine wp_callSN [.ref (eA g (11 + x2.toNatClampNeg)), .int x7, .int x5, .int x4] [.int x7, .ref (eA g k6)] wc_X0_fixedWord wn_X2_83 ws_X0_fixedWord wi_X0 ok_X0_fixedWord (by decide) (Nat.le_of_ble_eq_true rfl) dX2_fix_69 rfl h ?_
    rintro r2 σ2 ⟨v2, rfl, h⟩
    show WP g 0 45 (d + 1) M_X2_fix 72 [(0, .ref (eA g 0)), (1, .int x1), (2, .int x2), (4, .int x4), (5, .int x5), (6, .ref (eA g k6)), (7, .int x7)] [.long v2, .int x7, .ref (eA g k6)] σ2 K
    refine wp_last (Nat.zero_le _) (lenJ_hi h.1) dX2_fix_72 h.1 ?_
    replace h := h.2
    refine wp_iinc 6 (nI 1) (lv' := [(7, .int (x7 + (nI 1))), (0, .ref (eA g 0)), (1, .int x1), (2, .int x2), (4, .int x4), (5, .int x5), (6, .ref (eA g k6))]) dX2_fix_73 (by decide) rfl (by decide) rfl ?_
    refine wp_goto 44 dX2_fix_76 (by decide) ?_
    exact wp_sub [1, 2, 3, 4, 5, 6, 0] rfl h
set_option maxRecDepth 100000 in
set_option maxHeartbeats 4000000 in
theorem E_X2_put (g : Ev) (d : Nat) (x1 : Int32) (x2 : Int32) (x3 : Int32) (x4 : Int32) (σ : St) (K : Option Value → St → Prop) (h : Runs g 0 45 d M_X2_isRegister [.int x1] σ (fun r1 σ1 => ∃ v1 : Int32, r1 = some (.int v1) ∧ ((v1 = nI 0 → K (some (.int (-2))) σ1) ∧ (¬ v1 = nI 0 → Runs g 0 45 d M_X2_isRegister [.int x2] σ1 (fun r2 σ2 => ∃ v2 : Int32, r2 = some (.int v2) ∧ ((v2 = nI 0 → K (some (.int (-2))) σ2) ∧ (¬ v2 = nI 0 → Runs g 0 45 d M_X2_isLetter [.ref (eA g 0), .int x3] σ2 (fun r3 σ3 => ∃ v3 : Int32, r3 = some (.int v3) ∧ ((v3 = nI 0 → K (some (.int (-2))) σ3) ∧ (¬ v3 = nI 0 → Runs g 0 45 d M_X2_isRegister [.int x4] σ3 (fun r4 σ4 => ∃ v4 : Int32, r4 = some (.int v4) ∧ ((¬ v4 = nI 0 → Runs g 0 45 d M_X2_placeOf [.ref (eA g 0), .int x3] σ4 (fun r5 σ5 => ∃ v5 : Int32, r5 = some (.int v5) ∧ vp_in (nI 32) 34 ∧ WP g 0 45 (d + 1) M_X2_put 52 [(0, .ref (eA g 0)), (1, .int x1), (2, .int x2), (4, .int x4), (5, .int v5), (6, .ref (eA g (11 + (nI 32).toNatClampNeg))), (7, .int (nI 0))] [] σ5 K)) ∧ (v4 = nI 0 → K (some (.int (-2))) σ4))))))))))))) : Runs g 0 45 (d + 1) M_X2_put [.ref (eA g 0), .int x1, .int x2, .int x3, .int x4] σ K := by
  refine Runs.of (by decide) (Nat.le_of_ble_eq_true rfl) ?_
  show WP g 0 45 (d + 1) M_X2_put 0 [(0, .ref (eA g 0)), (1, .int x1), (2, .int x2), (3, .int x3), (4, .int x4)] [] σ K
  refine wp_iload_n 1 dX2_put_0 rfl rfl ?_
  refine wp_callS [.int x1] [] wc_X2_isRegister wm_X2_40 ws_X2_isRegister wi_X2 ok_X2_isRegister (by decide) (Nat.le_of_ble_eq_true rfl) dX2_put_1 rfl h ?_
  rintro r1 σ1 ⟨v1, rfl, h⟩
  show WP g 0 45 (d + 1) M_X2_put 4 [(0, .ref (eA g 0)), (1, .int x1), (2, .int x2), (3, .int x3), (4, .int x4)] [.int v1] σ1 K
  refine wp_if_eq 30 dX2_put_4 (by decide) (fun c => ?_) (fun c => ?_)
  · replace h := h.1 c
    refine wp_bipush (-2) dX2_put_30 (by decide) ?_
    exact wp_iret rfl dX2_put_32 h
  · replace h := h.2 c
    refine wp_iload_n 2 dX2_put_7 rfl rfl ?_
    refine wp_callS [.int x2] [] wc_X2_isRegister wm_X2_40 ws_X2_isRegister wi_X2 ok_X2_isRegister (by decide) (Nat.le_of_ble_eq_true rfl) dX2_put_8 rfl h ?_
    rintro r2 σ2 ⟨v2, rfl, h⟩
    show WP g 0 45 (d + 1) M_X2_put 11 [(0, .ref (eA g 0)), (1, .int x1), (2, .int x2), (3, .int x3), (4, .int x4)] [.int v2] σ2 K
    refine wp_if_eq 30 dX2_put_11 (by decide) (fun c => ?_) (fun c => ?_)
    · replace h := h.1 c
      refine wp_bipush (-2) dX2_put_30 (by decide) ?_
      exact wp_iret rfl dX2_put_32 h
    · replace h := h.2 c
      refine wp_aload_n 0 dX2_put_14 rfl rfl ?_
      refine wp_iload_n 3 dX2_put_15 rfl rfl ?_
      refine wp_callV [.int x3] [] 0 1 (by decide) (by decide) rfl rfl wc_X2_isLetter wm_X2_61 ws_X2_isLetter we_X2_isLetter wi_X2 ok_X2_isLetter (by decide) (Nat.le_of_ble_eq_true rfl) dX2_put_16 rfl h ?_
      rintro r3 σ3 ⟨v3, rfl, h⟩
      show WP g 0 45 (d + 1) M_X2_put 19 [(0, .ref (eA g 0)), (1, .int x1), (2, .int x2), (3, .int x3), (4, .int x4)] [.int v3] σ3 K
      refine wp_if_eq 30 dX2_put_19 (by decide) (fun c => ?_) (fun c => ?_)
      · replace h := h.1 c
        refine wp_bipush (-2) dX2_put_30 (by decide) ?_
        exact wp_iret rfl dX2_put_32 h
      · replace h := h.2 c
        refine wp_iload 4 dX2_put_22 rfl ?_
        refine wp_callS [.int x4] [] wc_X2_isRegister wm_X2_40 ws_X2_isRegister wi_X2 ok_X2_isRegister (by decide) (Nat.le_of_ble_eq_true rfl) dX2_put_24 rfl h ?_
        rintro r4 σ4 ⟨v4, rfl, h⟩
        show WP g 0 45 (d + 1) M_X2_put 27 [(0, .ref (eA g 0)), (1, .int x1), (2, .int x2), (3, .int x3), (4, .int x4)] [.int v4] σ4 K
        refine wp_if_ne 33 dX2_put_27 (by decide) (fun c => ?_) (fun c => ?_)
        · replace h := h.1 c
          refine wp_aload_n 0 dX2_put_33 rfl rfl ?_
          refine wp_iload_n 3 dX2_put_34 rfl rfl ?_
          refine wp_callV [.int x3] [] 0 1 (by decide) (by decide) rfl rfl wc_X2_placeOf wm_X2_64 ws_X2_placeOf we_X2_placeOf wi_X2 ok_X2_placeOf (by decide) (Nat.le_of_ble_eq_true rfl) dX2_put_35 rfl h ?_
          rintro r5 σ5 ⟨v5, rfl, h⟩
          show WP g 0 45 (d + 1) M_X2_put 38 [(0, .ref (eA g 0)), (1, .int x1), (2, .int x2), (3, .int x3), (4, .int x4)] [.int v5] σ5 K
          refine wp_istore (lv' := [(5, .int v5), (0, .ref (eA g 0)), (1, .int x1), (2, .int x2), (3, .int x3), (4, .int x4)]) dX2_put_38 (by decide) rfl ?_
          refine wp_aload_n 1 dX2_put_40 rfl rfl ?_
          refine wp_get 0 1 0 (by decide) (by decide) rfl rfl inG2 (by decide) wf_X2_13 rfl dX2_put_41 ?_
          refine wp_bipush (nI 32) dX2_put_44 (by decide) ?_
          refine wp_aald (by decide) (by decide) dX2_put_46 h.1 ?_
          replace h := h.2
          refine wp_astore (lv' := [(6, .ref (eA g (11 + (nI 32).toNatClampNeg))), (5, .int v5), (0, .ref (eA g 0)), (1, .int x1), (2, .int x2), (3, .int x3), (4, .int x4)]) dX2_put_47 (by decide) rfl ?_
          refine wp_iconst (nI 0) dX2_put_49 (by decide) ?_
          refine wp_istore (lv' := [(7, .int (nI 0)), (6, .ref (eA g (11 + (nI 32).toNatClampNeg))), (5, .int v5), (0, .ref (eA g 0)), (1, .int x1), (2, .int x2), (3, .int x3), (4, .int x4)]) dX2_put_50 (by decide) rfl ?_
          exact wp_sub [3, 4, 5, 7, 2, 1, 0] rfl h
        · replace h := h.2 c
          refine wp_bipush (-2) dX2_put_30 (by decide) ?_
          exact wp_iret rfl dX2_put_32 h
set_option maxRecDepth 100000 in
set_option maxHeartbeats 4000000 in
theorem R_X2_put_52 (g : Ev) (d : Nat) (x1 : Int32) (x2 : Int32) (x4 : Int32) (x5 : Int32) (k6 : Nat) (x7 : Int32) (σ : St) (K : Option Value → St → Prop) (h : (((sV σ 2) ≤ x7 → Runs g 0 45 d M_X2_keep [.ref (eA g 0), .int x1] σ (fun r1 σ1 => ∃ v1 : Int32, r1 = some (.int v1) ∧ K (some (.int v1)) σ1)) ∧ (¬ (sV σ 2) ≤ x7 → vp_in x2 34 ∧ Runs g 0 45 d M_X0_fixedWord [.ref (eA g (11 + x2.toNatClampNeg)), .int x7, .int x5, .int (nI 1)] σ (fun r2 σ2 => ∃ v2 : Int64, r2 = some (.long v2) ∧ vp_in x2 34 ∧ Runs g 0 45 d M_X0_fixedWord [.ref (eA g (11 + x2.toNatClampNeg)), .int x7, .int x5, .int (nI 0)] σ2 (fun r3 σ3 => ∃ v3 : Int64, r3 = some (.long v3) ∧ vp_in x4 34 ∧ vp_in x7 (lenJ (11 + x4.toNatClampNeg)) ∧ Runs g 0 45 d M_X0_chosenWord [.long (sL σ3 (11 + x4.toNatClampNeg) x7.toNatClampNeg), .long v2, .long v3] σ3 (fun r4 σ4 => ∃ v4 : Int64, r4 = some (.long v4) ∧ vp_in x7 (lenJ k6) ∧ WP g 0 45 (d + 1) M_X2_put 52 [(0, .ref (eA g 0)), (1, .int x1), (2, .int x2), (4, .int x4), (5, .int x5), (6, .ref (eA g k6)), (7, .int (x7 + (nI 1)))] [] (uL σ4 k6 x7.toNatClampNeg v4) K)))))) : WP g 0 45 (d + 1) M_X2_put 52 [(0, .ref (eA g 0)), (1, .int x1), (2, .int x2), (4, .int x4), (5, .int x5), (6, .ref (eA g k6)), (7, .int x7)] [] σ K := by
  refine wp_iload 6 dX2_put_52 rfl ?_
  refine wp_aload_n 0 dX2_put_54 rfl rfl ?_
  refine wp_get 0 1 8 (by decide) (by decide) rfl rfl inG2 (by decide) wf_X2_44 rfl dX2_put_55 ?_
  refine wp_icmp_ge 121 dX2_put_58 (by decide) (fun c => ?_) (fun c => ?_)
  · replace h := h.1 c
    refine wp_aload_n 0 dX2_put_121 rfl rfl ?_
    refine wp_iload_n 1 dX2_put_122 rfl rfl ?_
    refine wp_callV [.int x1] [] 0 1 (by decide) (by decide) rfl rfl wc_X2_keep wm_X2_72 ws_X2_keep we_X2_keep wi_X2 ok_X2_keep (by decide) (Nat.le_of_ble_eq_true rfl) dX2_put_123 rfl h ?_
    rintro r1 σ1 ⟨v1, rfl, h⟩
    show WP g 0 45 (d + 1) M_X2_put 126 [(0, .ref (eA g 0)), (1, .int x1), (2, .int x2), (4, .int x4), (5, .int x5), (6, .ref (eA g k6)), (7, .int x7)] [.int v1] σ1 K
    exact wp_iret rfl dX2_put_126 h
  · replace h := h.2 c
    refine wp_aload_n 0 dX2_put_61 rfl rfl ?_
    refine wp_get 0 1 0 (by decide) (by decide) rfl rfl inG2 (by decide) wf_X2_13 rfl dX2_put_62 ?_
    refine wp_iload_n 2 dX2_put_65 rfl rfl ?_
    refine wp_aald (by decide) (by decide) dX2_put_66 h.1 ?_
    replace h := h.2
    refine wp_iload 6 dX2_put_67 rfl ?_
    refine wp_iload 4 dX2_put_69 rfl ?_
    refine wp_iconst (nI 1) dX2_put_71 (by decide) ?_
    refine wp_callSN [.ref (eA g (11 + x2.toNatClampNeg)), .int x7, .int x5, .int (nI 1)] [] wc_X0_fixedWord wn_X2_83 ws_X0_fixedWord wi_X0 ok_X0_fixedWord (by decide) (Nat.le_of_ble_eq_true rfl) dX2_put_72 rfl h ?_
    rintro r2 σ2 ⟨v2, rfl, h⟩
    show WP g 0 45 (d + 1) M_X2_put 75 [(0, .ref (eA g 0)), (1, .int x1), (2, .int x2), (4, .int x4), (5, .int x5), (6, .ref (eA g k6)), (7, .int x7)] [.long v2] σ2 K
    refine wp_lstore (lv' := [(8, .long v2), (0, .ref (eA g 0)), (1, .int x1), (2, .int x2), (4, .int x4), (5, .int x5), (6, .ref (eA g k6)), (7, .int x7)]) dX2_put_75 (by decide) rfl ?_
    refine wp_aload_n 1 dX2_put_77 rfl rfl ?_
    refine wp_get 0 1 0 (by decide) (by decide) rfl rfl inG2 (by decide) wf_X2_13 rfl dX2_put_78 ?_
    refine wp_iload_n 3 dX2_put_81 rfl rfl ?_
    refine wp_aald (by decide) (by decide) dX2_put_82 h.1 ?_
    replace h := h.2
    refine wp_iload 7 dX2_put_83 rfl ?_
    refine wp_iload 5 dX2_put_85 rfl ?_
    refine wp_iconst (nI 0) dX2_put_87 (by decide) ?_
    refine wp_callSN [.ref (eA g (11 + x2.toNatClampNeg)), .int x7, .int x5, .int (nI 0)] [] wc_X0_fixedWord wn_X2_83 ws_X0_fixedWord wi_X0 ok_X0_fixedWord (by decide) (Nat.le_of_ble_eq_true rfl) dX2_put_88 rfl h ?_
    rintro r3 σ3 ⟨v3, rfl, h⟩
    show WP g 0 45 (d + 1) M_X2_put 91 [(8, .long v2), (0, .ref (eA g 0)), (1, .int x1), (2, .int x2), (4, .int x4), (5, .int x5), (6, .ref (eA g k6)), (7, .int x7)] [.long v3] σ3 K
    refine wp_lstore (lv' := [(10, .long v3), (8, .long v2), (0, .ref (eA g 0)), (1, .int x1), (2, .int x2), (4, .int x4), (5, .int x5), (6, .ref (eA g k6)), (7, .int x7)]) dX2_put_91 (by decide) rfl ?_
    refine wp_aload 7 dX2_put_93 rfl ?_
    refine wp_iload 8 dX2_put_95 rfl ?_
    refine wp_aload_n 2 dX2_put_97 rfl rfl ?_
    refine wp_get 0 1 0 (by decide) (by decide) rfl rfl inG2 (by decide) wf_X2_13 rfl dX2_put_98 ?_
    refine wp_iload 5 dX2_put_101 rfl ?_
    refine wp_aald (by decide) (by decide) dX2_put_103 h.1 ?_
    replace h := h.2
    refine wp_iload 8 dX2_put_104 rfl ?_
    refine wp_lald (Nat.zero_le _) (lenJ_hi h.1) dX2_put_106 h.1 ?_
    replace h := h.2
    refine wp_lload 1 dX2_put_107 rfl ?_
    refine wp_lload 0 dX2_put_109 rfl ?_
    refine wp_callSN [.long (sL σ3 (11 + x4.toNatClampNeg) x7.toNatClampNeg), .long v2, .long v3] [.int x7, .ref (eA g k6)] wc_X0_chosenWord wn_X2_79 ws_X0_chosenWord wi_X0 ok_X0_chosenWord (by decide) (Nat.le_of_ble_eq_true rfl) dX2_put_111 rfl h ?_
    rintro r4 σ4 ⟨v4, rfl, h⟩
    show WP g 0 45 (d + 1) M_X2_put 114 [(10, .long v3), (8, .long v2), (0, .ref (eA g 0)), (1, .int x1), (2, .int x2), (4, .int x4), (5, .int x5), (6, .ref (eA g k6)), (7, .int x7)] [.long v4, .int x7, .ref (eA g k6)] σ4 K
    refine wp_last (Nat.zero_le _) (lenJ_hi h.1) dX2_put_114 h.1 ?_
    replace h := h.2
    refine wp_iinc 8 (nI 1) (lv' := [(7, .int (x7 + (nI 1))), (10, .long v3), (8, .long v2), (0, .ref (eA g 0)), (1, .int x1), (2, .int x2), (4, .int x4), (5, .int x5), (6, .ref (eA g k6))]) dX2_put_115 (by decide) rfl (by decide) rfl ?_
    refine wp_goto 52 dX2_put_118 (by decide) ?_
    exact wp_sub [3, 4, 5, 6, 7, 8, 0] rfl h
set_option maxRecDepth 100000 in
set_option maxHeartbeats 4000000 in
theorem E_X2_sum (g : Ev) (d : Nat) (x1 : Int32) (x2 : Int32) (x3 : Int32) (x4 : Int32) (σ : St) (K : Option Value → St → Prop) (h : Runs g 0 45 d M_X2_isRegister [.int x1] σ (fun r1 σ1 => ∃ v1 : Int32, r1 = some (.int v1) ∧ ((v1 = nI 0 → K (some (.int (-2))) σ1) ∧ (¬ v1 = nI 0 → Runs g 0 45 d M_X2_isRegister [.int x2] σ1 (fun r2 σ2 => ∃ v2 : Int32, r2 = some (.int v2) ∧ ((v2 = nI 0 → K (some (.int (-2))) σ2) ∧ (¬ v2 = nI 0 → Runs g 0 45 d M_X2_isAssignment [.ref (eA g 0), .int x3] σ2 (fun r3 σ3 => ∃ v3 : Int32, r3 = some (.int v3) ∧ ((¬ v3 = nI 0 → Runs g 0 45 d M_X2_copyToSpare [.ref (eA g 0), .int x2] σ3 (fun r4 σ4 => r4 = none ∧ WP g 0 45 (d + 1) M_X2_sum 33 [(0, .ref (eA g 0)), (1, .int x1), (3, .int x3), (4, .int x4), (5, .int (nI 0))] [] σ4 K)) ∧ (v3 = nI 0 → K (some (.int (-2))) σ3)))))))))) : Runs g 0 45 (d + 1) M_X2_sum [.ref (eA g 0), .int x1, .int x2, .int x3, .int x4] σ K := by
  refine Runs.of (by decide) (Nat.le_of_ble_eq_true rfl) ?_
  show WP g 0 45 (d + 1) M_X2_sum 0 [(0, .ref (eA g 0)), (1, .int x1), (2, .int x2), (3, .int x3), (4, .int x4)] [] σ K
  refine wp_iload_n 1 dX2_sum_0 rfl rfl ?_
  refine wp_callS [.int x1] [] wc_X2_isRegister wm_X2_40 ws_X2_isRegister wi_X2 ok_X2_isRegister (by decide) (Nat.le_of_ble_eq_true rfl) dX2_sum_1 rfl h ?_
  rintro r1 σ1 ⟨v1, rfl, h⟩
  show WP g 0 45 (d + 1) M_X2_sum 4 [(0, .ref (eA g 0)), (1, .int x1), (2, .int x2), (3, .int x3), (4, .int x4)] [.int v1] σ1 K
  refine wp_if_eq 22 dX2_sum_4 (by decide) (fun c => ?_) (fun c => ?_)
  · replace h := h.1 c
    refine wp_bipush (-2) dX2_sum_22 (by decide) ?_
    exact wp_iret rfl dX2_sum_24 h
  · replace h := h.2 c
    refine wp_iload_n 2 dX2_sum_7 rfl rfl ?_
    refine wp_callS [.int x2] [] wc_X2_isRegister wm_X2_40 ws_X2_isRegister wi_X2 ok_X2_isRegister (by decide) (Nat.le_of_ble_eq_true rfl) dX2_sum_8 rfl h ?_
    rintro r2 σ2 ⟨v2, rfl, h⟩
    show WP g 0 45 (d + 1) M_X2_sum 11 [(0, .ref (eA g 0)), (1, .int x1), (2, .int x2), (3, .int x3), (4, .int x4)] [.int v2] σ2 K
    refine wp_if_eq 22 dX2_sum_11 (by decide) (fun c => ?_) (fun c => ?_)
    · replace h := h.1 c
      refine wp_bipush (-2) dX2_sum_22 (by decide) ?_
      exact wp_iret rfl dX2_sum_24 h
    · replace h := h.2 c
      refine wp_aload_n 0 dX2_sum_14 rfl rfl ?_
      refine wp_iload_n 3 dX2_sum_15 rfl rfl ?_
      refine wp_callV [.int x3] [] 0 1 (by decide) (by decide) rfl rfl wc_X2_isAssignment wm_X2_87 ws_X2_isAssignment we_X2_isAssignment wi_X2 ok_X2_isAssignment (by decide) (Nat.le_of_ble_eq_true rfl) dX2_sum_16 rfl h ?_
      rintro r3 σ3 ⟨v3, rfl, h⟩
      show WP g 0 45 (d + 1) M_X2_sum 19 [(0, .ref (eA g 0)), (1, .int x1), (2, .int x2), (3, .int x3), (4, .int x4)] [.int v3] σ3 K
      refine wp_if_ne 25 dX2_sum_19 (by decide) (fun c => ?_) (fun c => ?_)
      · replace h := h.1 c
        refine wp_aload_n 0 dX2_sum_25 rfl rfl ?_
        refine wp_iload_n 2 dX2_sum_26 rfl rfl ?_
        refine wp_callV [.int x2] [] 0 1 (by decide) (by decide) rfl rfl wc_X2_copyToSpare wm_X2_90 ws_X2_copyToSpare we_X2_copyToSpare wi_X2 ok_X2_copyToSpare (by decide) (Nat.le_of_ble_eq_true rfl) dX2_sum_27 rfl h ?_
        rintro r4 σ4 ⟨rfl, h⟩
        show WP g 0 45 (d + 1) M_X2_sum 30 [(0, .ref (eA g 0)), (1, .int x1), (2, .int x2), (3, .int x3), (4, .int x4)] [] σ4 K
        refine wp_iconst (nI 0) dX2_sum_30 (by decide) ?_
        refine wp_istore (lv' := [(5, .int (nI 0)), (0, .ref (eA g 0)), (1, .int x1), (2, .int x2), (3, .int x3), (4, .int x4)]) dX2_sum_31 (by decide) rfl ?_
        exact wp_sub [1, 2, 4, 5, 0] rfl h
      · replace h := h.2 c
        refine wp_bipush (-2) dX2_sum_22 (by decide) ?_
        exact wp_iret rfl dX2_sum_24 h
set_option maxRecDepth 100000 in
set_option maxHeartbeats 4000000 in
theorem R_X2_sum_33 (g : Ev) (d : Nat) (x1 : Int32) (x3 : Int32) (x4 : Int32) (x5 : Int32) (σ : St) (K : Option Value → St → Prop) (h : (((sV σ 0) ≤ x5 → Runs g 0 45 d M_X2_keep [.ref (eA g 0), .int x1] σ (fun r1 σ1 => ∃ v1 : Int32, r1 = some (.int v1) ∧ K (some (.int v1)) σ1)) ∧ (¬ (sV σ 0) ≤ x5 → ((((jshr x3 x5) &&& (nI 1)) = nI 0 → WP g 0 45 (d + 1) M_X2_sum 33 [(0, .ref (eA g 0)), (1, .int x1), (3, .int x3), (4, .int x4), (5, .int (x5 + (nI 1)))] [] σ K) ∧ (¬ ((jshr x3 x5) &&& (nI 1)) = nI 0 → Runs g 0 45 d M_X2_placeOf [.ref (eA g 0), .int x5] σ (fun r2 σ2 => ∃ v2 : Int32, r2 = some (.int v2) ∧ Runs g 0 45 d M_X2_sumSpare [.ref (eA g 0), .int v2, .int x4] σ2 (fun r3 σ3 => r3 = none ∧ WP g 0 45 (d + 1) M_X2_sum 33 [(0, .ref (eA g 0)), (1, .int x1), (3, .int x3), (4, .int x4), (5, .int (x5 + (nI 1)))] [] σ3 K))))))) : WP g 0 45 (d + 1) M_X2_sum 33 [(0, .ref (eA g 0)), (1, .int x1), (3, .int x3), (4, .int x4), (5, .int x5)] [] σ K := by
  refine wp_iload 4 dX2_sum_33 rfl ?_
  refine wp_aload_n 0 dX2_sum_35 rfl rfl ?_
  refine wp_get 0 1 6 (by decide) (by decide) rfl rfl inG2 (by decide) wf_X2_94 rfl dX2_sum_36 ?_
  refine wp_icmp_ge 69 dX2_sum_39 (by decide) (fun c => ?_) (fun c => ?_)
  · replace h := h.1 c
    refine wp_aload_n 0 dX2_sum_69 rfl rfl ?_
    refine wp_iload_n 1 dX2_sum_70 rfl rfl ?_
    refine wp_callV [.int x1] [] 0 1 (by decide) (by decide) rfl rfl wc_X2_keep wm_X2_72 ws_X2_keep we_X2_keep wi_X2 ok_X2_keep (by decide) (Nat.le_of_ble_eq_true rfl) dX2_sum_71 rfl h ?_
    rintro r1 σ1 ⟨v1, rfl, h⟩
    show WP g 0 45 (d + 1) M_X2_sum 74 [(0, .ref (eA g 0)), (1, .int x1), (3, .int x3), (4, .int x4), (5, .int x5)] [.int v1] σ1 K
    exact wp_iret rfl dX2_sum_74 h
  · replace h := h.2 c
    refine wp_iload_n 2 dX2_sum_42 rfl rfl ?_
    refine wp_iload 4 dX2_sum_43 rfl ?_
    refine wp_ishr dX2_sum_45 ?_
    refine wp_iconst (nI 1) dX2_sum_46 (by decide) ?_
    refine wp_iand dX2_sum_47 ?_
    refine wp_if_eq 63 dX2_sum_48 (by decide) (fun c => ?_) (fun c => ?_)
    · replace h := h.1 c
      refine wp_iinc 4 (nI 1) (lv' := [(5, .int (x5 + (nI 1))), (0, .ref (eA g 0)), (1, .int x1), (3, .int x3), (4, .int x4)]) dX2_sum_63 (by decide) rfl (by decide) rfl ?_
      refine wp_goto 33 dX2_sum_66 (by decide) ?_
      exact wp_sub [1, 2, 3, 4, 0] rfl h
    · replace h := h.2 c
      refine wp_aload_n 0 dX2_sum_51 rfl rfl ?_
      refine wp_aload_n 0 dX2_sum_52 rfl rfl ?_
      refine wp_iload 4 dX2_sum_53 rfl ?_
      refine wp_callV [.int x5] [.ref (eA g 0)] 0 1 (by decide) (by decide) rfl rfl wc_X2_placeOf wm_X2_64 ws_X2_placeOf we_X2_placeOf wi_X2 ok_X2_placeOf (by decide) (Nat.le_of_ble_eq_true rfl) dX2_sum_55 rfl h ?_
      rintro r2 σ2 ⟨v2, rfl, h⟩
      show WP g 0 45 (d + 1) M_X2_sum 58 [(0, .ref (eA g 0)), (1, .int x1), (3, .int x3), (4, .int x4), (5, .int x5)] [.int v2, .ref (eA g 0)] σ2 K
      refine wp_iload 3 dX2_sum_58 rfl ?_
      refine wp_callV [.int v2, .int x4] [] 0 1 (by decide) (by decide) rfl rfl wc_X2_sumSpare wm_X2_97 ws_X2_sumSpare we_X2_sumSpare wi_X2 ok_X2_sumSpare (by decide) (Nat.le_of_ble_eq_true rfl) dX2_sum_60 rfl h ?_
      rintro r3 σ3 ⟨rfl, h⟩
      show WP g 0 45 (d + 1) M_X2_sum 63 [(0, .ref (eA g 0)), (1, .int x1), (3, .int x3), (4, .int x4), (5, .int x5)] [] σ3 K
      refine wp_iinc 4 (nI 1) (lv' := [(5, .int (x5 + (nI 1))), (0, .ref (eA g 0)), (1, .int x1), (3, .int x3), (4, .int x4)]) dX2_sum_63 (by decide) rfl (by decide) rfl ?_
      refine wp_goto 33 dX2_sum_66 (by decide) ?_
      exact wp_sub [1, 2, 3, 4, 0] rfl h
set_option maxRecDepth 100000 in
set_option maxHeartbeats 4000000 in
theorem E_X2_trade (g : Ev) (d : Nat) (x1 : Int32) (x2 : Int32) (x3 : Int32) (x4 : Int32) (σ : St) (K : Option Value → St → Prop) (h : Runs g 0 45 d M_X2_isRegister [.int x1] σ (fun r1 σ1 => ∃ v1 : Int32, r1 = some (.int v1) ∧ ((v1 = nI 0 → K (some (.int (-2))) σ1) ∧ (¬ v1 = nI 0 → Runs g 0 45 d M_X2_isRegister [.int x2] σ1 (fun r2 σ2 => ∃ v2 : Int32, r2 = some (.int v2) ∧ ((v2 = nI 0 → K (some (.int (-2))) σ2) ∧ (¬ v2 = nI 0 → Runs g 0 45 d M_X2_isLetter [.ref (eA g 0), .int x3] σ2 (fun r3 σ3 => ∃ v3 : Int32, r3 = some (.int v3) ∧ ((v3 = nI 0 → K (some (.int (-2))) σ3) ∧ (¬ v3 = nI 0 → Runs g 0 45 d M_X2_isLetter [.ref (eA g 0), .int x4] σ3 (fun r4 σ4 => ∃ v4 : Int32, r4 = some (.int v4) ∧ ((¬ v4 = nI 0 → Runs g 0 45 d M_X2_copyToSpare [.ref (eA g 0), .int x2] σ4 (fun r5 σ5 => r5 = none ∧ vp_in (nI 32) 34 ∧ Runs g 0 45 d M_X2_placeOf [.ref (eA g 0), .int x3] σ5 (fun r6 σ6 => ∃ v6 : Int32, r6 = some (.int v6) ∧ Runs g 0 45 d M_X2_placeOf [.ref (eA g 0), .int x4] σ6 (fun r7 σ7 => ∃ v7 : Int32, r7 = some (.int v7) ∧ Runs g 0 45 d M_X0_exchange [.ref (eA g (11 + (nI 32).toNatClampNeg)), .int (sV σ5 2), .int v6, .int v7] σ7 (fun r8 σ8 => r8 = none ∧ Runs g 0 45 d M_X2_keep [.ref (eA g 0), .int x1] σ8 (fun r9 σ9 => ∃ v9 : Int32, r9 = some (.int v9) ∧ K (some (.int v9)) σ9)))))) ∧ (v4 = nI 0 → K (some (.int (-2))) σ4))))))))))))) : Runs g 0 45 (d + 1) M_X2_trade [.ref (eA g 0), .int x1, .int x2, .int x3, .int x4] σ K := by
  refine Runs.of (by decide) (Nat.le_of_ble_eq_true rfl) ?_
  show WP g 0 45 (d + 1) M_X2_trade 0 [(0, .ref (eA g 0)), (1, .int x1), (2, .int x2), (3, .int x3), (4, .int x4)] [] σ K
  refine wp_iload_n 1 dX2_trade_0 rfl rfl ?_
  refine wp_callS [.int x1] [] wc_X2_isRegister wm_X2_40 ws_X2_isRegister wi_X2 ok_X2_isRegister (by decide) (Nat.le_of_ble_eq_true rfl) dX2_trade_1 rfl h ?_
  rintro r1 σ1 ⟨v1, rfl, h⟩
  show WP g 0 45 (d + 1) M_X2_trade 4 [(0, .ref (eA g 0)), (1, .int x1), (2, .int x2), (3, .int x3), (4, .int x4)] [.int v1] σ1 K
  refine wp_if_eq 31 dX2_trade_4 (by decide) (fun c => ?_) (fun c => ?_)
  · replace h := h.1 c
    refine wp_bipush (-2) dX2_trade_31 (by decide) ?_
    exact wp_iret rfl dX2_trade_33 h
  · replace h := h.2 c
    refine wp_iload_n 2 dX2_trade_7 rfl rfl ?_
    refine wp_callS [.int x2] [] wc_X2_isRegister wm_X2_40 ws_X2_isRegister wi_X2 ok_X2_isRegister (by decide) (Nat.le_of_ble_eq_true rfl) dX2_trade_8 rfl h ?_
    rintro r2 σ2 ⟨v2, rfl, h⟩
    show WP g 0 45 (d + 1) M_X2_trade 11 [(0, .ref (eA g 0)), (1, .int x1), (2, .int x2), (3, .int x3), (4, .int x4)] [.int v2] σ2 K
    refine wp_if_eq 31 dX2_trade_11 (by decide) (fun c => ?_) (fun c => ?_)
    · replace h := h.1 c
      refine wp_bipush (-2) dX2_trade_31 (by decide) ?_
      exact wp_iret rfl dX2_trade_33 h
    · replace h := h.2 c
      refine wp_aload_n 0 dX2_trade_14 rfl rfl ?_
      refine wp_iload_n 3 dX2_trade_15 rfl rfl ?_
      refine wp_callV [.int x3] [] 0 1 (by decide) (by decide) rfl rfl wc_X2_isLetter wm_X2_61 ws_X2_isLetter we_X2_isLetter wi_X2 ok_X2_isLetter (by decide) (Nat.le_of_ble_eq_true rfl) dX2_trade_16 rfl h ?_
      rintro r3 σ3 ⟨v3, rfl, h⟩
      show WP g 0 45 (d + 1) M_X2_trade 19 [(0, .ref (eA g 0)), (1, .int x1), (2, .int x2), (3, .int x3), (4, .int x4)] [.int v3] σ3 K
      refine wp_if_eq 31 dX2_trade_19 (by decide) (fun c => ?_) (fun c => ?_)
      · replace h := h.1 c
        refine wp_bipush (-2) dX2_trade_31 (by decide) ?_
        exact wp_iret rfl dX2_trade_33 h
      · replace h := h.2 c
        refine wp_aload_n 0 dX2_trade_22 rfl rfl ?_
        refine wp_iload 4 dX2_trade_23 rfl ?_
        refine wp_callV [.int x4] [] 0 1 (by decide) (by decide) rfl rfl wc_X2_isLetter wm_X2_61 ws_X2_isLetter we_X2_isLetter wi_X2 ok_X2_isLetter (by decide) (Nat.le_of_ble_eq_true rfl) dX2_trade_25 rfl h ?_
        rintro r4 σ4 ⟨v4, rfl, h⟩
        show WP g 0 45 (d + 1) M_X2_trade 28 [(0, .ref (eA g 0)), (1, .int x1), (2, .int x2), (3, .int x3), (4, .int x4)] [.int v4] σ4 K
        refine wp_if_ne 34 dX2_trade_28 (by decide) (fun c => ?_) (fun c => ?_)
        · replace h := h.1 c
          refine wp_aload_n 0 dX2_trade_34 rfl rfl ?_
          refine wp_iload_n 2 dX2_trade_35 rfl rfl ?_
          refine wp_callV [.int x2] [] 0 1 (by decide) (by decide) rfl rfl wc_X2_copyToSpare wm_X2_90 ws_X2_copyToSpare we_X2_copyToSpare wi_X2 ok_X2_copyToSpare (by decide) (Nat.le_of_ble_eq_true rfl) dX2_trade_36 rfl h ?_
          rintro r5 σ5 ⟨rfl, h⟩
          show WP g 0 45 (d + 1) M_X2_trade 39 [(0, .ref (eA g 0)), (1, .int x1), (2, .int x2), (3, .int x3), (4, .int x4)] [] σ5 K
          refine wp_aload_n 0 dX2_trade_39 rfl rfl ?_
          refine wp_get 0 1 0 (by decide) (by decide) rfl rfl inG2 (by decide) wf_X2_13 rfl dX2_trade_40 ?_
          refine wp_bipush (nI 32) dX2_trade_43 (by decide) ?_
          refine wp_aald (by decide) (by decide) dX2_trade_45 h.1 ?_
          replace h := h.2
          refine wp_aload_n 0 dX2_trade_46 rfl rfl ?_
          refine wp_get 0 1 8 (by decide) (by decide) rfl rfl inG2 (by decide) wf_X2_44 rfl dX2_trade_47 ?_
          refine wp_aload_n 0 dX2_trade_50 rfl rfl ?_
          refine wp_iload_n 3 dX2_trade_51 rfl rfl ?_
          refine wp_callV [.int x3] [.int (sV σ5 2), .ref (eA g (11 + (nI 32).toNatClampNeg))] 0 1 (by decide) (by decide) rfl rfl wc_X2_placeOf wm_X2_64 ws_X2_placeOf we_X2_placeOf wi_X2 ok_X2_placeOf (by decide) (Nat.le_of_ble_eq_true rfl) dX2_trade_52 rfl h ?_
          rintro r6 σ6 ⟨v6, rfl, h⟩
          show WP g 0 45 (d + 1) M_X2_trade 55 [(0, .ref (eA g 0)), (1, .int x1), (2, .int x2), (3, .int x3), (4, .int x4)] [.int v6, .int (sV σ5 2), .ref (eA g (11 + (nI 32).toNatClampNeg))] σ6 K
          refine wp_aload_n 0 dX2_trade_55 rfl rfl ?_
          refine wp_iload 4 dX2_trade_56 rfl ?_
          refine wp_callV [.int x4] [.int v6, .int (sV σ5 2), .ref (eA g (11 + (nI 32).toNatClampNeg))] 0 1 (by decide) (by decide) rfl rfl wc_X2_placeOf wm_X2_64 ws_X2_placeOf we_X2_placeOf wi_X2 ok_X2_placeOf (by decide) (Nat.le_of_ble_eq_true rfl) dX2_trade_58 rfl h ?_
          rintro r7 σ7 ⟨v7, rfl, h⟩
          show WP g 0 45 (d + 1) M_X2_trade 61 [(0, .ref (eA g 0)), (1, .int x1), (2, .int x2), (3, .int x3), (4, .int x4)] [.int v7, .int v6, .int (sV σ5 2), .ref (eA g (11 + (nI 32).toNatClampNeg))] σ7 K
          refine wp_callSN [.ref (eA g (11 + (nI 32).toNatClampNeg)), .int (sV σ5 2), .int v6, .int v7] [] wc_X0_exchange wn_X2_101 ws_X0_exchange wi_X0 ok_X0_exchange (by decide) (Nat.le_of_ble_eq_true rfl) dX2_trade_61 rfl h ?_
          rintro r8 σ8 ⟨rfl, h⟩
          show WP g 0 45 (d + 1) M_X2_trade 64 [(0, .ref (eA g 0)), (1, .int x1), (2, .int x2), (3, .int x3), (4, .int x4)] [] σ8 K
          refine wp_aload_n 0 dX2_trade_64 rfl rfl ?_
          refine wp_iload_n 1 dX2_trade_65 rfl rfl ?_
          refine wp_callV [.int x1] [] 0 1 (by decide) (by decide) rfl rfl wc_X2_keep wm_X2_72 ws_X2_keep we_X2_keep wi_X2 ok_X2_keep (by decide) (Nat.le_of_ble_eq_true rfl) dX2_trade_66 rfl h ?_
          rintro r9 σ9 ⟨v9, rfl, h⟩
          show WP g 0 45 (d + 1) M_X2_trade 69 [(0, .ref (eA g 0)), (1, .int x1), (2, .int x2), (3, .int x3), (4, .int x4)] [.int v9] σ9 K
          exact wp_iret rfl dX2_trade_69 h
        · replace h := h.2 c
          refine wp_bipush (-2) dX2_trade_31 (by decide) ?_
          exact wp_iret rfl dX2_trade_33 h
set_option maxRecDepth 100000 in
set_option maxHeartbeats 4000000 in
theorem E_X2_near (g : Ev) (d : Nat) (x1 : Int32) (x2 : Int32) (x3 : Int32) (σ : St) (K : Option Value → St → Prop) (h : Runs g 0 45 d M_X2_isRegister [.int x1] σ (fun r1 σ1 => ∃ v1 : Int32, r1 = some (.int v1) ∧ ((v1 = nI 0 → K (some (.int (-2))) σ1) ∧ (¬ v1 = nI 0 → Runs g 0 45 d M_X2_isRegister [.int x2] σ1 (fun r2 σ2 => ∃ v2 : Int32, r2 = some (.int v2) ∧ ((v2 = nI 0 → K (some (.int (-2))) σ2) ∧ (¬ v2 = nI 0 → Runs g 0 45 d M_X2_isRegister [.int x3] σ2 (fun r3 σ3 => ∃ v3 : Int32, r3 = some (.int v3) ∧ ((¬ v3 = nI 0 → Runs g 0 45 d M_X2_isAll [.ref (eA g 0), .int x3, .long 0] σ3 (fun r4 σ4 => ∃ v4 : Int32, r4 = some (.int v4) ∧ ((v4 = nI 0 → vp_in x3 34 ∧ Runs g 0 45 d M_X2_findNearest [.ref (eA g 0), .ref (eA g (11 + x3.toNatClampNeg)), .ref (eA g 4), .ref (eA g 5)] σ4 (fun r5 σ5 => r5 = none ∧ vp_in (nI 32) 34 ∧ Runs g 0 45 d M_J7_fill_bad5a [.ref (eA g (11 + (nI 32).toNatClampNeg)), .int (nI 0), .int (sV σ5 2), .long 0] σ5 (fun r6 σ6 => r6 = none ∧ WP g 0 45 (d + 1) M_X2_near 85 [(0, .ref (eA g 0)), (1, .int x1), (2, .int x2), (4, .int (jshl (nI 1) (sV σ5 0))), (5, .ref (eA g (11 + (nI 32).toNatClampNeg))), (6, .int (nI 0))] [] σ6 K))) ∧ (¬ v4 = nI 0 → K (some (.int (-3))) σ4)))) ∧ (v3 = nI 0 → K (some (.int (-2))) σ3)))))))))) : Runs g 0 45 (d + 1) M_X2_near [.ref (eA g 0), .int x1, .int x2, .int x3] σ K := by
  refine Runs.of (by decide) (Nat.le_of_ble_eq_true rfl) ?_
  show WP g 0 45 (d + 1) M_X2_near 0 [(0, .ref (eA g 0)), (1, .int x1), (2, .int x2), (3, .int x3)] [] σ K
  refine wp_iload_n 1 dX2_near_0 rfl rfl ?_
  refine wp_callS [.int x1] [] wc_X2_isRegister wm_X2_40 ws_X2_isRegister wi_X2 ok_X2_isRegister (by decide) (Nat.le_of_ble_eq_true rfl) dX2_near_1 rfl h ?_
  rintro r1 σ1 ⟨v1, rfl, h⟩
  show WP g 0 45 (d + 1) M_X2_near 4 [(0, .ref (eA g 0)), (1, .int x1), (2, .int x2), (3, .int x3)] [.int v1] σ1 K
  refine wp_if_eq 21 dX2_near_4 (by decide) (fun c => ?_) (fun c => ?_)
  · replace h := h.1 c
    refine wp_bipush (-2) dX2_near_21 (by decide) ?_
    exact wp_iret rfl dX2_near_23 h
  · replace h := h.2 c
    refine wp_iload_n 2 dX2_near_7 rfl rfl ?_
    refine wp_callS [.int x2] [] wc_X2_isRegister wm_X2_40 ws_X2_isRegister wi_X2 ok_X2_isRegister (by decide) (Nat.le_of_ble_eq_true rfl) dX2_near_8 rfl h ?_
    rintro r2 σ2 ⟨v2, rfl, h⟩
    show WP g 0 45 (d + 1) M_X2_near 11 [(0, .ref (eA g 0)), (1, .int x1), (2, .int x2), (3, .int x3)] [.int v2] σ2 K
    refine wp_if_eq 21 dX2_near_11 (by decide) (fun c => ?_) (fun c => ?_)
    · replace h := h.1 c
      refine wp_bipush (-2) dX2_near_21 (by decide) ?_
      exact wp_iret rfl dX2_near_23 h
    · replace h := h.2 c
      refine wp_iload_n 3 dX2_near_14 rfl rfl ?_
      refine wp_callS [.int x3] [] wc_X2_isRegister wm_X2_40 ws_X2_isRegister wi_X2 ok_X2_isRegister (by decide) (Nat.le_of_ble_eq_true rfl) dX2_near_15 rfl h ?_
      rintro r3 σ3 ⟨v3, rfl, h⟩
      show WP g 0 45 (d + 1) M_X2_near 18 [(0, .ref (eA g 0)), (1, .int x1), (2, .int x2), (3, .int x3)] [.int v3] σ3 K
      refine wp_if_ne 24 dX2_near_18 (by decide) (fun c => ?_) (fun c => ?_)
      · replace h := h.1 c
        refine wp_aload_n 0 dX2_near_24 rfl rfl ?_
        refine wp_iload_n 3 dX2_near_25 rfl rfl ?_
        refine wp_lconst 0 dX2_near_26 (by decide) ?_
        refine wp_callV [.int x3, .long 0] [] 0 1 (by decide) (by decide) rfl rfl wc_X2_isAll wm_X2_105 ws_X2_isAll we_X2_isAll wi_X2 ok_X2_isAll (by decide) (Nat.le_of_ble_eq_true rfl) dX2_near_27 rfl h ?_
        rintro r4 σ4 ⟨v4, rfl, h⟩
        show WP g 0 45 (d + 1) M_X2_near 30 [(0, .ref (eA g 0)), (1, .int x1), (2, .int x2), (3, .int x3)] [.int v4] σ4 K
        refine wp_if_eq 36 dX2_near_30 (by decide) (fun c => ?_) (fun c => ?_)
        · replace h := h.1 c
          refine wp_aload_n 0 dX2_near_36 rfl rfl ?_
          refine wp_aload_n 0 dX2_near_37 rfl rfl ?_
          refine wp_get 0 1 0 (by decide) (by decide) rfl rfl inG2 (by decide) wf_X2_13 rfl dX2_near_38 ?_
          refine wp_iload_n 3 dX2_near_41 rfl rfl ?_
          refine wp_aald (by decide) (by decide) dX2_near_42 h.1 ?_
          replace h := h.2
          refine wp_aload_n 0 dX2_near_43 rfl rfl ?_
          refine wp_get 0 1 3 (by decide) (by decide) rfl rfl inG2 (by decide) wf_X2_23 rfl dX2_near_44 ?_
          refine wp_aload_n 0 dX2_near_47 rfl rfl ?_
          refine wp_get 0 1 4 (by decide) (by decide) rfl rfl inG2 (by decide) wf_X2_26 rfl dX2_near_48 ?_
          refine wp_callV [.ref (eA g (11 + x3.toNatClampNeg)), .ref (eA g 4), .ref (eA g 5)] [] 0 1 (by decide) (by decide) rfl rfl wc_X2_findNearest wm_X2_109 ws_X2_findNearest we_X2_findNearest wi_X2 ok_X2_findNearest (by decide) (Nat.le_of_ble_eq_true rfl) dX2_near_51 rfl h ?_
          rintro r5 σ5 ⟨rfl, h⟩
          show WP g 0 45 (d + 1) M_X2_near 54 [(0, .ref (eA g 0)), (1, .int x1), (2, .int x2), (3, .int x3)] [] σ5 K
          refine wp_iconst (nI 1) dX2_near_54 (by decide) ?_
          refine wp_aload_n 0 dX2_near_55 rfl rfl ?_
          refine wp_get 0 1 6 (by decide) (by decide) rfl rfl inG2 (by decide) wf_X2_94 rfl dX2_near_56 ?_
          refine wp_ishl dX2_near_59 ?_
          refine wp_istore (lv' := [(4, .int (jshl (nI 1) (sV σ5 0))), (0, .ref (eA g 0)), (1, .int x1), (2, .int x2), (3, .int x3)]) dX2_near_60 (by decide) rfl ?_
          refine wp_aload_n 1 dX2_near_62 rfl rfl ?_
          refine wp_get 0 1 0 (by decide) (by decide) rfl rfl inG2 (by decide) wf_X2_13 rfl dX2_near_63 ?_
          refine wp_bipush (nI 32) dX2_near_66 (by decide) ?_
          refine wp_aald (by decide) (by decide) dX2_near_68 h.1 ?_
          replace h := h.2
          refine wp_astore (lv' := [(5, .ref (eA g (11 + (nI 32).toNatClampNeg))), (4, .int (jshl (nI 1) (sV σ5 0))), (0, .ref (eA g 0)), (1, .int x1), (2, .int x2), (3, .int x3)]) dX2_near_69 (by decide) rfl ?_
          refine wp_aload 0 dX2_near_71 rfl ?_
          refine wp_iconst (nI 0) dX2_near_73 (by decide) ?_
          refine wp_aload_n 2 dX2_near_74 rfl rfl ?_
          refine wp_get 0 1 8 (by decide) (by decide) rfl rfl inG2 (by decide) wf_X2_44 rfl dX2_near_75 ?_
          refine wp_lconst 0 dX2_near_78 (by decide) ?_
          refine wp_callS [.ref (eA g (11 + (nI 32).toNatClampNeg)), .int (nI 0), .int (sV σ5 2), .long 0] [] wc_J7_fill_bad5a wm_X2_52 ws_J7_fill_bad5a wi_J7 ok_J7_fill_bad5a (by decide) (Nat.le_of_ble_eq_true rfl) dX2_near_79 rfl h ?_
          rintro r6 σ6 ⟨rfl, h⟩
          show WP g 0 45 (d + 1) M_X2_near 82 [(5, .ref (eA g (11 + (nI 32).toNatClampNeg))), (4, .int (jshl (nI 1) (sV σ5 0))), (0, .ref (eA g 0)), (1, .int x1), (2, .int x2), (3, .int x3)] [] σ6 K
          refine wp_iconst (nI 0) dX2_near_82 (by decide) ?_
          refine wp_istore (lv' := [(6, .int (nI 0)), (5, .ref (eA g (11 + (nI 32).toNatClampNeg))), (4, .int (jshl (nI 1) (sV σ5 0))), (0, .ref (eA g 0)), (1, .int x1), (2, .int x2), (3, .int x3)]) dX2_near_83 (by decide) rfl ?_
          exact wp_sub [3, 4, 5, 2, 1, 0] rfl h
        · replace h := h.2 c
          refine wp_bipush (-3) dX2_near_33 (by decide) ?_
          exact wp_iret rfl dX2_near_35 h
      · replace h := h.2 c
        refine wp_bipush (-2) dX2_near_21 (by decide) ?_
        exact wp_iret rfl dX2_near_23 h
set_option maxRecDepth 100000 in
set_option maxHeartbeats 4000000 in
theorem R_X2_near_85 (g : Ev) (d : Nat) (x1 : Int32) (x2 : Int32) (x4 : Int32) (k5 : Nat) (x6 : Int32) (σ : St) (K : Option Value → St → Prop) (h : ((x4 ≤ x6 → Runs g 0 45 d M_X2_keep [.ref (eA g 0), .int x1] σ (fun r1 σ1 => ∃ v1 : Int32, r1 = some (.int v1) ∧ K (some (.int v1)) σ1)) ∧ (¬ x4 ≤ x6 → vp_in x2 34 ∧ vp_in (x4 + x6) (lenI 5) ∧ Runs g 0 45 d M_X0_has [.ref (eA g (11 + x2.toNatClampNeg)), .int ((sI σ 5 (x4 + x6).toNatClampNeg) - x4)] σ (fun r2 σ2 => ∃ v2 : Int32, r2 = some (.int v2) ∧ ((v2 = nI 0 → WP g 0 45 (d + 1) M_X2_near 85 [(0, .ref (eA g 0)), (1, .int x1), (2, .int x2), (4, .int x4), (5, .ref (eA g k5)), (6, .int (x6 + (nI 1)))] [] σ2 K) ∧ (¬ v2 = nI 0 → Runs g 0 45 d M_X0_mark [.ref (eA g k5), .int x6] σ2 (fun r3 σ3 => r3 = none ∧ WP g 0 45 (d + 1) M_X2_near 85 [(0, .ref (eA g 0)), (1, .int x1), (2, .int x2), (4, .int x4), (5, .ref (eA g k5)), (6, .int (x6 + (nI 1)))] [] σ3 K))))))) : WP g 0 45 (d + 1) M_X2_near 85 [(0, .ref (eA g 0)), (1, .int x1), (2, .int x2), (4, .int x4), (5, .ref (eA g k5)), (6, .int x6)] [] σ K := by
  refine wp_iload 5 dX2_near_85 rfl ?_
  refine wp_iload 3 dX2_near_87 rfl ?_
  refine wp_icmp_ge 130 dX2_near_89 (by decide) (fun c => ?_) (fun c => ?_)
  · replace h := h.1 c
    refine wp_aload_n 0 dX2_near_130 rfl rfl ?_
    refine wp_iload_n 1 dX2_near_131 rfl rfl ?_
    refine wp_callV [.int x1] [] 0 1 (by decide) (by decide) rfl rfl wc_X2_keep wm_X2_72 ws_X2_keep we_X2_keep wi_X2 ok_X2_keep (by decide) (Nat.le_of_ble_eq_true rfl) dX2_near_132 rfl h ?_
    rintro r1 σ1 ⟨v1, rfl, h⟩
    show WP g 0 45 (d + 1) M_X2_near 135 [(0, .ref (eA g 0)), (1, .int x1), (2, .int x2), (4, .int x4), (5, .ref (eA g k5)), (6, .int x6)] [.int v1] σ1 K
    exact wp_iret rfl dX2_near_135 h
  · replace h := h.2 c
    refine wp_aload_n 0 dX2_near_92 rfl rfl ?_
    refine wp_get 0 1 0 (by decide) (by decide) rfl rfl inG2 (by decide) wf_X2_13 rfl dX2_near_93 ?_
    refine wp_iload_n 2 dX2_near_96 rfl rfl ?_
    refine wp_aald (by decide) (by decide) dX2_near_97 h.1 ?_
    replace h := h.2
    refine wp_aload_n 0 dX2_near_98 rfl rfl ?_
    refine wp_get 0 1 4 (by decide) (by decide) rfl rfl inG2 (by decide) wf_X2_26 rfl dX2_near_99 ?_
    refine wp_iload 3 dX2_near_102 rfl ?_
    refine wp_iload 5 dX2_near_104 rfl ?_
    refine wp_iadd dX2_near_106 ?_
    refine wp_iald (by decide) (by decide) dX2_near_107 h.1 ?_
    replace h := h.2
    refine wp_iload 3 dX2_near_108 rfl ?_
    refine wp_isub dX2_near_110 ?_
    refine wp_callSN [.ref (eA g (11 + x2.toNatClampNeg)), .int ((sI σ 5 (x4 + x6).toNatClampNeg) - x4)] [] wc_X0_has wn_X2_113 ws_X0_has wi_X0 ok_X0_has (by decide) (Nat.le_of_ble_eq_true rfl) dX2_near_111 rfl h ?_
    rintro r2 σ2 ⟨v2, rfl, h⟩
    show WP g 0 45 (d + 1) M_X2_near 114 [(0, .ref (eA g 0)), (1, .int x1), (2, .int x2), (4, .int x4), (5, .ref (eA g k5)), (6, .int x6)] [.int v2] σ2 K
    refine wp_if_eq 124 dX2_near_114 (by decide) (fun c => ?_) (fun c => ?_)
    · replace h := h.1 c
      refine wp_iinc 5 (nI 1) (lv' := [(6, .int (x6 + (nI 1))), (0, .ref (eA g 0)), (1, .int x1), (2, .int x2), (4, .int x4), (5, .ref (eA g k5))]) dX2_near_124 (by decide) rfl (by decide) rfl ?_
      refine wp_goto 85 dX2_near_127 (by decide) ?_
      exact wp_sub [1, 2, 3, 4, 5, 0] rfl h
    · replace h := h.2 c
      refine wp_aload 4 dX2_near_117 rfl ?_
      refine wp_iload 5 dX2_near_119 rfl ?_
      refine wp_callSN [.ref (eA g k5), .int x6] [] wc_X0_mark wn_X2_117 ws_X0_mark wi_X0 ok_X0_mark (by decide) (Nat.le_of_ble_eq_true rfl) dX2_near_121 rfl h ?_
      rintro r3 σ3 ⟨rfl, h⟩
      show WP g 0 45 (d + 1) M_X2_near 124 [(0, .ref (eA g 0)), (1, .int x1), (2, .int x2), (4, .int x4), (5, .ref (eA g k5)), (6, .int x6)] [] σ3 K
      refine wp_iinc 5 (nI 1) (lv' := [(6, .int (x6 + (nI 1))), (0, .ref (eA g 0)), (1, .int x1), (2, .int x2), (4, .int x4), (5, .ref (eA g k5))]) dX2_near_124 (by decide) rfl (by decide) rfl ?_
      refine wp_goto 85 dX2_near_127 (by decide) ?_
      exact wp_sub [1, 2, 3, 4, 5, 0] rfl h
set_option maxRecDepth 100000 in
set_option maxHeartbeats 4000000 in
theorem E_X2_copy (g : Ev) (d : Nat) (x1 : Int32) (x2 : Int32) (σ : St) (K : Option Value → St → Prop) (h : Runs g 0 45 d M_X2_isRegister [.int x1] σ (fun r1 σ1 => ∃ v1 : Int32, r1 = some (.int v1) ∧ ((v1 = nI 0 → K (some (.int (-2))) σ1) ∧ (¬ v1 = nI 0 → Runs g 0 45 d M_X2_isRegister [.int x2] σ1 (fun r2 σ2 => ∃ v2 : Int32, r2 = some (.int v2) ∧ ((¬ v2 = nI 0 → vp_in x2 34 ∧ vp_in x1 34 ∧ (0 < lenJ (11 + x2.toNatClampNeg) ∧ 0 < lenJ (11 + x1.toNatClampNeg) ∧ ¬ (nI 0) < nI 0 ∧ ¬ (nI 0) < nI 0 ∧ ¬ (sV σ2 2) < nI 0 ∧ (nI 0).toNatClampNeg + (sV σ2 2).toNatClampNeg ≤ lenJ (11 + x2.toNatClampNeg) ∧ (nI 0).toNatClampNeg + (sV σ2 2).toNatClampNeg ≤ lenJ (11 + x1.toNatClampNeg)) ∧ Runs g 0 45 d M_X2_restPointer [.ref (eA g 0)] (uLf σ2 (11 + x1.toNatClampNeg) (va_cpy (sL σ2 (11 + x2.toNatClampNeg)) (sL σ2 (11 + x1.toNatClampNeg)) (nI 0).toNatClampNeg (nI 0).toNatClampNeg (sV σ2 2).toNatClampNeg)) (fun r3 σ3 => r3 = none ∧ K (some (.int (nI 0))) σ3)) ∧ (v2 = nI 0 → K (some (.int (-2))) σ2))))))) : Runs g 0 45 (d + 1) M_X2_copy [.ref (eA g 0), .int x1, .int x2] σ K := by
  refine Runs.of (by decide) (Nat.le_of_ble_eq_true rfl) ?_
  show WP g 0 45 (d + 1) M_X2_copy 0 [(0, .ref (eA g 0)), (1, .int x1), (2, .int x2)] [] σ K
  refine wp_iload_n 1 dX2_copy_0 rfl rfl ?_
  refine wp_callS [.int x1] [] wc_X2_isRegister wm_X2_40 ws_X2_isRegister wi_X2 ok_X2_isRegister (by decide) (Nat.le_of_ble_eq_true rfl) dX2_copy_1 rfl h ?_
  rintro r1 σ1 ⟨v1, rfl, h⟩
  show WP g 0 45 (d + 1) M_X2_copy 4 [(0, .ref (eA g 0)), (1, .int x1), (2, .int x2)] [.int v1] σ1 K
  refine wp_if_eq 14 dX2_copy_4 (by decide) (fun c => ?_) (fun c => ?_)
  · replace h := h.1 c
    refine wp_bipush (-2) dX2_copy_14 (by decide) ?_
    exact wp_iret rfl dX2_copy_16 h
  · replace h := h.2 c
    refine wp_iload_n 2 dX2_copy_7 rfl rfl ?_
    refine wp_callS [.int x2] [] wc_X2_isRegister wm_X2_40 ws_X2_isRegister wi_X2 ok_X2_isRegister (by decide) (Nat.le_of_ble_eq_true rfl) dX2_copy_8 rfl h ?_
    rintro r2 σ2 ⟨v2, rfl, h⟩
    show WP g 0 45 (d + 1) M_X2_copy 11 [(0, .ref (eA g 0)), (1, .int x1), (2, .int x2)] [.int v2] σ2 K
    refine wp_if_ne 17 dX2_copy_11 (by decide) (fun c => ?_) (fun c => ?_)
    · replace h := h.1 c
      refine wp_aload_n 0 dX2_copy_17 rfl rfl ?_
      refine wp_get 0 1 0 (by decide) (by decide) rfl rfl inG2 (by decide) wf_X2_13 rfl dX2_copy_18 ?_
      refine wp_iload_n 2 dX2_copy_21 rfl rfl ?_
      refine wp_aald (by decide) (by decide) dX2_copy_22 h.1 ?_
      replace h := h.2
      refine wp_iconst (nI 0) dX2_copy_23 (by decide) ?_
      refine wp_aload_n 0 dX2_copy_24 rfl rfl ?_
      refine wp_get 0 1 0 (by decide) (by decide) rfl rfl inG2 (by decide) wf_X2_13 rfl dX2_copy_25 ?_
      refine wp_iload_n 1 dX2_copy_28 rfl rfl ?_
      refine wp_aald (by decide) (by decide) dX2_copy_29 h.1 ?_
      replace h := h.2
      refine wp_iconst (nI 0) dX2_copy_30 (by decide) ?_
      refine wp_aload_n 0 dX2_copy_31 rfl rfl ?_
      refine wp_get 0 1 8 (by decide) (by decide) rfl rfl inG2 (by decide) wf_X2_44 rfl dX2_copy_32 ?_
      refine wp_copyl wm_X2_121 wt_copy ws_copy wi_System (Nat.zero_le _) (lenJ_pos h.1.1).2 (Nat.zero_le _) (lenJ_pos h.1.2.1).2 h.1.1 h.1.2.1 h.1.2.2.1 h.1.2.2.2.1 h.1.2.2.2.2.1 h.1.2.2.2.2.2.1 h.1.2.2.2.2.2.2 (Nat.le_of_ble_eq_true rfl) dX2_copy_35 ?_
      replace h := h.2
      refine wp_aload_n 0 dX2_copy_38 rfl rfl ?_
      refine wp_callV [] [] 0 1 (by decide) (by decide) rfl rfl wc_X2_restPointer wm_X2_58 ws_X2_restPointer we_X2_restPointer wi_X2 ok_X2_restPointer (by decide) (Nat.le_of_ble_eq_true rfl) dX2_copy_39 rfl h ?_
      rintro r3 σ3 ⟨rfl, h⟩
      show WP g 0 45 (d + 1) M_X2_copy 42 [(0, .ref (eA g 0)), (1, .int x1), (2, .int x2)] [] σ3 K
      refine wp_iconst (nI 0) dX2_copy_42 (by decide) ?_
      exact wp_iret rfl dX2_copy_43 h
    · replace h := h.2 c
      refine wp_bipush (-2) dX2_copy_14 (by decide) ?_
      exact wp_iret rfl dX2_copy_16 h
set_option maxRecDepth 100000 in
set_option maxHeartbeats 4000000 in
theorem E_X2_swap (g : Ev) (d : Nat) (x1 : Int32) (σ : St) (K : Option Value → St → Prop) (h : Runs g 0 45 d M_X2_isLevel [.ref (eA g 0), .int x1] σ (fun r1 σ1 => ∃ v1 : Int32, r1 = some (.int v1) ∧ ((v1 = nI 0 → K (some (.int (-2))) σ1) ∧ (¬ v1 = nI 0 → ((¬ x1 = ((sV σ1 0) - (nI 1)) → Runs g 0 45 d M_X2_turn [.ref (eA g 0), .int x1] σ1 (fun r2 σ2 => r2 = none ∧ Runs g 0 45 d M_X2_forksOfAll [.ref (eA g 0)] σ2 (fun r3 σ3 => ∃ v3 : Int32, r3 = some (.int v3) ∧ ((v3 ≤ (sV σ3 1) → Runs g 0 45 d M_X2_restPointer [.ref (eA g 0)] σ3 (fun r4 σ4 => r4 = none ∧ K (some (.int (nI 0))) σ4)) ∧ (¬ v3 ≤ (sV σ3 1) → Runs g 0 45 d M_X2_turn [.ref (eA g 0), .int x1] σ3 (fun r5 σ5 => r5 = none ∧ K (some (.int (-8))) σ5)))))) ∧ (x1 = ((sV σ1 0) - (nI 1)) → K (some (.int (-2))) σ1)))))) : Runs g 0 45 (d + 1) M_X2_swap [.ref (eA g 0), .int x1] σ K := by
  refine Runs.of (by decide) (Nat.le_of_ble_eq_true rfl) ?_
  show WP g 0 45 (d + 1) M_X2_swap 0 [(0, .ref (eA g 0)), (1, .int x1)] [] σ K
  refine wp_aload_n 0 dX2_swap_0 rfl rfl ?_
  refine wp_iload_n 1 dX2_swap_1 rfl rfl ?_
  refine wp_callV [.int x1] [] 0 1 (by decide) (by decide) rfl rfl wc_X2_isLevel wm_X2_127 ws_X2_isLevel we_X2_isLevel wi_X2 ok_X2_isLevel (by decide) (Nat.le_of_ble_eq_true rfl) dX2_swap_2 rfl h ?_
  rintro r1 σ1 ⟨v1, rfl, h⟩
  show WP g 0 45 (d + 1) M_X2_swap 5 [(0, .ref (eA g 0)), (1, .int x1)] [.int v1] σ1 K
  refine wp_if_eq 18 dX2_swap_5 (by decide) (fun c => ?_) (fun c => ?_)
  · replace h := h.1 c
    refine wp_bipush (-2) dX2_swap_18 (by decide) ?_
    exact wp_iret rfl dX2_swap_20 h
  · replace h := h.2 c
    refine wp_iload_n 1 dX2_swap_8 rfl rfl ?_
    refine wp_aload_n 0 dX2_swap_9 rfl rfl ?_
    refine wp_get 0 1 6 (by decide) (by decide) rfl rfl inG2 (by decide) wf_X2_94 rfl dX2_swap_10 ?_
    refine wp_iconst (nI 1) dX2_swap_13 (by decide) ?_
    refine wp_isub dX2_swap_14 ?_
    refine wp_icmp_ne 21 dX2_swap_15 (by decide) (fun c => ?_) (fun c => ?_)
    · replace h := h.1 c
      refine wp_aload_n 0 dX2_swap_21 rfl rfl ?_
      refine wp_iload_n 1 dX2_swap_22 rfl rfl ?_
      refine wp_callV [.int x1] [] 0 1 (by decide) (by decide) rfl rfl wc_X2_turn wm_X2_130 ws_X2_turn we_X2_turn wi_X2 ok_X2_turn (by decide) (Nat.le_of_ble_eq_true rfl) dX2_swap_23 rfl h ?_
      rintro r2 σ2 ⟨rfl, h⟩
      show WP g 0 45 (d + 1) M_X2_swap 26 [(0, .ref (eA g 0)), (1, .int x1)] [] σ2 K
      refine wp_aload_n 0 dX2_swap_26 rfl rfl ?_
      refine wp_callV [] [] 0 1 (by decide) (by decide) rfl rfl wc_X2_forksOfAll wm_X2_133 ws_X2_forksOfAll we_X2_forksOfAll wi_X2 ok_X2_forksOfAll (by decide) (Nat.le_of_ble_eq_true rfl) dX2_swap_27 rfl h ?_
      rintro r3 σ3 ⟨v3, rfl, h⟩
      show WP g 0 45 (d + 1) M_X2_swap 30 [(0, .ref (eA g 0)), (1, .int x1)] [.int v3] σ3 K
      refine wp_aload_n 0 dX2_swap_30 rfl rfl ?_
      refine wp_get 0 1 7 (by decide) (by decide) rfl rfl inG2 (by decide) wf_X2_137 rfl dX2_swap_31 ?_
      refine wp_icmp_le 45 dX2_swap_34 (by decide) (fun c => ?_) (fun c => ?_)
      · replace h := h.1 c
        refine wp_aload_n 0 dX2_swap_45 rfl rfl ?_
        refine wp_callV [] [] 0 1 (by decide) (by decide) rfl rfl wc_X2_restPointer wm_X2_58 ws_X2_restPointer we_X2_restPointer wi_X2 ok_X2_restPointer (by decide) (Nat.le_of_ble_eq_true rfl) dX2_swap_46 rfl h ?_
        rintro r4 σ4 ⟨rfl, h⟩
        show WP g 0 45 (d + 1) M_X2_swap 49 [(0, .ref (eA g 0)), (1, .int x1)] [] σ4 K
        refine wp_iconst (nI 0) dX2_swap_49 (by decide) ?_
        exact wp_iret rfl dX2_swap_50 h
      · replace h := h.2 c
        refine wp_aload_n 0 dX2_swap_37 rfl rfl ?_
        refine wp_iload_n 1 dX2_swap_38 rfl rfl ?_
        refine wp_callV [.int x1] [] 0 1 (by decide) (by decide) rfl rfl wc_X2_turn wm_X2_130 ws_X2_turn we_X2_turn wi_X2 ok_X2_turn (by decide) (Nat.le_of_ble_eq_true rfl) dX2_swap_39 rfl h ?_
        rintro r5 σ5 ⟨rfl, h⟩
        show WP g 0 45 (d + 1) M_X2_swap 42 [(0, .ref (eA g 0)), (1, .int x1)] [] σ5 K
        refine wp_bipush (-8) dX2_swap_42 (by decide) ?_
        exact wp_iret rfl dX2_swap_44 h
    · replace h := h.2 c
      refine wp_bipush (-2) dX2_swap_18 (by decide) ?_
      exact wp_iret rfl dX2_swap_20 h
set_option maxRecDepth 100000 in
set_option maxHeartbeats 4000000 in
theorem E_X2_sift (g : Ev) (d : Nat) (x1 : Int32) (σ : St) (K : Option Value → St → Prop) (h : Runs g 0 45 d M_X2_isLetter [.ref (eA g 0), .int x1] σ (fun r1 σ1 => ∃ v1 : Int32, r1 = some (.int v1) ∧ ((¬ v1 = nI 0 → Runs g 0 45 d M_X2_levelOf [.ref (eA g 0), .int x1] σ1 (fun r2 σ2 => ∃ v2 : Int32, r2 = some (.int v2) ∧ WP g 0 45 (d + 1) M_X2_sift 19 [(0, .ref (eA g 0)), (2, .int (v2 - (nI 1)))] [] σ2 K)) ∧ (v1 = nI 0 → K (some (.int (-2))) σ1)))) : Runs g 0 45 (d + 1) M_X2_sift [.ref (eA g 0), .int x1] σ K := by
  refine Runs.of (by decide) (Nat.le_of_ble_eq_true rfl) ?_
  show WP g 0 45 (d + 1) M_X2_sift 0 [(0, .ref (eA g 0)), (1, .int x1)] [] σ K
  refine wp_aload_n 0 dX2_sift_0 rfl rfl ?_
  refine wp_iload_n 1 dX2_sift_1 rfl rfl ?_
  refine wp_callV [.int x1] [] 0 1 (by decide) (by decide) rfl rfl wc_X2_isLetter wm_X2_61 ws_X2_isLetter we_X2_isLetter wi_X2 ok_X2_isLetter (by decide) (Nat.le_of_ble_eq_true rfl) dX2_sift_2 rfl h ?_
  rintro r1 σ1 ⟨v1, rfl, h⟩
  show WP g 0 45 (d + 1) M_X2_sift 5 [(0, .ref (eA g 0)), (1, .int x1)] [.int v1] σ1 K
  refine wp_if_ne 11 dX2_sift_5 (by decide) (fun c => ?_) (fun c => ?_)
  · replace h := h.1 c
    refine wp_aload_n 0 dX2_sift_11 rfl rfl ?_
    refine wp_iload_n 1 dX2_sift_12 rfl rfl ?_
    refine wp_callV [.int x1] [] 0 1 (by decide) (by decide) rfl rfl wc_X2_levelOf wm_X2_140 ws_X2_levelOf we_X2_levelOf wi_X2 ok_X2_levelOf (by decide) (Nat.le_of_ble_eq_true rfl) dX2_sift_13 rfl h ?_
    rintro r2 σ2 ⟨v2, rfl, h⟩
    show WP g 0 45 (d + 1) M_X2_sift 16 [(0, .ref (eA g 0)), (1, .int x1)] [.int v2] σ2 K
    refine wp_iconst (nI 1) dX2_sift_16 (by decide) ?_
    refine wp_isub dX2_sift_17 ?_
    refine wp_istore_n (lv' := [(2, .int (v2 - (nI 1))), (0, .ref (eA g 0)), (1, .int x1)]) dX2_sift_18 rfl (by decide) rfl ?_
    exact wp_sub [1, 0] rfl h
  · replace h := h.2 c
    refine wp_bipush (-2) dX2_sift_8 (by decide) ?_
    exact wp_iret rfl dX2_sift_10 h
set_option maxRecDepth 100000 in
set_option maxHeartbeats 4000000 in
theorem R_X2_sift_19 (g : Ev) (d : Nat) (x2 : Int32) (σ : St) (K : Option Value → St → Prop) (h : ((x2 < nI 0 → Runs g 0 45 d M_X2_forksOfAll [.ref (eA g 0)] σ (fun r1 σ1 => ∃ v1 : Int32, r1 = some (.int v1) ∧ Runs g 0 45 d M_X2_bestLevelGoingDown [.ref (eA g 0), .int v1] σ1 (fun r2 σ2 => ∃ v2 : Int32, r2 = some (.int v2) ∧ WP g 0 45 (d + 1) M_X2_sift 50 [(0, .ref (eA g 0)), (2, .int v2), (3, .int ((sV σ2 0) - (nI 2)))] [] σ2 K))) ∧ (¬ x2 < nI 0 → Runs g 0 45 d M_X2_turn [.ref (eA g 0), .int x2] σ (fun r3 σ3 => r3 = none ∧ WP g 0 45 (d + 1) M_X2_sift 19 [(0, .ref (eA g 0)), (2, .int (x2 + (-1)))] [] σ3 K)))) : WP g 0 45 (d + 1) M_X2_sift 19 [(0, .ref (eA g 0)), (2, .int x2)] [] σ K := by
  refine wp_iload_n 1 dX2_sift_19 rfl rfl ?_
  refine wp_if_lt 34 dX2_sift_20 (by decide) (fun c => ?_) (fun c => ?_)
  · replace h := h.1 c
    refine wp_aload_n 0 dX2_sift_34 rfl rfl ?_
    refine wp_aload_n 0 dX2_sift_35 rfl rfl ?_
    refine wp_callV [] [.ref (eA g 0)] 0 1 (by decide) (by decide) rfl rfl wc_X2_forksOfAll wm_X2_133 ws_X2_forksOfAll we_X2_forksOfAll wi_X2 ok_X2_forksOfAll (by decide) (Nat.le_of_ble_eq_true rfl) dX2_sift_36 rfl h ?_
    rintro r1 σ1 ⟨v1, rfl, h⟩
    show WP g 0 45 (d + 1) M_X2_sift 39 [(0, .ref (eA g 0)), (2, .int x2)] [.int v1, .ref (eA g 0)] σ1 K
    refine wp_callV [.int v1] [] 0 1 (by decide) (by decide) rfl rfl wc_X2_bestLevelGoingDown wm_X2_143 ws_X2_bestLevelGoingDown we_X2_bestLevelGoingDown wi_X2 ok_X2_bestLevelGoingDown (by decide) (Nat.le_of_ble_eq_true rfl) dX2_sift_39 rfl h ?_
    rintro r2 σ2 ⟨v2, rfl, h⟩
    show WP g 0 45 (d + 1) M_X2_sift 42 [(0, .ref (eA g 0)), (2, .int x2)] [.int v2] σ2 K
    refine wp_istore_n (lv' := [(2, .int v2), (0, .ref (eA g 0))]) dX2_sift_42 rfl (by decide) rfl ?_
    refine wp_aload_n 1 dX2_sift_43 rfl rfl ?_
    refine wp_get 0 1 6 (by decide) (by decide) rfl rfl inG2 (by decide) wf_X2_94 rfl dX2_sift_44 ?_
    refine wp_iconst (nI 2) dX2_sift_47 (by decide) ?_
    refine wp_isub dX2_sift_48 ?_
    refine wp_istore_n (lv' := [(3, .int ((sV σ2 0) - (nI 2))), (2, .int v2), (0, .ref (eA g 0))]) dX2_sift_49 rfl (by decide) rfl ?_
    exact wp_sub [2, 1, 0] rfl h
  · replace h := h.2 c
    refine wp_aload_n 0 dX2_sift_23 rfl rfl ?_
    refine wp_iload_n 1 dX2_sift_24 rfl rfl ?_
    refine wp_callV [.int x2] [] 0 1 (by decide) (by decide) rfl rfl wc_X2_turn wm_X2_130 ws_X2_turn we_X2_turn wi_X2 ok_X2_turn (by decide) (Nat.le_of_ble_eq_true rfl) dX2_sift_25 rfl h ?_
    rintro r3 σ3 ⟨rfl, h⟩
    show WP g 0 45 (d + 1) M_X2_sift 28 [(0, .ref (eA g 0)), (2, .int x2)] [] σ3 K
    refine wp_iinc 1 (-1) (lv' := [(2, .int (x2 + (-1))), (0, .ref (eA g 0))]) dX2_sift_28 (by decide) rfl (by decide) rfl ?_
    refine wp_goto 19 dX2_sift_31 (by decide) ?_
    exact wp_sub [1, 0] rfl h
set_option maxRecDepth 100000 in
set_option maxHeartbeats 4000000 in
theorem R_X2_sift_50 (g : Ev) (d : Nat) (x2 : Int32) (x3 : Int32) (σ : St) (K : Option Value → St → Prop) (h : ((x3 < x2 → Runs g 0 45 d M_X2_restPointer [.ref (eA g 0)] σ (fun r1 σ1 => r1 = none ∧ K (some (.int x2)) σ1)) ∧ (¬ x3 < x2 → Runs g 0 45 d M_X2_turn [.ref (eA g 0), .int x3] σ (fun r2 σ2 => r2 = none ∧ WP g 0 45 (d + 1) M_X2_sift 50 [(0, .ref (eA g 0)), (2, .int x2), (3, .int (x3 + (-1)))] [] σ2 K)))) : WP g 0 45 (d + 1) M_X2_sift 50 [(0, .ref (eA g 0)), (2, .int x2), (3, .int x3)] [] σ K := by
  refine wp_iload_n 2 dX2_sift_50 rfl rfl ?_
  refine wp_iload_n 1 dX2_sift_51 rfl rfl ?_
  refine wp_icmp_lt 66 dX2_sift_52 (by decide) (fun c => ?_) (fun c => ?_)
  · replace h := h.1 c
    refine wp_aload_n 0 dX2_sift_66 rfl rfl ?_
    refine wp_callV [] [] 0 1 (by decide) (by decide) rfl rfl wc_X2_restPointer wm_X2_58 ws_X2_restPointer we_X2_restPointer wi_X2 ok_X2_restPointer (by decide) (Nat.le_of_ble_eq_true rfl) dX2_sift_67 rfl h ?_
    rintro r1 σ1 ⟨rfl, h⟩
    show WP g 0 45 (d + 1) M_X2_sift 70 [(0, .ref (eA g 0)), (2, .int x2), (3, .int x3)] [] σ1 K
    refine wp_iload_n 1 dX2_sift_70 rfl rfl ?_
    exact wp_iret rfl dX2_sift_71 h
  · replace h := h.2 c
    refine wp_aload_n 0 dX2_sift_55 rfl rfl ?_
    refine wp_iload_n 2 dX2_sift_56 rfl rfl ?_
    refine wp_callV [.int x3] [] 0 1 (by decide) (by decide) rfl rfl wc_X2_turn wm_X2_130 ws_X2_turn we_X2_turn wi_X2 ok_X2_turn (by decide) (Nat.le_of_ble_eq_true rfl) dX2_sift_57 rfl h ?_
    rintro r2 σ2 ⟨rfl, h⟩
    show WP g 0 45 (d + 1) M_X2_sift 60 [(0, .ref (eA g 0)), (2, .int x2), (3, .int x3)] [] σ2 K
    refine wp_iinc 2 (-1) (lv' := [(3, .int (x3 + (-1))), (0, .ref (eA g 0)), (2, .int x2)]) dX2_sift_60 (by decide) rfl (by decide) rfl ?_
    refine wp_goto 50 dX2_sift_63 (by decide) ?_
    exact wp_sub [1, 2, 0] rfl h
set_option maxRecDepth 100000 in
set_option maxHeartbeats 4000000 in
theorem E_X2_cost (g : Ev) (d : Nat) (x1 : Int32) (x2 : Int32) (σ : St) (K : Option Value → St → Prop) (h : Runs g 0 45 d M_X2_isLetter [.ref (eA g 0), .int x1] σ (fun r1 σ1 => ∃ v1 : Int32, r1 = some (.int v1) ∧ ((v1 = nI 0 → K (some (.int (-2))) σ1) ∧ (¬ v1 = nI 0 → ((x2 < nI 0 → K (some (.int (-2))) σ1) ∧ (¬ x2 < nI 0 → ((x2 ≤ (nI 1000000) → vp_in x1 (lenI 3) ∧ vp_in x1 (lenI 3) ∧ K (some (.int (sI σ1 3 x1.toNatClampNeg))) (uI σ1 3 x1.toNatClampNeg x2)) ∧ (¬ x2 ≤ (nI 1000000) → K (some (.int (-2))) σ1)))))))) : Runs g 0 45 (d + 1) M_X2_cost [.ref (eA g 0), .int x1, .int x2] σ K := by
  refine Runs.of (by decide) (Nat.le_of_ble_eq_true rfl) ?_
  show WP g 0 45 (d + 1) M_X2_cost 0 [(0, .ref (eA g 0)), (1, .int x1), (2, .int x2)] [] σ K
  refine wp_aload_n 0 dX2_cost_0 rfl rfl ?_
  refine wp_iload_n 1 dX2_cost_1 rfl rfl ?_
  refine wp_callV [.int x1] [] 0 1 (by decide) (by decide) rfl rfl wc_X2_isLetter wm_X2_61 ws_X2_isLetter we_X2_isLetter wi_X2 ok_X2_isLetter (by decide) (Nat.le_of_ble_eq_true rfl) dX2_cost_2 rfl h ?_
  rintro r1 σ1 ⟨v1, rfl, h⟩
  show WP g 0 45 (d + 1) M_X2_cost 5 [(0, .ref (eA g 0)), (1, .int x1), (2, .int x2)] [.int v1] σ1 K
  refine wp_if_eq 18 dX2_cost_5 (by decide) (fun c => ?_) (fun c => ?_)
  · replace h := h.1 c
    refine wp_bipush (-2) dX2_cost_18 (by decide) ?_
    exact wp_iret rfl dX2_cost_20 h
  · replace h := h.2 c
    refine wp_iload_n 2 dX2_cost_8 rfl rfl ?_
    refine wp_if_lt 18 dX2_cost_9 (by decide) (fun c => ?_) (fun c => ?_)
    · replace h := h.1 c
      refine wp_bipush (-2) dX2_cost_18 (by decide) ?_
      exact wp_iret rfl dX2_cost_20 h
    · replace h := h.2 c
      refine wp_iload_n 2 dX2_cost_12 rfl rfl ?_
      refine wp_ldc (v := (nI 1000000)) wk_X2_146 dX2_cost_13 ?_
      refine wp_icmp_le 21 dX2_cost_15 (by decide) (fun c => ?_) (fun c => ?_)
      · replace h := h.1 c
        refine wp_aload_n 0 dX2_cost_21 rfl rfl ?_
        refine wp_get 0 1 2 (by decide) (by decide) rfl rfl inG2 (by decide) wf_X2_20 rfl dX2_cost_22 ?_
        refine wp_iload_n 1 dX2_cost_25 rfl rfl ?_
        refine wp_iald (by decide) (by decide) dX2_cost_26 h.1 ?_
        replace h := h.2
        refine wp_istore_n (lv' := [(3, .int (sI σ1 3 x1.toNatClampNeg)), (0, .ref (eA g 0)), (1, .int x1), (2, .int x2)]) dX2_cost_27 rfl (by decide) rfl ?_
        refine wp_aload_n 1 dX2_cost_28 rfl rfl ?_
        refine wp_get 0 1 2 (by decide) (by decide) rfl rfl inG2 (by decide) wf_X2_20 rfl dX2_cost_29 ?_
        refine wp_iload_n 2 dX2_cost_32 rfl rfl ?_
        refine wp_iload_n 3 dX2_cost_33 rfl rfl ?_
        refine wp_iast (by decide) (by decide) dX2_cost_34 h.1 ?_
        replace h := h.2
        refine wp_iload_n 0 dX2_cost_35 rfl rfl ?_
        exact wp_iret rfl dX2_cost_36 h
      · replace h := h.2 c
        refine wp_bipush (-2) dX2_cost_18 (by decide) ?_
        exact wp_iret rfl dX2_cost_20 h
set_option maxRecDepth 100000 in
set_option maxHeartbeats 4000000 in
theorem E_X2_same (g : Ev) (d : Nat) (x1 : Int32) (x2 : Int32) (σ : St) (K : Option Value → St → Prop) (h : Runs g 0 45 d M_X2_isRegister [.int x1] σ (fun r1 σ1 => ∃ v1 : Int32, r1 = some (.int v1) ∧ ((v1 = nI 0 → K (some (.int (-2))) σ1) ∧ (¬ v1 = nI 0 → Runs g 0 45 d M_X2_isRegister [.int x2] σ1 (fun r2 σ2 => ∃ v2 : Int32, r2 = some (.int v2) ∧ ((¬ v2 = nI 0 → vp_in x1 34 ∧ vp_in x2 34 ∧ Runs g 0 45 d M_X0_alike [.ref (eA g (11 + x1.toNatClampNeg)), .int (nI 0), .ref (eA g (11 + x2.toNatClampNeg)), .int (nI 0), .int (jshl (nI 1) (sV σ2 0))] σ2 (fun r3 σ3 => ∃ v3 : Int32, r3 = some (.int v3) ∧ ((v3 = nI 0 → K (some (.int (nI 0))) σ3) ∧ (¬ v3 = nI 0 → K (some (.int (nI 1))) σ3)))) ∧ (v2 = nI 0 → K (some (.int (-2))) σ2))))))) : Runs g 0 45 (d + 1) M_X2_same [.ref (eA g 0), .int x1, .int x2] σ K := by
  refine Runs.of (by decide) (Nat.le_of_ble_eq_true rfl) ?_
  show WP g 0 45 (d + 1) M_X2_same 0 [(0, .ref (eA g 0)), (1, .int x1), (2, .int x2)] [] σ K
  refine wp_iload_n 1 dX2_same_0 rfl rfl ?_
  refine wp_callS [.int x1] [] wc_X2_isRegister wm_X2_40 ws_X2_isRegister wi_X2 ok_X2_isRegister (by decide) (Nat.le_of_ble_eq_true rfl) dX2_same_1 rfl h ?_
  rintro r1 σ1 ⟨v1, rfl, h⟩
  show WP g 0 45 (d + 1) M_X2_same 4 [(0, .ref (eA g 0)), (1, .int x1), (2, .int x2)] [.int v1] σ1 K
  refine wp_if_eq 14 dX2_same_4 (by decide) (fun c => ?_) (fun c => ?_)
  · replace h := h.1 c
    refine wp_bipush (-2) dX2_same_14 (by decide) ?_
    exact wp_iret rfl dX2_same_16 h
  · replace h := h.2 c
    refine wp_iload_n 2 dX2_same_7 rfl rfl ?_
    refine wp_callS [.int x2] [] wc_X2_isRegister wm_X2_40 ws_X2_isRegister wi_X2 ok_X2_isRegister (by decide) (Nat.le_of_ble_eq_true rfl) dX2_same_8 rfl h ?_
    rintro r2 σ2 ⟨v2, rfl, h⟩
    show WP g 0 45 (d + 1) M_X2_same 11 [(0, .ref (eA g 0)), (1, .int x1), (2, .int x2)] [.int v2] σ2 K
    refine wp_if_ne 17 dX2_same_11 (by decide) (fun c => ?_) (fun c => ?_)
    · replace h := h.1 c
      refine wp_aload_n 0 dX2_same_17 rfl rfl ?_
      refine wp_get 0 1 0 (by decide) (by decide) rfl rfl inG2 (by decide) wf_X2_13 rfl dX2_same_18 ?_
      refine wp_iload_n 1 dX2_same_21 rfl rfl ?_
      refine wp_aald (by decide) (by decide) dX2_same_22 h.1 ?_
      replace h := h.2
      refine wp_iconst (nI 0) dX2_same_23 (by decide) ?_
      refine wp_aload_n 0 dX2_same_24 rfl rfl ?_
      refine wp_get 0 1 0 (by decide) (by decide) rfl rfl inG2 (by decide) wf_X2_13 rfl dX2_same_25 ?_
      refine wp_iload_n 2 dX2_same_28 rfl rfl ?_
      refine wp_aald (by decide) (by decide) dX2_same_29 h.1 ?_
      replace h := h.2
      refine wp_iconst (nI 0) dX2_same_30 (by decide) ?_
      refine wp_iconst (nI 1) dX2_same_31 (by decide) ?_
      refine wp_aload_n 0 dX2_same_32 rfl rfl ?_
      refine wp_get 0 1 6 (by decide) (by decide) rfl rfl inG2 (by decide) wf_X2_94 rfl dX2_same_33 ?_
      refine wp_ishl dX2_same_36 ?_
      refine wp_callSN [.ref (eA g (11 + x1.toNatClampNeg)), .int (nI 0), .ref (eA g (11 + x2.toNatClampNeg)), .int (nI 0), .int (jshl (nI 1) (sV σ2 0))] [] wc_X0_alike wn_X2_147 ws_X0_alike wi_X0 ok_X0_alike (by decide) (Nat.le_of_ble_eq_true rfl) dX2_same_37 rfl h ?_
      rintro r3 σ3 ⟨v3, rfl, h⟩
      show WP g 0 45 (d + 1) M_X2_same 40 [(0, .ref (eA g 0)), (1, .int x1), (2, .int x2)] [.int v3] σ3 K
      refine wp_if_eq 47 dX2_same_40 (by decide) (fun c => ?_) (fun c => ?_)
      · replace h := h.1 c
        refine wp_iconst (nI 0) dX2_same_47 (by decide) ?_
        exact wp_iret rfl dX2_same_48 h
      · replace h := h.2 c
        refine wp_iconst (nI 1) dX2_same_43 (by decide) ?_
        refine wp_goto 48 dX2_same_44 (by decide) ?_
        exact wp_iret rfl dX2_same_48 h
    · replace h := h.2 c
      refine wp_bipush (-2) dX2_same_14 (by decide) ?_
      exact wp_iret rfl dX2_same_16 h
set_option maxRecDepth 100000 in
set_option maxHeartbeats 4000000 in
theorem E_X2_tells (g : Ev) (d : Nat) (x1 : Int32) (x2 : Int32) (σ : St) (K : Option Value → St → Prop) (h : Runs g 0 45 d M_X2_isRegister [.int x1] σ (fun r1 σ1 => ∃ v1 : Int32, r1 = some (.int v1) ∧ ((v1 = nI 0 → K (some (.int (-2))) σ1) ∧ (¬ v1 = nI 0 → Runs g 0 45 d M_X2_isAssignment [.ref (eA g 0), .int x2] σ1 (fun r2 σ2 => ∃ v2 : Int32, r2 = some (.int v2) ∧ ((¬ v2 = nI 0 → vp_in x1 34 ∧ Runs g 0 45 d M_X2_bitOf [.ref (eA g 0), .int x2] σ2 (fun r3 σ3 => ∃ v3 : Int32, r3 = some (.int v3) ∧ Runs g 0 45 d M_X0_has [.ref (eA g (11 + x1.toNatClampNeg)), .int v3] σ3 (fun r4 σ4 => ∃ v4 : Int32, r4 = some (.int v4) ∧ ((v4 = nI 0 → K (some (.int (nI 0))) σ4) ∧ (¬ v4 = nI 0 → K (some (.int (nI 1))) σ4))))) ∧ (v2 = nI 0 → K (some (.int (-2))) σ2))))))) : Runs g 0 45 (d + 1) M_X2_tells [.ref (eA g 0), .int x1, .int x2] σ K := by
  refine Runs.of (by decide) (Nat.le_of_ble_eq_true rfl) ?_
  show WP g 0 45 (d + 1) M_X2_tells 0 [(0, .ref (eA g 0)), (1, .int x1), (2, .int x2)] [] σ K
  refine wp_iload_n 1 dX2_tells_0 rfl rfl ?_
  refine wp_callS [.int x1] [] wc_X2_isRegister wm_X2_40 ws_X2_isRegister wi_X2 ok_X2_isRegister (by decide) (Nat.le_of_ble_eq_true rfl) dX2_tells_1 rfl h ?_
  rintro r1 σ1 ⟨v1, rfl, h⟩
  show WP g 0 45 (d + 1) M_X2_tells 4 [(0, .ref (eA g 0)), (1, .int x1), (2, .int x2)] [.int v1] σ1 K
  refine wp_if_eq 15 dX2_tells_4 (by decide) (fun c => ?_) (fun c => ?_)
  · replace h := h.1 c
    refine wp_bipush (-2) dX2_tells_15 (by decide) ?_
    exact wp_iret rfl dX2_tells_17 h
  · replace h := h.2 c
    refine wp_aload_n 0 dX2_tells_7 rfl rfl ?_
    refine wp_iload_n 2 dX2_tells_8 rfl rfl ?_
    refine wp_callV [.int x2] [] 0 1 (by decide) (by decide) rfl rfl wc_X2_isAssignment wm_X2_87 ws_X2_isAssignment we_X2_isAssignment wi_X2 ok_X2_isAssignment (by decide) (Nat.le_of_ble_eq_true rfl) dX2_tells_9 rfl h ?_
    rintro r2 σ2 ⟨v2, rfl, h⟩
    show WP g 0 45 (d + 1) M_X2_tells 12 [(0, .ref (eA g 0)), (1, .int x1), (2, .int x2)] [.int v2] σ2 K
    refine wp_if_ne 18 dX2_tells_12 (by decide) (fun c => ?_) (fun c => ?_)
    · replace h := h.1 c
      refine wp_aload_n 0 dX2_tells_18 rfl rfl ?_
      refine wp_get 0 1 0 (by decide) (by decide) rfl rfl inG2 (by decide) wf_X2_13 rfl dX2_tells_19 ?_
      refine wp_iload_n 1 dX2_tells_22 rfl rfl ?_
      refine wp_aald (by decide) (by decide) dX2_tells_23 h.1 ?_
      replace h := h.2
      refine wp_aload_n 0 dX2_tells_24 rfl rfl ?_
      refine wp_iload_n 2 dX2_tells_25 rfl rfl ?_
      refine wp_callV [.int x2] [.ref (eA g (11 + x1.toNatClampNeg))] 0 1 (by decide) (by decide) rfl rfl wc_X2_bitOf wm_X2_151 ws_X2_bitOf we_X2_bitOf wi_X2 ok_X2_bitOf (by decide) (Nat.le_of_ble_eq_true rfl) dX2_tells_26 rfl h ?_
      rintro r3 σ3 ⟨v3, rfl, h⟩
      show WP g 0 45 (d + 1) M_X2_tells 29 [(0, .ref (eA g 0)), (1, .int x1), (2, .int x2)] [.int v3, .ref (eA g (11 + x1.toNatClampNeg))] σ3 K
      refine wp_callSN [.ref (eA g (11 + x1.toNatClampNeg)), .int v3] [] wc_X0_has wn_X2_113 ws_X0_has wi_X0 ok_X0_has (by decide) (Nat.le_of_ble_eq_true rfl) dX2_tells_29 rfl h ?_
      rintro r4 σ4 ⟨v4, rfl, h⟩
      show WP g 0 45 (d + 1) M_X2_tells 32 [(0, .ref (eA g 0)), (1, .int x1), (2, .int x2)] [.int v4] σ4 K
      refine wp_if_eq 39 dX2_tells_32 (by decide) (fun c => ?_) (fun c => ?_)
      · replace h := h.1 c
        refine wp_iconst (nI 0) dX2_tells_39 (by decide) ?_
        exact wp_iret rfl dX2_tells_40 h
      · replace h := h.2 c
        refine wp_iconst (nI 1) dX2_tells_35 (by decide) ?_
        refine wp_goto 40 dX2_tells_36 (by decide) ?_
        exact wp_iret rfl dX2_tells_40 h
    · replace h := h.2 c
      refine wp_bipush (-2) dX2_tells_15 (by decide) ?_
      exact wp_iret rfl dX2_tells_17 h
set_option maxRecDepth 100000 in
set_option maxHeartbeats 4000000 in
theorem E_X2_many (g : Ev) (d : Nat) (x1 : Int32) (σ : St) (K : Option Value → St → Prop) (h : Runs g 0 45 d M_X2_isRegister [.int x1] σ (fun r1 σ1 => ∃ v1 : Int32, r1 = some (.int v1) ∧ ((¬ v1 = nI 0 → WP g 0 45 (d + 1) M_X2_many 14 [(0, .ref (eA g 0)), (1, .int x1), (2, .int (nI 0)), (3, .int (nI 0))] [] σ1 K) ∧ (v1 = nI 0 → K (some (.int (-2))) σ1)))) : Runs g 0 45 (d + 1) M_X2_many [.ref (eA g 0), .int x1] σ K := by
  refine Runs.of (by decide) (Nat.le_of_ble_eq_true rfl) ?_
  show WP g 0 45 (d + 1) M_X2_many 0 [(0, .ref (eA g 0)), (1, .int x1)] [] σ K
  refine wp_iload_n 1 dX2_many_0 rfl rfl ?_
  refine wp_callS [.int x1] [] wc_X2_isRegister wm_X2_40 ws_X2_isRegister wi_X2 ok_X2_isRegister (by decide) (Nat.le_of_ble_eq_true rfl) dX2_many_1 rfl h ?_
  rintro r1 σ1 ⟨v1, rfl, h⟩
  show WP g 0 45 (d + 1) M_X2_many 4 [(0, .ref (eA g 0)), (1, .int x1)] [.int v1] σ1 K
  refine wp_if_ne 10 dX2_many_4 (by decide) (fun c => ?_) (fun c => ?_)
  · replace h := h.1 c
    refine wp_iconst (nI 0) dX2_many_10 (by decide) ?_
    refine wp_istore_n (lv' := [(2, .int (nI 0)), (0, .ref (eA g 0)), (1, .int x1)]) dX2_many_11 rfl (by decide) rfl ?_
    refine wp_iconst (nI 0) dX2_many_12 (by decide) ?_
    refine wp_istore_n (lv' := [(3, .int (nI 0)), (2, .int (nI 0)), (0, .ref (eA g 0)), (1, .int x1)]) dX2_many_13 rfl (by decide) rfl ?_
    exact wp_sub [2, 3, 1, 0] rfl h
  · replace h := h.2 c
    refine wp_bipush (-2) dX2_many_7 (by decide) ?_
    exact wp_iret rfl dX2_many_9 h
set_option maxRecDepth 100000 in
set_option maxHeartbeats 4000000 in
theorem R_X2_many_14 (g : Ev) (d : Nat) (x1 : Int32) (x2 : Int32) (x3 : Int32) (σ : St) (K : Option Value → St → Prop) (h : (((sV σ 2) ≤ x3 → K (some (.int x2)) σ) ∧ (¬ (sV σ 2) ≤ x3 → vp_in x1 34 ∧ vp_in x3 (lenJ (11 + x1.toNatClampNeg)) ∧ Runs g 0 45 d M_J13_bitCount_95d88 [.long (sL σ (11 + x1.toNatClampNeg) x3.toNatClampNeg)] σ (fun r1 σ1 => ∃ v1 : Int32, r1 = some (.int v1) ∧ WP g 0 45 (d + 1) M_X2_many 14 [(0, .ref (eA g 0)), (1, .int x1), (2, .int (x2 + v1)), (3, .int (x3 + (nI 1)))] [] σ1 K)))) : WP g 0 45 (d + 1) M_X2_many 14 [(0, .ref (eA g 0)), (1, .int x1), (2, .int x2), (3, .int x3)] [] σ K := by
  refine wp_iload_n 3 dX2_many_14 rfl rfl ?_
  refine wp_aload_n 0 dX2_many_15 rfl rfl ?_
  refine wp_get 0 1 8 (by decide) (by decide) rfl rfl inG2 (by decide) wf_X2_44 rfl dX2_many_16 ?_
  refine wp_icmp_ge 42 dX2_many_19 (by decide) (fun c => ?_) (fun c => ?_)
  · replace h := h.1 c
    refine wp_iload_n 2 dX2_many_42 rfl rfl ?_
    exact wp_iret rfl dX2_many_43 h
  · replace h := h.2 c
    refine wp_iload_n 2 dX2_many_22 rfl rfl ?_
    refine wp_aload_n 0 dX2_many_23 rfl rfl ?_
    refine wp_get 0 1 0 (by decide) (by decide) rfl rfl inG2 (by decide) wf_X2_13 rfl dX2_many_24 ?_
    refine wp_iload_n 1 dX2_many_27 rfl rfl ?_
    refine wp_aald (by decide) (by decide) dX2_many_28 h.1 ?_
    replace h := h.2
    refine wp_iload_n 3 dX2_many_29 rfl rfl ?_
    refine wp_lald (Nat.zero_le _) (lenJ_hi h.1) dX2_many_30 h.1 ?_
    replace h := h.2
    refine wp_callS [.long (sL σ (11 + x1.toNatClampNeg) x3.toNatClampNeg)] [.int x2] wc_J13_bitCount_95d88 wm_X2_154 ws_J13_bitCount_95d88 wi_J13 ok_J13_bitCount_95d88 (by decide) (Nat.le_of_ble_eq_true rfl) dX2_many_31 rfl h ?_
    rintro r1 σ1 ⟨v1, rfl, h⟩
    show WP g 0 45 (d + 1) M_X2_many 34 [(0, .ref (eA g 0)), (1, .int x1), (2, .int x2), (3, .int x3)] [.int v1, .int x2] σ1 K
    refine wp_iadd dX2_many_34 ?_
    refine wp_istore_n (lv' := [(2, .int (x2 + v1)), (0, .ref (eA g 0)), (1, .int x1), (3, .int x3)]) dX2_many_35 rfl (by decide) rfl ?_
    refine wp_iinc 3 (nI 1) (lv' := [(3, .int (x3 + (nI 1))), (2, .int (x2 + v1)), (0, .ref (eA g 0)), (1, .int x1)]) dX2_many_36 (by decide) rfl (by decide) rfl ?_
    refine wp_goto 14 dX2_many_39 (by decide) ?_
    exact wp_sub [2, 3, 1, 0] rfl h
set_option maxRecDepth 100000 in
set_option maxHeartbeats 4000000 in
theorem E_X2_pick (g : Ev) (d : Nat) (x1 : Int32) (x2 : Int32) (σ : St) (K : Option Value → St → Prop) (h : Runs g 0 45 d M_X2_isRegister [.int x1] σ (fun r1 σ1 => ∃ v1 : Int32, r1 = some (.int v1) ∧ ((¬ v1 = nI 0 → ((nI 0 ≤ x2 → Runs g 0 45 d M_X2_listBits [.ref (eA g 0), .ref (eA g 4)] σ1 (fun r2 σ2 => r2 = none ∧ WP g 0 45 (d + 1) M_X2_pick 29 [(0, .ref (eA g 0)), (1, .int x1), (2, .int x2), (3, .int (nI 0)), (4, .int (nI 0))] [] σ2 K)) ∧ (¬ nI 0 ≤ x2 → K (some (.int (-1))) σ1))) ∧ (v1 = nI 0 → K (some (.int (-2))) σ1)))) : Runs g 0 45 (d + 1) M_X2_pick [.ref (eA g 0), .int x1, .int x2] σ K := by
  refine Runs.of (by decide) (Nat.le_of_ble_eq_true rfl) ?_
  show WP g 0 45 (d + 1) M_X2_pick 0 [(0, .ref (eA g 0)), (1, .int x1), (2, .int x2)] [] σ K
  refine wp_iload_n 1 dX2_pick_0 rfl rfl ?_
  refine wp_callS [.int x1] [] wc_X2_isRegister wm_X2_40 ws_X2_isRegister wi_X2 ok_X2_isRegister (by decide) (Nat.le_of_ble_eq_true rfl) dX2_pick_1 rfl h ?_
  rintro r1 σ1 ⟨v1, rfl, h⟩
  show WP g 0 45 (d + 1) M_X2_pick 4 [(0, .ref (eA g 0)), (1, .int x1), (2, .int x2)] [.int v1] σ1 K
  refine wp_if_ne 10 dX2_pick_4 (by decide) (fun c => ?_) (fun c => ?_)
  · replace h := h.1 c
    refine wp_iload_n 2 dX2_pick_10 rfl rfl ?_
    refine wp_if_ge 16 dX2_pick_11 (by decide) (fun c => ?_) (fun c => ?_)
    · replace h := h.1 c
      refine wp_aload_n 0 dX2_pick_16 rfl rfl ?_
      refine wp_aload_n 0 dX2_pick_17 rfl rfl ?_
      refine wp_get 0 1 3 (by decide) (by decide) rfl rfl inG2 (by decide) wf_X2_23 rfl dX2_pick_18 ?_
      refine wp_callV [.ref (eA g 4)] [] 0 1 (by decide) (by decide) rfl rfl wc_X2_listBits wm_X2_160 ws_X2_listBits we_X2_listBits wi_X2 ok_X2_listBits (by decide) (Nat.le_of_ble_eq_true rfl) dX2_pick_21 rfl h ?_
      rintro r2 σ2 ⟨rfl, h⟩
      show WP g 0 45 (d + 1) M_X2_pick 24 [(0, .ref (eA g 0)), (1, .int x1), (2, .int x2)] [] σ2 K
      refine wp_iconst (nI 0) dX2_pick_24 (by decide) ?_
      refine wp_istore_n (lv' := [(3, .int (nI 0)), (0, .ref (eA g 0)), (1, .int x1), (2, .int x2)]) dX2_pick_25 rfl (by decide) rfl ?_
      refine wp_iconst (nI 0) dX2_pick_26 (by decide) ?_
      refine wp_istore (lv' := [(4, .int (nI 0)), (3, .int (nI 0)), (0, .ref (eA g 0)), (1, .int x1), (2, .int x2)]) dX2_pick_27 (by decide) rfl ?_
      exact wp_sub [2, 3, 4, 1, 0] rfl h
    · replace h := h.2 c
      refine wp_iconst (-1) dX2_pick_14 (by decide) ?_
      exact wp_iret rfl dX2_pick_15 h
  · replace h := h.2 c
    refine wp_bipush (-2) dX2_pick_7 (by decide) ?_
    exact wp_iret rfl dX2_pick_9 h
set_option maxRecDepth 100000 in
set_option maxHeartbeats 4000000 in
theorem R_X2_pick_29 (g : Ev) (d : Nat) (x1 : Int32) (x2 : Int32) (x3 : Int32) (x4 : Int32) (σ : St) (K : Option Value → St → Prop) (h : (((jshl (nI 1) (sV σ 0)) ≤ x4 → K (some (.int (-1))) σ) ∧ (¬ (jshl (nI 1) (sV σ 0)) ≤ x4 → vp_in x1 34 ∧ vp_in x4 (lenI 4) ∧ Runs g 0 45 d M_X0_has [.ref (eA g (11 + x1.toNatClampNeg)), .int (sI σ 4 x4.toNatClampNeg)] σ (fun r1 σ1 => ∃ v1 : Int32, r1 = some (.int v1) ∧ ((v1 = nI 0 → WP g 0 45 (d + 1) M_X2_pick 29 [(0, .ref (eA g 0)), (1, .int x1), (2, .int x2), (3, .int x3), (4, .int (x4 + (nI 1)))] [] σ1 K) ∧ (¬ v1 = nI 0 → ((¬ x3 = x2 → WP g 0 45 (d + 1) M_X2_pick 29 [(0, .ref (eA g 0)), (1, .int x1), (2, .int x2), (3, .int (x3 + (nI 1))), (4, .int (x4 + (nI 1)))] [] σ1 K) ∧ (x3 = x2 → K (some (.int x4)) σ1)))))))) : WP g 0 45 (d + 1) M_X2_pick 29 [(0, .ref (eA g 0)), (1, .int x1), (2, .int x2), (3, .int x3), (4, .int x4)] [] σ K := by
  refine wp_iload 4 dX2_pick_29 rfl ?_
  refine wp_iconst (nI 1) dX2_pick_31 (by decide) ?_
  refine wp_aload_n 0 dX2_pick_32 rfl rfl ?_
  refine wp_get 0 1 6 (by decide) (by decide) rfl rfl inG2 (by decide) wf_X2_94 rfl dX2_pick_33 ?_
  refine wp_ishl dX2_pick_36 ?_
  refine wp_icmp_ge 76 dX2_pick_37 (by decide) (fun c => ?_) (fun c => ?_)
  · replace h := h.1 c
    refine wp_iconst (-1) dX2_pick_76 (by decide) ?_
    exact wp_iret rfl dX2_pick_77 h
  · replace h := h.2 c
    refine wp_aload_n 0 dX2_pick_40 rfl rfl ?_
    refine wp_get 0 1 0 (by decide) (by decide) rfl rfl inG2 (by decide) wf_X2_13 rfl dX2_pick_41 ?_
    refine wp_iload_n 1 dX2_pick_44 rfl rfl ?_
    refine wp_aald (by decide) (by decide) dX2_pick_45 h.1 ?_
    replace h := h.2
    refine wp_aload_n 0 dX2_pick_46 rfl rfl ?_
    refine wp_get 0 1 3 (by decide) (by decide) rfl rfl inG2 (by decide) wf_X2_23 rfl dX2_pick_47 ?_
    refine wp_iload 4 dX2_pick_50 rfl ?_
    refine wp_iald (by decide) (by decide) dX2_pick_52 h.1 ?_
    replace h := h.2
    refine wp_callSN [.ref (eA g (11 + x1.toNatClampNeg)), .int (sI σ 4 x4.toNatClampNeg)] [] wc_X0_has wn_X2_113 ws_X0_has wi_X0 ok_X0_has (by decide) (Nat.le_of_ble_eq_true rfl) dX2_pick_53 rfl h ?_
    rintro r1 σ1 ⟨v1, rfl, h⟩
    show WP g 0 45 (d + 1) M_X2_pick 56 [(0, .ref (eA g 0)), (1, .int x1), (2, .int x2), (3, .int x3), (4, .int x4)] [.int v1] σ1 K
    refine wp_if_eq 70 dX2_pick_56 (by decide) (fun c => ?_) (fun c => ?_)
    · replace h := h.1 c
      refine wp_iinc 4 (nI 1) (lv' := [(4, .int (x4 + (nI 1))), (0, .ref (eA g 0)), (1, .int x1), (2, .int x2), (3, .int x3)]) dX2_pick_70 (by decide) rfl (by decide) rfl ?_
      refine wp_goto 29 dX2_pick_73 (by decide) ?_
      exact wp_sub [1, 2, 3, 4, 0] rfl h
    · replace h := h.2 c
      refine wp_iload_n 3 dX2_pick_59 rfl rfl ?_
      refine wp_iload_n 2 dX2_pick_60 rfl rfl ?_
      refine wp_icmp_ne 67 dX2_pick_61 (by decide) (fun c => ?_) (fun c => ?_)
      · replace h := h.1 c
        refine wp_iinc 3 (nI 1) (lv' := [(3, .int (x3 + (nI 1))), (0, .ref (eA g 0)), (1, .int x1), (2, .int x2), (4, .int x4)]) dX2_pick_67 (by decide) rfl (by decide) rfl ?_
        refine wp_iinc 4 (nI 1) (lv' := [(4, .int (x4 + (nI 1))), (3, .int (x3 + (nI 1))), (0, .ref (eA g 0)), (1, .int x1), (2, .int x2)]) dX2_pick_70 (by decide) rfl (by decide) rfl ?_
        refine wp_goto 29 dX2_pick_73 (by decide) ?_
        exact wp_sub [2, 3, 4, 1, 0] rfl h
      · replace h := h.2 c
        refine wp_iload 4 dX2_pick_64 rfl ?_
        exact wp_iret rfl dX2_pick_66 h
set_option maxRecDepth 100000 in
set_option maxHeartbeats 4000000 in
theorem E_X2_cheapest (g : Ev) (d : Nat) (x1 : Int32) (σ : St) (K : Option Value → St → Prop) (h : Runs g 0 45 d M_X2_isRegister [.int x1] σ (fun r1 σ1 => ∃ v1 : Int32, r1 = some (.int v1) ∧ ((¬ v1 = nI 0 → Runs g 0 45 d M_X2_listBits [.ref (eA g 0), .ref (eA g 4)] σ1 (fun r2 σ2 => r2 = none ∧ Runs g 0 45 d M_X2_listCosts [.ref (eA g 0), .ref (eA g 5)] σ2 (fun r3 σ3 => r3 = none ∧ WP g 0 45 (d + 1) M_X2_cheapest 30 [(0, .ref (eA g 0)), (1, .int x1), (2, .int (-1)), (3, .int (nI 0))] [] σ3 K))) ∧ (v1 = nI 0 → K (some (.int (-2))) σ1)))) : Runs g 0 45 (d + 1) M_X2_cheapest [.ref (eA g 0), .int x1] σ K := by
  refine Runs.of (by decide) (Nat.le_of_ble_eq_true rfl) ?_
  show WP g 0 45 (d + 1) M_X2_cheapest 0 [(0, .ref (eA g 0)), (1, .int x1)] [] σ K
  refine wp_iload_n 1 dX2_cheapest_0 rfl rfl ?_
  refine wp_callS [.int x1] [] wc_X2_isRegister wm_X2_40 ws_X2_isRegister wi_X2 ok_X2_isRegister (by decide) (Nat.le_of_ble_eq_true rfl) dX2_cheapest_1 rfl h ?_
  rintro r1 σ1 ⟨v1, rfl, h⟩
  show WP g 0 45 (d + 1) M_X2_cheapest 4 [(0, .ref (eA g 0)), (1, .int x1)] [.int v1] σ1 K
  refine wp_if_ne 10 dX2_cheapest_4 (by decide) (fun c => ?_) (fun c => ?_)
  · replace h := h.1 c
    refine wp_aload_n 0 dX2_cheapest_10 rfl rfl ?_
    refine wp_aload_n 0 dX2_cheapest_11 rfl rfl ?_
    refine wp_get 0 1 3 (by decide) (by decide) rfl rfl inG2 (by decide) wf_X2_23 rfl dX2_cheapest_12 ?_
    refine wp_callV [.ref (eA g 4)] [] 0 1 (by decide) (by decide) rfl rfl wc_X2_listBits wm_X2_160 ws_X2_listBits we_X2_listBits wi_X2 ok_X2_listBits (by decide) (Nat.le_of_ble_eq_true rfl) dX2_cheapest_15 rfl h ?_
    rintro r2 σ2 ⟨rfl, h⟩
    show WP g 0 45 (d + 1) M_X2_cheapest 18 [(0, .ref (eA g 0)), (1, .int x1)] [] σ2 K
    refine wp_aload_n 0 dX2_cheapest_18 rfl rfl ?_
    refine wp_aload_n 0 dX2_cheapest_19 rfl rfl ?_
    refine wp_get 0 1 4 (by decide) (by decide) rfl rfl inG2 (by decide) wf_X2_26 rfl dX2_cheapest_20 ?_
    refine wp_callV [.ref (eA g 5)] [] 0 1 (by decide) (by decide) rfl rfl wc_X2_listCosts wm_X2_164 ws_X2_listCosts we_X2_listCosts wi_X2 ok_X2_listCosts (by decide) (Nat.le_of_ble_eq_true rfl) dX2_cheapest_23 rfl h ?_
    rintro r3 σ3 ⟨rfl, h⟩
    show WP g 0 45 (d + 1) M_X2_cheapest 26 [(0, .ref (eA g 0)), (1, .int x1)] [] σ3 K
    refine wp_iconst (-1) dX2_cheapest_26 (by decide) ?_
    refine wp_istore_n (lv' := [(2, .int (-1)), (0, .ref (eA g 0)), (1, .int x1)]) dX2_cheapest_27 rfl (by decide) rfl ?_
    refine wp_iconst (nI 0) dX2_cheapest_28 (by decide) ?_
    refine wp_istore_n (lv' := [(3, .int (nI 0)), (2, .int (-1)), (0, .ref (eA g 0)), (1, .int x1)]) dX2_cheapest_29 rfl (by decide) rfl ?_
    exact wp_sub [2, 3, 1, 0] rfl h
  · replace h := h.2 c
    refine wp_bipush (-2) dX2_cheapest_7 (by decide) ?_
    exact wp_iret rfl dX2_cheapest_9 h
set_option maxRecDepth 100000 in
set_option maxHeartbeats 4000000 in
theorem R_X2_cheapest_30 (g : Ev) (d : Nat) (x1 : Int32) (x2 : Int32) (x3 : Int32) (σ : St) (K : Option Value → St → Prop) (h : (((jshl (nI 1) (sV σ 0)) ≤ x3 → K (some (.int x2)) σ) ∧ (¬ (jshl (nI 1) (sV σ 0)) ≤ x3 → vp_in x1 34 ∧ vp_in x3 (lenI 4) ∧ Runs g 0 45 d M_X0_has [.ref (eA g (11 + x1.toNatClampNeg)), .int (sI σ 4 x3.toNatClampNeg)] σ (fun r1 σ1 => ∃ v1 : Int32, r1 = some (.int v1) ∧ ((v1 = nI 0 → WP g 0 45 (d + 1) M_X2_cheapest 30 [(0, .ref (eA g 0)), (1, .int x1), (2, .int x2), (3, .int (x3 + (nI 1)))] [] σ1 K) ∧ (¬ v1 = nI 0 → ((x2 = (-1) → WP g 0 45 (d + 1) M_X2_cheapest 30 [(0, .ref (eA g 0)), (1, .int x1), (2, .int x3), (3, .int (x3 + (nI 1)))] [] σ1 K) ∧ (¬ x2 = (-1) → vp_in x3 (lenI 5) ∧ vp_in x2 (lenI 5) ∧ (((sI σ1 5 x2.toNatClampNeg) ≤ (sI σ1 5 x3.toNatClampNeg) → WP g 0 45 (d + 1) M_X2_cheapest 30 [(0, .ref (eA g 0)), (1, .int x1), (2, .int x2), (3, .int (x3 + (nI 1)))] [] σ1 K) ∧ (¬ (sI σ1 5 x2.toNatClampNeg) ≤ (sI σ1 5 x3.toNatClampNeg) → WP g 0 45 (d + 1) M_X2_cheapest 30 [(0, .ref (eA g 0)), (1, .int x1), (2, .int x3), (3, .int (x3 + (nI 1)))] [] σ1 K)))))))))) : WP g 0 45 (d + 1) M_X2_cheapest 30 [(0, .ref (eA g 0)), (1, .int x1), (2, .int x2), (3, .int x3)] [] σ K := by
  refine wp_iload_n 3 dX2_cheapest_30 rfl rfl ?_
  refine wp_iconst (nI 1) dX2_cheapest_31 (by decide) ?_
  refine wp_aload_n 0 dX2_cheapest_32 rfl rfl ?_
  refine wp_get 0 1 6 (by decide) (by decide) rfl rfl inG2 (by decide) wf_X2_94 rfl dX2_cheapest_33 ?_
  refine wp_ishl dX2_cheapest_36 ?_
  refine wp_icmp_ge 86 dX2_cheapest_37 (by decide) (fun c => ?_) (fun c => ?_)
  · replace h := h.1 c
    refine wp_iload_n 2 dX2_cheapest_86 rfl rfl ?_
    exact wp_iret rfl dX2_cheapest_87 h
  · replace h := h.2 c
    refine wp_aload_n 0 dX2_cheapest_40 rfl rfl ?_
    refine wp_get 0 1 0 (by decide) (by decide) rfl rfl inG2 (by decide) wf_X2_13 rfl dX2_cheapest_41 ?_
    refine wp_iload_n 1 dX2_cheapest_44 rfl rfl ?_
    refine wp_aald (by decide) (by decide) dX2_cheapest_45 h.1 ?_
    replace h := h.2
    refine wp_aload_n 0 dX2_cheapest_46 rfl rfl ?_
    refine wp_get 0 1 3 (by decide) (by decide) rfl rfl inG2 (by decide) wf_X2_23 rfl dX2_cheapest_47 ?_
    refine wp_iload_n 3 dX2_cheapest_50 rfl rfl ?_
    refine wp_iald (by decide) (by decide) dX2_cheapest_51 h.1 ?_
    replace h := h.2
    refine wp_callSN [.ref (eA g (11 + x1.toNatClampNeg)), .int (sI σ 4 x3.toNatClampNeg)] [] wc_X0_has wn_X2_113 ws_X0_has wi_X0 ok_X0_has (by decide) (Nat.le_of_ble_eq_true rfl) dX2_cheapest_52 rfl h ?_
    rintro r1 σ1 ⟨v1, rfl, h⟩
    show WP g 0 45 (d + 1) M_X2_cheapest 55 [(0, .ref (eA g 0)), (1, .int x1), (2, .int x2), (3, .int x3)] [.int v1] σ1 K
    refine wp_if_eq 80 dX2_cheapest_55 (by decide) (fun c => ?_) (fun c => ?_)
    · replace h := h.1 c
      refine wp_iinc 3 (nI 1) (lv' := [(3, .int (x3 + (nI 1))), (0, .ref (eA g 0)), (1, .int x1), (2, .int x2)]) dX2_cheapest_80 (by decide) rfl (by decide) rfl ?_
      refine wp_goto 30 dX2_cheapest_83 (by decide) ?_
      exact wp_sub [1, 2, 3, 0] rfl h
    · replace h := h.2 c
      refine wp_iload_n 2 dX2_cheapest_58 rfl rfl ?_
      refine wp_iconst (-1) dX2_cheapest_59 (by decide) ?_
      refine wp_icmp_eq 78 dX2_cheapest_60 (by decide) (fun c => ?_) (fun c => ?_)
      · replace h := h.1 c
        refine wp_iload_n 3 dX2_cheapest_78 rfl rfl ?_
        refine wp_istore_n (lv' := [(2, .int x3), (0, .ref (eA g 0)), (1, .int x1), (3, .int x3)]) dX2_cheapest_79 rfl (by decide) rfl ?_
        refine wp_iinc 3 (nI 1) (lv' := [(3, .int (x3 + (nI 1))), (2, .int x3), (0, .ref (eA g 0)), (1, .int x1)]) dX2_cheapest_80 (by decide) rfl (by decide) rfl ?_
        refine wp_goto 30 dX2_cheapest_83 (by decide) ?_
        exact wp_sub [2, 3, 1, 0] rfl h
      · replace h := h.2 c
        refine wp_aload_n 0 dX2_cheapest_63 rfl rfl ?_
        refine wp_get 0 1 4 (by decide) (by decide) rfl rfl inG2 (by decide) wf_X2_26 rfl dX2_cheapest_64 ?_
        refine wp_iload_n 3 dX2_cheapest_67 rfl rfl ?_
        refine wp_iald (by decide) (by decide) dX2_cheapest_68 h.1 ?_
        replace h := h.2
        refine wp_aload_n 0 dX2_cheapest_69 rfl rfl ?_
        refine wp_get 0 1 4 (by decide) (by decide) rfl rfl inG2 (by decide) wf_X2_26 rfl dX2_cheapest_70 ?_
        refine wp_iload_n 2 dX2_cheapest_73 rfl rfl ?_
        refine wp_iald (by decide) (by decide) dX2_cheapest_74 h.1 ?_
        replace h := h.2
        refine wp_icmp_ge 80 dX2_cheapest_75 (by decide) (fun c => ?_) (fun c => ?_)
        · replace h := h.1 c
          refine wp_iinc 3 (nI 1) (lv' := [(3, .int (x3 + (nI 1))), (0, .ref (eA g 0)), (1, .int x1), (2, .int x2)]) dX2_cheapest_80 (by decide) rfl (by decide) rfl ?_
          refine wp_goto 30 dX2_cheapest_83 (by decide) ?_
          exact wp_sub [1, 2, 3, 0] rfl h
        · replace h := h.2 c
          refine wp_iload_n 3 dX2_cheapest_78 rfl rfl ?_
          refine wp_istore_n (lv' := [(2, .int x3), (0, .ref (eA g 0)), (1, .int x1), (3, .int x3)]) dX2_cheapest_79 rfl (by decide) rfl ?_
          refine wp_iinc 3 (nI 1) (lv' := [(3, .int (x3 + (nI 1))), (2, .int x3), (0, .ref (eA g 0)), (1, .int x1)]) dX2_cheapest_80 (by decide) rfl (by decide) rfl ?_
          refine wp_goto 30 dX2_cheapest_83 (by decide) ?_
          exact wp_sub [2, 3, 1, 0] rfl h
set_option maxRecDepth 100000 in
set_option maxHeartbeats 4000000 in
theorem E_X2_dearest (g : Ev) (d : Nat) (x1 : Int32) (σ : St) (K : Option Value → St → Prop) (h : Runs g 0 45 d M_X2_isRegister [.int x1] σ (fun r1 σ1 => ∃ v1 : Int32, r1 = some (.int v1) ∧ ((¬ v1 = nI 0 → Runs g 0 45 d M_X2_listBits [.ref (eA g 0), .ref (eA g 4)] σ1 (fun r2 σ2 => r2 = none ∧ Runs g 0 45 d M_X2_listCosts [.ref (eA g 0), .ref (eA g 5)] σ2 (fun r3 σ3 => r3 = none ∧ WP g 0 45 (d + 1) M_X2_dearest 30 [(0, .ref (eA g 0)), (1, .int x1), (2, .int (-1)), (3, .int (nI 0))] [] σ3 K))) ∧ (v1 = nI 0 → K (some (.int (-2))) σ1)))) : Runs g 0 45 (d + 1) M_X2_dearest [.ref (eA g 0), .int x1] σ K := by
  refine Runs.of (by decide) (Nat.le_of_ble_eq_true rfl) ?_
  show WP g 0 45 (d + 1) M_X2_dearest 0 [(0, .ref (eA g 0)), (1, .int x1)] [] σ K
  refine wp_iload_n 1 dX2_dearest_0 rfl rfl ?_
  refine wp_callS [.int x1] [] wc_X2_isRegister wm_X2_40 ws_X2_isRegister wi_X2 ok_X2_isRegister (by decide) (Nat.le_of_ble_eq_true rfl) dX2_dearest_1 rfl h ?_
  rintro r1 σ1 ⟨v1, rfl, h⟩
  show WP g 0 45 (d + 1) M_X2_dearest 4 [(0, .ref (eA g 0)), (1, .int x1)] [.int v1] σ1 K
  refine wp_if_ne 10 dX2_dearest_4 (by decide) (fun c => ?_) (fun c => ?_)
  · replace h := h.1 c
    refine wp_aload_n 0 dX2_dearest_10 rfl rfl ?_
    refine wp_aload_n 0 dX2_dearest_11 rfl rfl ?_
    refine wp_get 0 1 3 (by decide) (by decide) rfl rfl inG2 (by decide) wf_X2_23 rfl dX2_dearest_12 ?_
    refine wp_callV [.ref (eA g 4)] [] 0 1 (by decide) (by decide) rfl rfl wc_X2_listBits wm_X2_160 ws_X2_listBits we_X2_listBits wi_X2 ok_X2_listBits (by decide) (Nat.le_of_ble_eq_true rfl) dX2_dearest_15 rfl h ?_
    rintro r2 σ2 ⟨rfl, h⟩
    show WP g 0 45 (d + 1) M_X2_dearest 18 [(0, .ref (eA g 0)), (1, .int x1)] [] σ2 K
    refine wp_aload_n 0 dX2_dearest_18 rfl rfl ?_
    refine wp_aload_n 0 dX2_dearest_19 rfl rfl ?_
    refine wp_get 0 1 4 (by decide) (by decide) rfl rfl inG2 (by decide) wf_X2_26 rfl dX2_dearest_20 ?_
    refine wp_callV [.ref (eA g 5)] [] 0 1 (by decide) (by decide) rfl rfl wc_X2_listCosts wm_X2_164 ws_X2_listCosts we_X2_listCosts wi_X2 ok_X2_listCosts (by decide) (Nat.le_of_ble_eq_true rfl) dX2_dearest_23 rfl h ?_
    rintro r3 σ3 ⟨rfl, h⟩
    show WP g 0 45 (d + 1) M_X2_dearest 26 [(0, .ref (eA g 0)), (1, .int x1)] [] σ3 K
    refine wp_iconst (-1) dX2_dearest_26 (by decide) ?_
    refine wp_istore_n (lv' := [(2, .int (-1)), (0, .ref (eA g 0)), (1, .int x1)]) dX2_dearest_27 rfl (by decide) rfl ?_
    refine wp_iconst (nI 0) dX2_dearest_28 (by decide) ?_
    refine wp_istore_n (lv' := [(3, .int (nI 0)), (2, .int (-1)), (0, .ref (eA g 0)), (1, .int x1)]) dX2_dearest_29 rfl (by decide) rfl ?_
    exact wp_sub [2, 3, 1, 0] rfl h
  · replace h := h.2 c
    refine wp_bipush (-2) dX2_dearest_7 (by decide) ?_
    exact wp_iret rfl dX2_dearest_9 h
set_option maxRecDepth 100000 in
set_option maxHeartbeats 4000000 in
theorem R_X2_dearest_30 (g : Ev) (d : Nat) (x1 : Int32) (x2 : Int32) (x3 : Int32) (σ : St) (K : Option Value → St → Prop) (h : (((jshl (nI 1) (sV σ 0)) ≤ x3 → K (some (.int x2)) σ) ∧ (¬ (jshl (nI 1) (sV σ 0)) ≤ x3 → vp_in x1 34 ∧ vp_in x3 (lenI 4) ∧ Runs g 0 45 d M_X0_has [.ref (eA g (11 + x1.toNatClampNeg)), .int (sI σ 4 x3.toNatClampNeg)] σ (fun r1 σ1 => ∃ v1 : Int32, r1 = some (.int v1) ∧ ((v1 = nI 0 → WP g 0 45 (d + 1) M_X2_dearest 30 [(0, .ref (eA g 0)), (1, .int x1), (2, .int x2), (3, .int (x3 + (nI 1)))] [] σ1 K) ∧ (¬ v1 = nI 0 → vp_in x3 (lenI 5) ∧ WP g 0 45 (d + 1) M_X2_dearest 30 [(0, .ref (eA g 0)), (1, .int x1), (2, .int (if x2 < (sI σ1 5 x3.toNatClampNeg) then (sI σ1 5 x3.toNatClampNeg) else x2)), (3, .int (x3 + (nI 1)))] [] σ1 K)))))) : WP g 0 45 (d + 1) M_X2_dearest 30 [(0, .ref (eA g 0)), (1, .int x1), (2, .int x2), (3, .int x3)] [] σ K := by
  refine wp_iload_n 3 dX2_dearest_30 rfl rfl ?_
  refine wp_iconst (nI 1) dX2_dearest_31 (by decide) ?_
  refine wp_aload_n 0 dX2_dearest_32 rfl rfl ?_
  refine wp_get 0 1 6 (by decide) (by decide) rfl rfl inG2 (by decide) wf_X2_94 rfl dX2_dearest_33 ?_
  refine wp_ishl dX2_dearest_36 ?_
  refine wp_icmp_ge 75 dX2_dearest_37 (by decide) (fun c => ?_) (fun c => ?_)
  · replace h := h.1 c
    refine wp_iload_n 2 dX2_dearest_75 rfl rfl ?_
    exact wp_iret rfl dX2_dearest_76 h
  · replace h := h.2 c
    refine wp_aload_n 0 dX2_dearest_40 rfl rfl ?_
    refine wp_get 0 1 0 (by decide) (by decide) rfl rfl inG2 (by decide) wf_X2_13 rfl dX2_dearest_41 ?_
    refine wp_iload_n 1 dX2_dearest_44 rfl rfl ?_
    refine wp_aald (by decide) (by decide) dX2_dearest_45 h.1 ?_
    replace h := h.2
    refine wp_aload_n 0 dX2_dearest_46 rfl rfl ?_
    refine wp_get 0 1 3 (by decide) (by decide) rfl rfl inG2 (by decide) wf_X2_23 rfl dX2_dearest_47 ?_
    refine wp_iload_n 3 dX2_dearest_50 rfl rfl ?_
    refine wp_iald (by decide) (by decide) dX2_dearest_51 h.1 ?_
    replace h := h.2
    refine wp_callSN [.ref (eA g (11 + x1.toNatClampNeg)), .int (sI σ 4 x3.toNatClampNeg)] [] wc_X0_has wn_X2_113 ws_X0_has wi_X0 ok_X0_has (by decide) (Nat.le_of_ble_eq_true rfl) dX2_dearest_52 rfl h ?_
    rintro r1 σ1 ⟨v1, rfl, h⟩
    show WP g 0 45 (d + 1) M_X2_dearest 55 [(0, .ref (eA g 0)), (1, .int x1), (2, .int x2), (3, .int x3)] [.int v1] σ1 K
    refine wp_if_eq 69 dX2_dearest_55 (by decide) (fun c => ?_) (fun c => ?_)
    · replace h := h.1 c
      refine wp_iinc 3 (nI 1) (lv' := [(3, .int (x3 + (nI 1))), (0, .ref (eA g 0)), (1, .int x1), (2, .int x2)]) dX2_dearest_69 (by decide) rfl (by decide) rfl ?_
      refine wp_goto 30 dX2_dearest_72 (by decide) ?_
      exact wp_sub [1, 2, 3, 0] rfl h
    · replace h := h.2 c
      refine wp_iload_n 2 dX2_dearest_58 rfl rfl ?_
      refine wp_aload_n 0 dX2_dearest_59 rfl rfl ?_
      refine wp_get 0 1 4 (by decide) (by decide) rfl rfl inG2 (by decide) wf_X2_26 rfl dX2_dearest_60 ?_
      refine wp_iload_n 3 dX2_dearest_63 rfl rfl ?_
      refine wp_iald (by decide) (by decide) dX2_dearest_64 h.1 ?_
      replace h := h.2
      refine wp_mmax wm_X2_167 ws_Math_max wi_Math wc_Math_max (Nat.le_of_ble_eq_true rfl) dX2_dearest_65 ?_
      refine wp_istore_n (lv' := [(2, .int (if x2 < (sI σ1 5 x3.toNatClampNeg) then (sI σ1 5 x3.toNatClampNeg) else x2)), (0, .ref (eA g 0)), (1, .int x1), (3, .int x3)]) dX2_dearest_68 rfl (by decide) rfl ?_
      refine wp_iinc 3 (nI 1) (lv' := [(3, .int (x3 + (nI 1))), (2, .int (if x2 < (sI σ1 5 x3.toNatClampNeg) then (sI σ1 5 x3.toNatClampNeg) else x2)), (0, .ref (eA g 0)), (1, .int x1)]) dX2_dearest_69 (by decide) rfl (by decide) rfl ?_
      refine wp_goto 30 dX2_dearest_72 (by decide) ?_
      exact wp_sub [2, 3, 1, 0] rfl h
set_option maxRecDepth 100000 in
set_option maxHeartbeats 4000000 in
theorem E_X2_letters (g : Ev) (d : Nat) (x1 : Int32) (σ : St) (K : Option Value → St → Prop) (h : Runs g 0 45 d M_X2_isRegister [.int x1] σ (fun r1 σ1 => ∃ v1 : Int32, r1 = some (.int v1) ∧ ((¬ v1 = nI 0 → WP g 0 45 (d + 1) M_X2_letters 14 [(0, .ref (eA g 0)), (1, .int x1), (2, .int (nI 0)), (3, .int (nI 0))] [] σ1 K) ∧ (v1 = nI 0 → K (some (.int (-2))) σ1)))) : Runs g 0 45 (d + 1) M_X2_letters [.ref (eA g 0), .int x1] σ K := by
  refine Runs.of (by decide) (Nat.le_of_ble_eq_true rfl) ?_
  show WP g 0 45 (d + 1) M_X2_letters 0 [(0, .ref (eA g 0)), (1, .int x1)] [] σ K
  refine wp_iload_n 1 dX2_letters_0 rfl rfl ?_
  refine wp_callS [.int x1] [] wc_X2_isRegister wm_X2_40 ws_X2_isRegister wi_X2 ok_X2_isRegister (by decide) (Nat.le_of_ble_eq_true rfl) dX2_letters_1 rfl h ?_
  rintro r1 σ1 ⟨v1, rfl, h⟩
  show WP g 0 45 (d + 1) M_X2_letters 4 [(0, .ref (eA g 0)), (1, .int x1)] [.int v1] σ1 K
  refine wp_if_ne 10 dX2_letters_4 (by decide) (fun c => ?_) (fun c => ?_)
  · replace h := h.1 c
    refine wp_iconst (nI 0) dX2_letters_10 (by decide) ?_
    refine wp_istore_n (lv' := [(2, .int (nI 0)), (0, .ref (eA g 0)), (1, .int x1)]) dX2_letters_11 rfl (by decide) rfl ?_
    refine wp_iconst (nI 0) dX2_letters_12 (by decide) ?_
    refine wp_istore_n (lv' := [(3, .int (nI 0)), (2, .int (nI 0)), (0, .ref (eA g 0)), (1, .int x1)]) dX2_letters_13 rfl (by decide) rfl ?_
    exact wp_sub [2, 3, 1, 0] rfl h
  · replace h := h.2 c
    refine wp_bipush (-2) dX2_letters_7 (by decide) ?_
    exact wp_iret rfl dX2_letters_9 h
set_option maxRecDepth 100000 in
set_option maxHeartbeats 4000000 in
theorem R_X2_letters_14 (g : Ev) (d : Nat) (x1 : Int32) (x2 : Int32) (x3 : Int32) (σ : St) (K : Option Value → St → Prop) (h : (((sV σ 0) ≤ x3 → K (some (.int x2)) σ) ∧ (¬ (sV σ 0) ≤ x3 → vp_in x1 34 ∧ Runs g 0 45 d M_X2_placeOf [.ref (eA g 0), .int x3] σ (fun r1 σ1 => ∃ v1 : Int32, r1 = some (.int v1) ∧ Runs g 0 45 d M_X2_differsBy [.ref (eA g 0), .ref (eA g (11 + x1.toNatClampNeg)), .int v1] σ1 (fun r2 σ2 => ∃ v2 : Int32, r2 = some (.int v2) ∧ ((v2 = nI 0 → WP g 0 45 (d + 1) M_X2_letters 14 [(0, .ref (eA g 0)), (1, .int x1), (2, .int x2), (3, .int (x3 + (nI 1)))] [] σ2 K) ∧ (¬ v2 = nI 0 → WP g 0 45 (d + 1) M_X2_letters 14 [(0, .ref (eA g 0)), (1, .int x1), (2, .int (x2 ||| (jshl (nI 1) x3))), (3, .int (x3 + (nI 1)))] [] σ2 K))))))) : WP g 0 45 (d + 1) M_X2_letters 14 [(0, .ref (eA g 0)), (1, .int x1), (2, .int x2), (3, .int x3)] [] σ K := by
  refine wp_iload_n 3 dX2_letters_14 rfl rfl ?_
  refine wp_aload_n 0 dX2_letters_15 rfl rfl ?_
  refine wp_get 0 1 6 (by decide) (by decide) rfl rfl inG2 (by decide) wf_X2_94 rfl dX2_letters_16 ?_
  refine wp_icmp_ge 52 dX2_letters_19 (by decide) (fun c => ?_) (fun c => ?_)
  · replace h := h.1 c
    refine wp_iload_n 2 dX2_letters_52 rfl rfl ?_
    exact wp_iret rfl dX2_letters_53 h
  · replace h := h.2 c
    refine wp_aload_n 0 dX2_letters_22 rfl rfl ?_
    refine wp_aload_n 0 dX2_letters_23 rfl rfl ?_
    refine wp_get 0 1 0 (by decide) (by decide) rfl rfl inG2 (by decide) wf_X2_13 rfl dX2_letters_24 ?_
    refine wp_iload_n 1 dX2_letters_27 rfl rfl ?_
    refine wp_aald (by decide) (by decide) dX2_letters_28 h.1 ?_
    replace h := h.2
    refine wp_aload_n 0 dX2_letters_29 rfl rfl ?_
    refine wp_iload_n 3 dX2_letters_30 rfl rfl ?_
    refine wp_callV [.int x3] [.ref (eA g (11 + x1.toNatClampNeg)), .ref (eA g 0)] 0 1 (by decide) (by decide) rfl rfl wc_X2_placeOf wm_X2_64 ws_X2_placeOf we_X2_placeOf wi_X2 ok_X2_placeOf (by decide) (Nat.le_of_ble_eq_true rfl) dX2_letters_31 rfl h ?_
    rintro r1 σ1 ⟨v1, rfl, h⟩
    show WP g 0 45 (d + 1) M_X2_letters 34 [(0, .ref (eA g 0)), (1, .int x1), (2, .int x2), (3, .int x3)] [.int v1, .ref (eA g (11 + x1.toNatClampNeg)), .ref (eA g 0)] σ1 K
    refine wp_callV [.ref (eA g (11 + x1.toNatClampNeg)), .int v1] [] 0 1 (by decide) (by decide) rfl rfl wc_X2_differsBy wm_X2_173 ws_X2_differsBy we_X2_differsBy wi_X2 ok_X2_differsBy (by decide) (Nat.le_of_ble_eq_true rfl) dX2_letters_34 rfl h ?_
    rintro r2 σ2 ⟨v2, rfl, h⟩
    show WP g 0 45 (d + 1) M_X2_letters 37 [(0, .ref (eA g 0)), (1, .int x1), (2, .int x2), (3, .int x3)] [.int v2] σ2 K
    refine wp_if_eq 46 dX2_letters_37 (by decide) (fun c => ?_) (fun c => ?_)
    · replace h := h.1 c
      refine wp_iinc 3 (nI 1) (lv' := [(3, .int (x3 + (nI 1))), (0, .ref (eA g 0)), (1, .int x1), (2, .int x2)]) dX2_letters_46 (by decide) rfl (by decide) rfl ?_
      refine wp_goto 14 dX2_letters_49 (by decide) ?_
      exact wp_sub [1, 2, 3, 0] rfl h
    · replace h := h.2 c
      refine wp_iload_n 2 dX2_letters_40 rfl rfl ?_
      refine wp_iconst (nI 1) dX2_letters_41 (by decide) ?_
      refine wp_iload_n 3 dX2_letters_42 rfl rfl ?_
      refine wp_ishl dX2_letters_43 ?_
      refine wp_ior dX2_letters_44 ?_
      refine wp_istore_n (lv' := [(2, .int (x2 ||| (jshl (nI 1) x3))), (0, .ref (eA g 0)), (1, .int x1), (3, .int x3)]) dX2_letters_45 rfl (by decide) rfl ?_
      refine wp_iinc 3 (nI 1) (lv' := [(3, .int (x3 + (nI 1))), (2, .int (x2 ||| (jshl (nI 1) x3))), (0, .ref (eA g 0)), (1, .int x1)]) dX2_letters_46 (by decide) rfl (by decide) rfl ?_
      refine wp_goto 14 dX2_letters_49 (by decide) ?_
      exact wp_sub [2, 3, 1, 0] rfl h
set_option maxRecDepth 100000 in
set_option maxHeartbeats 4000000 in
theorem E_X2_size (g : Ev) (d : Nat) (x1 : Int32) (σ : St) (K : Option Value → St → Prop) (h : Runs g 0 45 d M_X2_isRegister [.int x1] σ (fun r1 σ1 => ∃ v1 : Int32, r1 = some (.int v1) ∧ ((¬ v1 = nI 0 → Runs g 0 45 d M_X2_forksOfOne [.ref (eA g 0), .int x1] σ1 (fun r2 σ2 => ∃ v2 : Int32, r2 = some (.int v2) ∧ K (some (.int v2)) σ2)) ∧ (v1 = nI 0 → K (some (.int (-2))) σ1)))) : Runs g 0 45 (d + 1) M_X2_size [.ref (eA g 0), .int x1] σ K := by
  refine Runs.of (by decide) (Nat.le_of_ble_eq_true rfl) ?_
  show WP g 0 45 (d + 1) M_X2_size 0 [(0, .ref (eA g 0)), (1, .int x1)] [] σ K
  refine wp_iload_n 1 dX2_size_0 rfl rfl ?_
  refine wp_callS [.int x1] [] wc_X2_isRegister wm_X2_40 ws_X2_isRegister wi_X2 ok_X2_isRegister (by decide) (Nat.le_of_ble_eq_true rfl) dX2_size_1 rfl h ?_
  rintro r1 σ1 ⟨v1, rfl, h⟩
  show WP g 0 45 (d + 1) M_X2_size 4 [(0, .ref (eA g 0)), (1, .int x1)] [.int v1] σ1 K
  refine wp_if_ne 10 dX2_size_4 (by decide) (fun c => ?_) (fun c => ?_)
  · replace h := h.1 c
    refine wp_aload_n 0 dX2_size_10 rfl rfl ?_
    refine wp_iload_n 1 dX2_size_11 rfl rfl ?_
    refine wp_callV [.int x1] [] 0 1 (by decide) (by decide) rfl rfl wc_X2_forksOfOne wm_X2_176 ws_X2_forksOfOne we_X2_forksOfOne wi_X2 ok_X2_forksOfOne (by decide) (Nat.le_of_ble_eq_true rfl) dX2_size_12 rfl h ?_
    rintro r2 σ2 ⟨v2, rfl, h⟩
    show WP g 0 45 (d + 1) M_X2_size 15 [(0, .ref (eA g 0)), (1, .int x1)] [.int v2] σ2 K
    exact wp_iret rfl dX2_size_15 h
  · replace h := h.2 c
    refine wp_bipush (-2) dX2_size_7 (by decide) ?_
    exact wp_iret rfl dX2_size_9 h
set_option maxRecDepth 100000 in
set_option maxHeartbeats 4000000 in
theorem E_X2_width (g : Ev) (d : Nat) (x1 : Int32) (x2 : Int32) (σ : St) (K : Option Value → St → Prop) (h : Runs g 0 45 d M_X2_isRegister [.int x1] σ (fun r1 σ1 => ∃ v1 : Int32, r1 = some (.int v1) ∧ ((v1 = nI 0 → K (some (.int (-2))) σ1) ∧ (¬ v1 = nI 0 → Runs g 0 45 d M_X2_isLevel [.ref (eA g 0), .int x2] σ1 (fun r2 σ2 => ∃ v2 : Int32, r2 = some (.int v2) ∧ ((¬ v2 = nI 0 → Runs g 0 45 d M_X2_forksOfOne [.ref (eA g 0), .int x1] σ2 (fun r3 σ3 => ∃ v3 : Int32, r3 = some (.int v3) ∧ vp_in x2 (lenI 7) ∧ K (some (.int (sI σ3 7 x2.toNatClampNeg))) σ3)) ∧ (v2 = nI 0 → K (some (.int (-2))) σ2))))))) : Runs g 0 45 (d + 1) M_X2_width [.ref (eA g 0), .int x1, .int x2] σ K := by
  refine Runs.of (by decide) (Nat.le_of_ble_eq_true rfl) ?_
  show WP g 0 45 (d + 1) M_X2_width 0 [(0, .ref (eA g 0)), (1, .int x1), (2, .int x2)] [] σ K
  refine wp_iload_n 1 dX2_width_0 rfl rfl ?_
  refine wp_callS [.int x1] [] wc_X2_isRegister wm_X2_40 ws_X2_isRegister wi_X2 ok_X2_isRegister (by decide) (Nat.le_of_ble_eq_true rfl) dX2_width_1 rfl h ?_
  rintro r1 σ1 ⟨v1, rfl, h⟩
  show WP g 0 45 (d + 1) M_X2_width 4 [(0, .ref (eA g 0)), (1, .int x1), (2, .int x2)] [.int v1] σ1 K
  refine wp_if_eq 15 dX2_width_4 (by decide) (fun c => ?_) (fun c => ?_)
  · replace h := h.1 c
    refine wp_bipush (-2) dX2_width_15 (by decide) ?_
    exact wp_iret rfl dX2_width_17 h
  · replace h := h.2 c
    refine wp_aload_n 0 dX2_width_7 rfl rfl ?_
    refine wp_iload_n 2 dX2_width_8 rfl rfl ?_
    refine wp_callV [.int x2] [] 0 1 (by decide) (by decide) rfl rfl wc_X2_isLevel wm_X2_127 ws_X2_isLevel we_X2_isLevel wi_X2 ok_X2_isLevel (by decide) (Nat.le_of_ble_eq_true rfl) dX2_width_9 rfl h ?_
    rintro r2 σ2 ⟨v2, rfl, h⟩
    show WP g 0 45 (d + 1) M_X2_width 12 [(0, .ref (eA g 0)), (1, .int x1), (2, .int x2)] [.int v2] σ2 K
    refine wp_if_ne 18 dX2_width_12 (by decide) (fun c => ?_) (fun c => ?_)
    · replace h := h.1 c
      refine wp_aload_n 0 dX2_width_18 rfl rfl ?_
      refine wp_iload_n 1 dX2_width_19 rfl rfl ?_
      refine wp_callV [.int x1] [] 0 1 (by decide) (by decide) rfl rfl wc_X2_forksOfOne wm_X2_176 ws_X2_forksOfOne we_X2_forksOfOne wi_X2 ok_X2_forksOfOne (by decide) (Nat.le_of_ble_eq_true rfl) dX2_width_20 rfl h ?_
      rintro r3 σ3 ⟨v3, rfl, h⟩
      show WP g 0 45 (d + 1) M_X2_width 23 [(0, .ref (eA g 0)), (1, .int x1), (2, .int x2)] [.int v3] σ3 K
      refine wp_pop dX2_width_23 rfl ?_
      refine wp_aload_n 0 dX2_width_24 rfl rfl ?_
      refine wp_get 0 1 5 (by decide) (by decide) rfl rfl inG2 (by decide) wf_X2_32 rfl dX2_width_25 ?_
      refine wp_getN 6 0 0 (by decide) (by decide) rfl rfl inG1 (by decide) wn_X2_179 rfl dX2_width_28 ?_
      refine wp_iload_n 2 dX2_width_31 rfl rfl ?_
      refine wp_iald (by decide) (by decide) dX2_width_32 h.1 ?_
      replace h := h.2
      exact wp_iret rfl dX2_width_33 h
    · replace h := h.2 c
      refine wp_bipush (-2) dX2_width_15 (by decide) ?_
      exact wp_iret rfl dX2_width_17 h
set_option maxRecDepth 100000 in
set_option maxHeartbeats 4000000 in
theorem E_X2_point (g : Ev) (d : Nat) (x1 : Int32) (σ : St) (K : Option Value → St → Prop) (h : Runs g 0 45 d M_X2_isRegister [.int x1] σ (fun r1 σ1 => ∃ v1 : Int32, r1 = some (.int v1) ∧ ((¬ v1 = nI 0 → Runs g 0 45 d M_X2_pointAt [.ref (eA g 0), .int x1] σ1 (fun r2 σ2 => r2 = none ∧ K (some (.int (nI 0))) σ2)) ∧ (v1 = nI 0 → K (some (.int (-2))) σ1)))) : Runs g 0 45 (d + 1) M_X2_point [.ref (eA g 0), .int x1] σ K := by
  refine Runs.of (by decide) (Nat.le_of_ble_eq_true rfl) ?_
  show WP g 0 45 (d + 1) M_X2_point 0 [(0, .ref (eA g 0)), (1, .int x1)] [] σ K
  refine wp_iload_n 1 dX2_point_0 rfl rfl ?_
  refine wp_callS [.int x1] [] wc_X2_isRegister wm_X2_40 ws_X2_isRegister wi_X2 ok_X2_isRegister (by decide) (Nat.le_of_ble_eq_true rfl) dX2_point_1 rfl h ?_
  rintro r1 σ1 ⟨v1, rfl, h⟩
  show WP g 0 45 (d + 1) M_X2_point 4 [(0, .ref (eA g 0)), (1, .int x1)] [.int v1] σ1 K
  refine wp_if_ne 10 dX2_point_4 (by decide) (fun c => ?_) (fun c => ?_)
  · replace h := h.1 c
    refine wp_aload_n 0 dX2_point_10 rfl rfl ?_
    refine wp_iload_n 1 dX2_point_11 rfl rfl ?_
    refine wp_callV [.int x1] [] 0 1 (by decide) (by decide) rfl rfl wc_X2_pointAt wm_X2_182 ws_X2_pointAt we_X2_pointAt wi_X2 ok_X2_pointAt (by decide) (Nat.le_of_ble_eq_true rfl) dX2_point_12 rfl h ?_
    rintro r2 σ2 ⟨rfl, h⟩
    show WP g 0 45 (d + 1) M_X2_point 15 [(0, .ref (eA g 0)), (1, .int x1)] [] σ2 K
    refine wp_iconst (nI 0) dX2_point_15 (by decide) ?_
    exact wp_iret rfl dX2_point_16 h
  · replace h := h.2 c
    refine wp_bipush (-2) dX2_point_7 (by decide) ?_
    exact wp_iret rfl dX2_point_9 h
set_option maxRecDepth 100000 in
set_option maxHeartbeats 4000000 in
theorem E_X2_go (g : Ev) (d : Nat) (x1 : Int32) (σ : St) (K : Option Value → St → Prop) (h : Runs g 0 45 d M_X2_pointerFork [.ref (eA g 0)] σ (fun r1 σ1 => ∃ v1 : Int32, r1 = some (.int v1) ∧ ((¬ v1 = (sV σ1 0) → ((x1 = nI 0 → K (some (.int (nI 1))) (uV σ1 5 (v1 + (nI 1)))) ∧ (¬ x1 = nI 0 → Runs g 0 45 d M_X2_placeAt [.ref (eA g 0), .int v1] σ1 (fun r2 σ2 => ∃ v2 : Int32, r2 = some (.int v2) ∧ K (some (.int (nI 1))) (uV (uV σ2 4 ((sV σ1 4) + (jshl (nI 1) v2))) 5 (v1 + (nI 1))))))) ∧ (v1 = (sV σ1 0) → K (some (.int (nI 0))) σ1)))) : Runs g 0 45 (d + 1) M_X2_go [.ref (eA g 0), .int x1] σ K := by
  refine Runs.of (by decide) (Nat.le_of_ble_eq_true rfl) ?_
  show WP g 0 45 (d + 1) M_X2_go 0 [(0, .ref (eA g 0)), (1, .int x1)] [] σ K
  refine wp_aload_n 0 dX2_go_0 rfl rfl ?_
  refine wp_callV [] [] 0 1 (by decide) (by decide) rfl rfl wc_X2_pointerFork wm_X2_185 ws_X2_pointerFork we_X2_pointerFork wi_X2 ok_X2_pointerFork (by decide) (Nat.le_of_ble_eq_true rfl) dX2_go_1 rfl h ?_
  rintro r1 σ1 ⟨v1, rfl, h⟩
  show WP g 0 45 (d + 1) M_X2_go 4 [(0, .ref (eA g 0)), (1, .int x1)] [.int v1] σ1 K
  refine wp_istore_n (lv' := [(2, .int v1), (0, .ref (eA g 0)), (1, .int x1)]) dX2_go_4 rfl (by decide) rfl ?_
  refine wp_iload_n 0 dX2_go_5 rfl rfl ?_
  refine wp_aload_n 1 dX2_go_6 rfl rfl ?_
  refine wp_get 0 1 6 (by decide) (by decide) rfl rfl inG2 (by decide) wf_X2_94 rfl dX2_go_7 ?_
  refine wp_icmp_ne 15 dX2_go_10 (by decide) (fun c => ?_) (fun c => ?_)
  · replace h := h.1 c
    refine wp_iload_n 2 dX2_go_15 rfl rfl ?_
    refine wp_if_eq 35 dX2_go_16 (by decide) (fun c => ?_) (fun c => ?_)
    · replace h := h.1 c
      refine wp_aload_n 1 dX2_go_35 rfl rfl ?_
      refine wp_iload_n 0 dX2_go_36 rfl rfl ?_
      refine wp_iconst (nI 1) dX2_go_37 (by decide) ?_
      refine wp_iadd dX2_go_38 ?_
      refine wp_put (ty := .int) 0 1 12 tyX2 tyX2_ok nmX2 (uV σ1 5 (v1 + (nI 1))) (by decide) (by decide) rfl rfl inG2 (by decide) wf_X2_194 rfl (by decide +kernel) rfl rfl (Nat.le_of_ble_eq_true rfl) dX2_go_39 rfl (wcell_uV0 (by decide)) ?_
      refine wp_iconst (nI 1) dX2_go_42 (by decide) ?_
      exact wp_zret rfl rfl dX2_go_43 h
    · replace h := h.2 c
      refine wp_aload_n 1 dX2_go_19 rfl rfl ?_
      refine wp_dup dX2_go_20 rfl ?_
      refine wp_get 0 1 11 (by decide) (by decide) rfl rfl inG2 (by decide) wf_X2_188 rfl dX2_go_21 ?_
      refine wp_iconst (nI 1) dX2_go_24 (by decide) ?_
      refine wp_aload_n 1 dX2_go_25 rfl rfl ?_
      refine wp_iload_n 0 dX2_go_26 rfl rfl ?_
      refine wp_callV [.int v1] [.int (nI 1), .int (sV σ1 4), .ref (eA g 0)] 0 1 (by decide) (by decide) rfl rfl wc_X2_placeAt wm_X2_191 ws_X2_placeAt we_X2_placeAt wi_X2 ok_X2_placeAt (by decide) (Nat.le_of_ble_eq_true rfl) dX2_go_27 rfl h ?_
      rintro r2 σ2 ⟨v2, rfl, h⟩
      show WP g 0 45 (d + 1) M_X2_go 30 [(2, .int v1), (0, .ref (eA g 0)), (1, .int x1)] [.int v2, .int (nI 1), .int (sV σ1 4), .ref (eA g 0)] σ2 K
      refine wp_ishl dX2_go_30 ?_
      refine wp_iadd dX2_go_31 ?_
      refine wp_put (ty := .int) 0 1 11 tyX2 tyX2_ok nmX2 (uV σ2 4 ((sV σ1 4) + (jshl (nI 1) v2))) (by decide) (by decide) rfl rfl inG2 (by decide) wf_X2_188 rfl (by decide +kernel) rfl rfl (Nat.le_of_ble_eq_true rfl) dX2_go_32 rfl (wcell_uV0 (by decide)) ?_
      refine wp_aload_n 1 dX2_go_35 rfl rfl ?_
      refine wp_iload_n 0 dX2_go_36 rfl rfl ?_
      refine wp_iconst (nI 1) dX2_go_37 (by decide) ?_
      refine wp_iadd dX2_go_38 ?_
      refine wp_put (ty := .int) 0 1 12 tyX2 tyX2_ok nmX2 (uV (uV σ2 4 ((sV σ1 4) + (jshl (nI 1) v2))) 5 (v1 + (nI 1))) (by decide) (by decide) rfl rfl inG2 (by decide) wf_X2_194 rfl (by decide +kernel) rfl rfl (Nat.le_of_ble_eq_true rfl) dX2_go_39 rfl (wcell_uV0 (by decide)) ?_
      refine wp_iconst (nI 1) dX2_go_42 (by decide) ?_
      exact wp_zret rfl rfl dX2_go_43 h
  · replace h := h.2 c
    refine wp_iconst (nI 0) dX2_go_13 (by decide) ?_
    exact wp_zret rfl rfl dX2_go_14 h
set_option maxRecDepth 100000 in
set_option maxHeartbeats 4000000 in
theorem E_X2_at (g : Ev) (d : Nat)  (σ : St) (K : Option Value → St → Prop) (h : Runs g 0 45 d M_X2_pointerFork [.ref (eA g 0)] σ (fun r1 σ1 => ∃ v1 : Int32, r1 = some (.int v1) ∧ (((sV σ1 0) ≤ v1 → vp_in (sV σ1 3) 34 ∧ Runs g 0 45 d M_X0_has [.ref (eA g (11 + (sV σ1 3).toNatClampNeg)), .int (sV σ1 4)] σ1 (fun r2 σ2 => ∃ v2 : Int32, r2 = some (.int v2) ∧ ((v2 = nI 0 → K (some (.int (-2))) σ2) ∧ (¬ v2 = nI 0 → K (some (.int (-3))) σ2)))) ∧ (¬ (sV σ1 0) ≤ v1 → vp_in v1 (lenI 2) ∧ K (some (.int (sI σ1 2 v1.toNatClampNeg))) σ1)))) : Runs g 0 45 (d + 1) M_X2_at [.ref (eA g 0)] σ K := by
  refine Runs.of (by decide) (Nat.le_of_ble_eq_true rfl) ?_
  show WP g 0 45 (d + 1) M_X2_at 0 [(0, .ref (eA g 0))] [] σ K
  refine wp_aload_n 0 dX2_at_0 rfl rfl ?_
  refine wp_callV [] [] 0 1 (by decide) (by decide) rfl rfl wc_X2_pointerFork wm_X2_185 ws_X2_pointerFork we_X2_pointerFork wi_X2 ok_X2_pointerFork (by decide) (Nat.le_of_ble_eq_true rfl) dX2_at_1 rfl h ?_
  rintro r1 σ1 ⟨v1, rfl, h⟩
  show WP g 0 45 (d + 1) M_X2_at 4 [(0, .ref (eA g 0))] [.int v1] σ1 K
  refine wp_istore_n (lv' := [(1, .int v1), (0, .ref (eA g 0))]) dX2_at_4 rfl (by decide) rfl ?_
  refine wp_iload_n 0 dX2_at_5 rfl rfl ?_
  refine wp_aload_n 1 dX2_at_6 rfl rfl ?_
  refine wp_get 0 1 6 (by decide) (by decide) rfl rfl inG2 (by decide) wf_X2_94 rfl dX2_at_7 ?_
  refine wp_icmp_ge 20 dX2_at_10 (by decide) (fun c => ?_) (fun c => ?_)
  · replace h := h.1 c
    refine wp_aload_n 1 dX2_at_20 rfl rfl ?_
    refine wp_get 0 1 0 (by decide) (by decide) rfl rfl inG2 (by decide) wf_X2_13 rfl dX2_at_21 ?_
    refine wp_aload_n 1 dX2_at_24 rfl rfl ?_
    refine wp_get 0 1 10 (by decide) (by decide) rfl rfl inG2 (by decide) wf_X2_197 rfl dX2_at_25 ?_
    refine wp_aald (by decide) (by decide) dX2_at_28 h.1 ?_
    replace h := h.2
    refine wp_aload_n 1 dX2_at_29 rfl rfl ?_
    refine wp_get 0 1 11 (by decide) (by decide) rfl rfl inG2 (by decide) wf_X2_188 rfl dX2_at_30 ?_
    refine wp_callSN [.ref (eA g (11 + (sV σ1 3).toNatClampNeg)), .int (sV σ1 4)] [] wc_X0_has wn_X2_113 ws_X0_has wi_X0 ok_X0_has (by decide) (Nat.le_of_ble_eq_true rfl) dX2_at_33 rfl h ?_
    rintro r2 σ2 ⟨v2, rfl, h⟩
    show WP g 0 45 (d + 1) M_X2_at 36 [(1, .int v1), (0, .ref (eA g 0))] [.int v2] σ2 K
    refine wp_if_eq 44 dX2_at_36 (by decide) (fun c => ?_) (fun c => ?_)
    · replace h := h.1 c
      refine wp_bipush (-2) dX2_at_44 (by decide) ?_
      exact wp_iret rfl dX2_at_46 h
    · replace h := h.2 c
      refine wp_bipush (-3) dX2_at_39 (by decide) ?_
      refine wp_goto 46 dX2_at_41 (by decide) ?_
      exact wp_iret rfl dX2_at_46 h
  · replace h := h.2 c
    refine wp_aload_n 1 dX2_at_13 rfl rfl ?_
    refine wp_get 0 1 1 (by decide) (by decide) rfl rfl inG2 (by decide) wf_X2_16 rfl dX2_at_14 ?_
    refine wp_iload_n 0 dX2_at_17 rfl rfl ?_
    refine wp_iald (by decide) (by decide) dX2_at_18 h.1 ?_
    replace h := h.2
    exact wp_iret rfl dX2_at_19 h
set_option maxRecDepth 100000 in
set_option maxHeartbeats 4000000 in
theorem E_X2_level (g : Ev) (d : Nat) (x1 : Int32) (x2 : Int32) (σ : St) (K : Option Value → St → Prop) (h : Runs g 0 45 d M_X2_isLevel [.ref (eA g 0), .int x1] σ (fun r1 σ1 => ∃ v1 : Int32, r1 = some (.int v1) ∧ ((¬ v1 = nI 0 → ((¬ x2 = nI 0 → ((¬ x2 = (nI 1) → K (some (.int (-1))) σ1) ∧ (x2 = (nI 1) → Runs g 0 45 d M_X2_forksOfAll [.ref (eA g 0)] σ1 (fun r2 σ2 => ∃ v2 : Int32, r2 = some (.int v2) ∧ vp_in x1 (lenI 7) ∧ K (some (.int (sI σ2 7 x1.toNatClampNeg))) σ2)))) ∧ (x2 = nI 0 → vp_in x1 (lenI 2) ∧ K (some (.int (sI σ1 2 x1.toNatClampNeg))) σ1))) ∧ (v1 = nI 0 → K (some (.int (-1))) σ1)))) : Runs g 0 45 (d + 1) M_X2_level [.ref (eA g 0), .int x1, .int x2] σ K := by
  refine Runs.of (by decide) (Nat.le_of_ble_eq_true rfl) ?_
  show WP g 0 45 (d + 1) M_X2_level 0 [(0, .ref (eA g 0)), (1, .int x1), (2, .int x2)] [] σ K
  refine wp_aload_n 0 dX2_level_0 rfl rfl ?_
  refine wp_iload_n 1 dX2_level_1 rfl rfl ?_
  refine wp_callV [.int x1] [] 0 1 (by decide) (by decide) rfl rfl wc_X2_isLevel wm_X2_127 ws_X2_isLevel we_X2_isLevel wi_X2 ok_X2_isLevel (by decide) (Nat.le_of_ble_eq_true rfl) dX2_level_2 rfl h ?_
  rintro r1 σ1 ⟨v1, rfl, h⟩
  show WP g 0 45 (d + 1) M_X2_level 5 [(0, .ref (eA g 0)), (1, .int x1), (2, .int x2)] [.int v1] σ1 K
  refine wp_if_ne 10 dX2_level_5 (by decide) (fun c => ?_) (fun c => ?_)
  · replace h := h.1 c
    refine wp_iload_n 2 dX2_level_10 rfl rfl ?_
    refine wp_if_ne 21 dX2_level_11 (by decide) (fun c => ?_) (fun c => ?_)
    · replace h := h.1 c
      refine wp_iload_n 2 dX2_level_21 rfl rfl ?_
      refine wp_iconst (nI 1) dX2_level_22 (by decide) ?_
      refine wp_icmp_ne 41 dX2_level_23 (by decide) (fun c => ?_) (fun c => ?_)
      · replace h := h.1 c
        refine wp_iconst (-1) dX2_level_41 (by decide) ?_
        exact wp_iret rfl dX2_level_42 h
      · replace h := h.2 c
        refine wp_aload_n 0 dX2_level_26 rfl rfl ?_
        refine wp_callV [] [] 0 1 (by decide) (by decide) rfl rfl wc_X2_forksOfAll wm_X2_133 ws_X2_forksOfAll we_X2_forksOfAll wi_X2 ok_X2_forksOfAll (by decide) (Nat.le_of_ble_eq_true rfl) dX2_level_27 rfl h ?_
        rintro r2 σ2 ⟨v2, rfl, h⟩
        show WP g 0 45 (d + 1) M_X2_level 30 [(0, .ref (eA g 0)), (1, .int x1), (2, .int x2)] [.int v2] σ2 K
        refine wp_pop dX2_level_30 rfl ?_
        refine wp_aload_n 0 dX2_level_31 rfl rfl ?_
        refine wp_get 0 1 5 (by decide) (by decide) rfl rfl inG2 (by decide) wf_X2_32 rfl dX2_level_32 ?_
        refine wp_getN 6 0 0 (by decide) (by decide) rfl rfl inG1 (by decide) wn_X2_179 rfl dX2_level_35 ?_
        refine wp_iload_n 1 dX2_level_38 rfl rfl ?_
        refine wp_iald (by decide) (by decide) dX2_level_39 h.1 ?_
        replace h := h.2
        exact wp_iret rfl dX2_level_40 h
    · replace h := h.2 c
      refine wp_aload_n 0 dX2_level_14 rfl rfl ?_
      refine wp_get 0 1 1 (by decide) (by decide) rfl rfl inG2 (by decide) wf_X2_16 rfl dX2_level_15 ?_
      refine wp_iload_n 1 dX2_level_18 rfl rfl ?_
      refine wp_iald (by decide) (by decide) dX2_level_19 h.1 ?_
      replace h := h.2
      exact wp_iret rfl dX2_level_20 h
  · replace h := h.2 c
    refine wp_iconst (-1) dX2_level_8 (by decide) ?_
    exact wp_iret rfl dX2_level_9 h
set_option maxRecDepth 100000 in
set_option maxHeartbeats 4000000 in
theorem E_X2_count (g : Ev) (d : Nat) (x1 : Int32) (σ : St) (K : Option Value → St → Prop) (h : ((x1 = nI 0 → K (some (.int (sV σ 0))) σ) ∧ (x1 = nI 1 → K (some (.int (sV σ 1))) σ) ∧ (x1 = nI 2 → Runs g 0 45 d M_X2_forksOfAll [.ref (eA g 0)] σ (fun r1 σ1 => ∃ v1 : Int32, r1 = some (.int v1) ∧ K (some (.int v1)) σ1)) ∧ (x1 = nI 3 → Runs g 0 45 d M_X2_unsettledRegisters [.ref (eA g 0)] σ (fun r2 σ2 => ∃ v2 : Int32, r2 = some (.int v2) ∧ K (some (.int v2)) σ2)) ∧ ((x1 < nI 0 ∨ nI 3 < x1) → K (some (.int (-1))) σ))) : Runs g 0 45 (d + 1) M_X2_count [.ref (eA g 0), .int x1] σ K := by
  refine Runs.of (by decide) (Nat.le_of_ble_eq_true rfl) ?_
  show WP g 0 45 (d + 1) M_X2_count 0 [(0, .ref (eA g 0)), (1, .int x1)] [] σ K
  refine wp_iload_n 1 dX2_count_0 rfl rfl ?_
  by_cases c0 : x1 = nI 0
  · replace h := h.1 c0
    refine wp_tableIn (off := 31) 32 dX2_count_1 (by rw [c0]; decide) (by rw [c0]; decide) (by rw [c0]; decide) (by decide) ?_
    refine wp_aload_n 0 dX2_count_32 rfl rfl ?_
    refine wp_get 0 1 6 (by decide) (by decide) rfl rfl inG2 (by decide) wf_X2_94 rfl dX2_count_33 ?_
    exact wp_iret rfl dX2_count_36 h
  by_cases c1 : x1 = nI 1
  · replace h := h.2.1 c1
    refine wp_tableIn (off := 36) 37 dX2_count_1 (by rw [c1]; decide) (by rw [c1]; decide) (by rw [c1]; decide) (by decide) ?_
    refine wp_aload_n 0 dX2_count_37 rfl rfl ?_
    refine wp_get 0 1 7 (by decide) (by decide) rfl rfl inG2 (by decide) wf_X2_137 rfl dX2_count_38 ?_
    exact wp_iret rfl dX2_count_41 h
  by_cases c2 : x1 = nI 2
  · replace h := h.2.2.1 c2
    refine wp_tableIn (off := 41) 42 dX2_count_1 (by rw [c2]; decide) (by rw [c2]; decide) (by rw [c2]; decide) (by decide) ?_
    refine wp_aload_n 0 dX2_count_42 rfl rfl ?_
    refine wp_callV [] [] 0 1 (by decide) (by decide) rfl rfl wc_X2_forksOfAll wm_X2_133 ws_X2_forksOfAll we_X2_forksOfAll wi_X2 ok_X2_forksOfAll (by decide) (Nat.le_of_ble_eq_true rfl) dX2_count_43 rfl h ?_
    rintro r1 σ1 ⟨v1, rfl, h⟩
    show WP g 0 45 (d + 1) M_X2_count 46 [(0, .ref (eA g 0)), (1, .int x1)] [.int v1] σ1 K
    exact wp_iret rfl dX2_count_46 h
  by_cases c3 : x1 = nI 3
  · replace h := h.2.2.2.1 c3
    refine wp_tableIn (off := 46) 47 dX2_count_1 (by rw [c3]; decide) (by rw [c3]; decide) (by rw [c3]; decide) (by decide) ?_
    refine wp_aload_n 0 dX2_count_47 rfl rfl ?_
    refine wp_callV [] [] 0 1 (by decide) (by decide) rfl rfl wc_X2_unsettledRegisters wm_X2_200 ws_X2_unsettledRegisters we_X2_unsettledRegisters wi_X2 ok_X2_unsettledRegisters (by decide) (Nat.le_of_ble_eq_true rfl) dX2_count_48 rfl h ?_
    rintro r2 σ2 ⟨v2, rfl, h⟩
    show WP g 0 45 (d + 1) M_X2_count 51 [(0, .ref (eA g 0)), (1, .int x1)] [.int v2] σ2 K
    exact wp_iret rfl dX2_count_51 h
  have c9 : x1 < nI 0 ∨ nI 3 < x1 := by rcases tsw_out x1 with q | q | q | q | q <;> first | exact absurd q c0 | exact absurd q c1 | exact absurd q c2 | exact absurd q c3 | exact q
  replace h := h.2.2.2.2 c9
  refine wp_tableOut 52 dX2_count_1 (tsw_int c9) (by decide) ?_
  refine wp_iconst (-1) dX2_count_52 (by decide) ?_
  exact wp_iret rfl dX2_count_53 h
set_option maxRecDepth 100000 in
set_option maxHeartbeats 4000000 in
theorem E_X2_begin (g : Ev) (d : Nat) (x1 : Int32) (x2 : Int32) (σ : St) (K : Option Value → St → Prop) (h : Runs g 0 45 d M_X0_lowOnes [.int (jshl (nI 1) x1)] (uV (uV (uV σ 0 x1) 1 x2) 2 (if (nI 1) < (jshr (jshl (nI 1) x1) (nI 6)) then (jshr (jshl (nI 1) x1) (nI 6)) else (nI 1))) (fun r1 σ1 => ∃ v1 : Int64, r1 = some (.long v1) ∧ WP g 0 45 (d + 1) M_X2_begin 37 [(0, .ref (eA g 0)), (4, .int (nI 0))] [] (uW σ1 v1) K)) : Runs g 0 45 (d + 1) M_X2_begin [.ref (eA g 0), .int x1, .int x2] σ K := by
  refine Runs.of (by decide) (Nat.le_of_ble_eq_true rfl) ?_
  show WP g 0 45 (d + 1) M_X2_begin 0 [(0, .ref (eA g 0)), (1, .int x1), (2, .int x2)] [] σ K
  refine wp_aload_n 0 dX2_begin_0 rfl rfl ?_
  refine wp_iload_n 1 dX2_begin_1 rfl rfl ?_
  refine wp_put (ty := .int) 0 1 6 tyX2 tyX2_ok nmX2 (uV σ 0 x1) (by decide) (by decide) rfl rfl inG2 (by decide) wf_X2_94 rfl (by decide +kernel) rfl rfl (Nat.le_of_ble_eq_true rfl) dX2_begin_2 rfl (wcell_uV0 (by decide)) ?_
  refine wp_aload_n 0 dX2_begin_5 rfl rfl ?_
  refine wp_iload_n 2 dX2_begin_6 rfl rfl ?_
  refine wp_put (ty := .int) 0 1 7 tyX2 tyX2_ok nmX2 (uV (uV σ 0 x1) 1 x2) (by decide) (by decide) rfl rfl inG2 (by decide) wf_X2_137 rfl (by decide +kernel) rfl rfl (Nat.le_of_ble_eq_true rfl) dX2_begin_7 rfl (wcell_uV0 (by decide)) ?_
  refine wp_iconst (nI 1) dX2_begin_10 (by decide) ?_
  refine wp_iload_n 1 dX2_begin_11 rfl rfl ?_
  refine wp_ishl dX2_begin_12 ?_
  refine wp_istore_n (lv' := [(3, .int (jshl (nI 1) x1)), (0, .ref (eA g 0)), (1, .int x1), (2, .int x2)]) dX2_begin_13 rfl (by decide) rfl ?_
  refine wp_aload_n 1 dX2_begin_14 rfl rfl ?_
  refine wp_iconst (nI 1) dX2_begin_15 (by decide) ?_
  refine wp_iload_n 0 dX2_begin_16 rfl rfl ?_
  refine wp_bipush (nI 6) dX2_begin_17 (by decide) ?_
  refine wp_ishr dX2_begin_19 ?_
  refine wp_mmax wm_X2_167 ws_Math_max wi_Math wc_Math_max (Nat.le_of_ble_eq_true rfl) dX2_begin_20 ?_
  refine wp_put (ty := .int) 0 1 8 tyX2 tyX2_ok nmX2 (uV (uV (uV σ 0 x1) 1 x2) 2 (if (nI 1) < (jshr (jshl (nI 1) x1) (nI 6)) then (jshr (jshl (nI 1) x1) (nI 6)) else (nI 1))) (by decide) (by decide) rfl rfl inG2 (by decide) wf_X2_44 rfl (by decide +kernel) rfl rfl (Nat.le_of_ble_eq_true rfl) dX2_begin_23 rfl (wcell_uV0 (by decide)) ?_
  refine wp_aload_n 1 dX2_begin_26 rfl rfl ?_
  refine wp_iload_n 0 dX2_begin_27 rfl rfl ?_
  refine wp_callSN [.int (jshl (nI 1) x1)] [.ref (eA g 0)] wc_X0_lowOnes wn_X2_203 ws_X0_lowOnes wi_X0 ok_X0_lowOnes (by decide) (Nat.le_of_ble_eq_true rfl) dX2_begin_28 rfl h ?_
  rintro r1 σ1 ⟨v1, rfl, h⟩
  show WP g 0 45 (d + 1) M_X2_begin 31 [(3, .int (jshl (nI 1) x1)), (0, .ref (eA g 0)), (1, .int x1), (2, .int x2)] [.long v1, .ref (eA g 0)] σ1 K
  refine wp_put (ty := .long) 0 1 9 tyX2 tyX2_ok nmX2 (uW σ1 v1) (by decide) (by decide) rfl rfl inG2 (by decide) wf_X2_48 rfl (by decide +kernel) rfl rfl (Nat.le_of_ble_eq_true rfl) dX2_begin_31 rfl wcell_uW ?_
  refine wp_iconst (nI 0) dX2_begin_34 (by decide) ?_
  refine wp_istore (lv' := [(4, .int (nI 0)), (3, .int (jshl (nI 1) x1)), (0, .ref (eA g 0)), (1, .int x1), (2, .int x2)]) dX2_begin_35 (by decide) rfl ?_
  exact wp_sub [2, 0] rfl h
set_option maxRecDepth 100000 in
set_option maxHeartbeats 4000000 in
theorem R_X2_begin_37 (g : Ev) (d : Nat) (x4 : Int32) (σ : St) (K : Option Value → St → Prop) (h : (((nI 34) ≤ x4 → WP g 0 45 (d + 1) M_X2_begin 64 [(0, .ref (eA g 0)), (4, .int (nI 0))] [] σ K) ∧ (¬ (nI 34) ≤ x4 → vp_in x4 34 ∧ Runs g 0 45 d M_J7_fill_d0a16 [.ref (eA g (11 + x4.toNatClampNeg)), .long 0] σ (fun r1 σ1 => r1 = none ∧ WP g 0 45 (d + 1) M_X2_begin 37 [(0, .ref (eA g 0)), (4, .int (x4 + (nI 1)))] [] σ1 K)))) : WP g 0 45 (d + 1) M_X2_begin 37 [(0, .ref (eA g 0)), (4, .int x4)] [] σ K := by
  refine wp_iload 1 dX2_begin_37 rfl ?_
  refine wp_bipush (nI 34) dX2_begin_39 (by decide) ?_
  refine wp_icmp_ge 61 dX2_begin_41 (by decide) (fun c => ?_) (fun c => ?_)
  · replace h := h.1 c
    refine wp_iconst (nI 0) dX2_begin_61 (by decide) ?_
    refine wp_istore (lv' := [(4, .int (nI 0)), (0, .ref (eA g 0))]) dX2_begin_62 (by decide) rfl ?_
    exact wp_sub [1, 0] rfl h
  · replace h := h.2 c
    refine wp_aload_n 0 dX2_begin_44 rfl rfl ?_
    refine wp_get 0 1 0 (by decide) (by decide) rfl rfl inG2 (by decide) wf_X2_13 rfl dX2_begin_45 ?_
    refine wp_iload 1 dX2_begin_48 rfl ?_
    refine wp_aald (by decide) (by decide) dX2_begin_50 h.1 ?_
    replace h := h.2
    refine wp_lconst 0 dX2_begin_51 (by decide) ?_
    refine wp_callS [.ref (eA g (11 + x4.toNatClampNeg)), .long 0] [] wc_J7_fill_d0a16 wm_X2_207 ws_J7_fill_d0a16 wi_J7 ok_J7_fill_d0a16 (by decide) (Nat.le_of_ble_eq_true rfl) dX2_begin_52 rfl h ?_
    rintro r1 σ1 ⟨rfl, h⟩
    show WP g 0 45 (d + 1) M_X2_begin 55 [(0, .ref (eA g 0)), (4, .int x4)] [] σ1 K
    refine wp_iinc 1 (nI 1) (lv' := [(4, .int (x4 + (nI 1))), (0, .ref (eA g 0))]) dX2_begin_55 (by decide) rfl (by decide) rfl ?_
    refine wp_goto 37 dX2_begin_58 (by decide) ?_
    exact wp_sub [1, 0] rfl h
set_option maxRecDepth 100000 in
set_option maxHeartbeats 4000000 in
theorem R_X2_begin_64 (g : Ev) (d : Nat) (x4 : Int32) (σ : St) (K : Option Value → St → Prop) (h : (((nI 12) ≤ x4 → Runs g 0 45 d M_X2_restPointer [.ref (eA g 0)] σ (fun r1 σ1 => r1 = none ∧ K none σ1)) ∧ (¬ (nI 12) ≤ x4 → vp_in x4 (lenI 2) ∧ vp_in x4 (lenI 3) ∧ WP g 0 45 (d + 1) M_X2_begin 64 [(0, .ref (eA g 0)), (4, .int (x4 + (nI 1)))] [] (uI (uI σ 2 x4.toNatClampNeg x4) 3 x4.toNatClampNeg (nI 0)) K))) : WP g 0 45 (d + 1) M_X2_begin 64 [(0, .ref (eA g 0)), (4, .int x4)] [] σ K := by
  refine wp_iload 1 dX2_begin_64 rfl ?_
  refine wp_bipush (nI 12) dX2_begin_66 (by decide) ?_
  refine wp_icmp_ge 94 dX2_begin_68 (by decide) (fun c => ?_) (fun c => ?_)
  · replace h := h.1 c
    refine wp_aload_n 0 dX2_begin_94 rfl rfl ?_
    refine wp_callV [] [] 0 1 (by decide) (by decide) rfl rfl wc_X2_restPointer wm_X2_58 ws_X2_restPointer we_X2_restPointer wi_X2 ok_X2_restPointer (by decide) (Nat.le_of_ble_eq_true rfl) dX2_begin_95 rfl h ?_
    rintro r1 σ1 ⟨rfl, h⟩
    show WP g 0 45 (d + 1) M_X2_begin 98 [(0, .ref (eA g 0)), (4, .int x4)] [] σ1 K
    exact wp_vret rfl dX2_begin_98 h
  · replace h := h.2 c
    refine wp_aload_n 0 dX2_begin_71 rfl rfl ?_
    refine wp_get 0 1 1 (by decide) (by decide) rfl rfl inG2 (by decide) wf_X2_16 rfl dX2_begin_72 ?_
    refine wp_iload 1 dX2_begin_75 rfl ?_
    refine wp_iload 1 dX2_begin_77 rfl ?_
    refine wp_iast (by decide) (by decide) dX2_begin_79 h.1 ?_
    replace h := h.2
    refine wp_aload_n 0 dX2_begin_80 rfl rfl ?_
    refine wp_get 0 1 2 (by decide) (by decide) rfl rfl inG2 (by decide) wf_X2_20 rfl dX2_begin_81 ?_
    refine wp_iload 1 dX2_begin_84 rfl ?_
    refine wp_iconst (nI 0) dX2_begin_86 (by decide) ?_
    refine wp_iast (by decide) (by decide) dX2_begin_87 h.1 ?_
    replace h := h.2
    refine wp_iinc 1 (nI 1) (lv' := [(4, .int (x4 + (nI 1))), (0, .ref (eA g 0))]) dX2_begin_88 (by decide) rfl (by decide) rfl ?_
    refine wp_goto 64 dX2_begin_91 (by decide) ?_
    exact wp_sub [1, 0] rfl h
set_option maxRecDepth 100000 in
set_option maxHeartbeats 4000000 in
theorem E_X2_isRegister (g : Ev) (d : Nat) (x0 : Int32) (σ : St) (K : Option Value → St → Prop) (h : ((x0 < nI 0 → K (some (.int (nI 0))) σ) ∧ (¬ x0 < nI 0 → (((nI 32) ≤ x0 → K (some (.int (nI 0))) σ) ∧ (¬ (nI 32) ≤ x0 → K (some (.int (nI 1))) σ))))) : Runs g 0 45 (d + 1) M_X2_isRegister [.int x0] σ K := by
  refine Runs.of (by decide) (Nat.le_of_ble_eq_true rfl) ?_
  show WP g 0 45 (d + 1) M_X2_isRegister 0 [(0, .int x0)] [] σ K
  refine wp_iload_n 0 dX2_isRegister_0 rfl rfl ?_
  refine wp_if_lt 14 dX2_isRegister_1 (by decide) (fun c => ?_) (fun c => ?_)
  · replace h := h.1 c
    refine wp_iconst (nI 0) dX2_isRegister_14 (by decide) ?_
    exact wp_zret rfl rfl dX2_isRegister_15 h
  · replace h := h.2 c
    refine wp_iload_n 0 dX2_isRegister_4 rfl rfl ?_
    refine wp_bipush (nI 32) dX2_isRegister_5 (by decide) ?_
    refine wp_icmp_ge 14 dX2_isRegister_7 (by decide) (fun c => ?_) (fun c => ?_)
    · replace h := h.1 c
      refine wp_iconst (nI 0) dX2_isRegister_14 (by decide) ?_
      exact wp_zret rfl rfl dX2_isRegister_15 h
    · replace h := h.2 c
      refine wp_iconst (nI 1) dX2_isRegister_10 (by decide) ?_
      refine wp_goto 15 dX2_isRegister_11 (by decide) ?_
      exact wp_zret rfl rfl dX2_isRegister_15 h
set_option maxRecDepth 100000 in
set_option maxHeartbeats 4000000 in
theorem E_X2_isLetter (g : Ev) (d : Nat) (x1 : Int32) (σ : St) (K : Option Value → St → Prop) (h : ((x1 < nI 0 → K (some (.int (nI 0))) σ) ∧ (¬ x1 < nI 0 → (((sV σ 0) ≤ x1 → K (some (.int (nI 0))) σ) ∧ (¬ (sV σ 0) ≤ x1 → K (some (.int (nI 1))) σ))))) : Runs g 0 45 (d + 1) M_X2_isLetter [.ref (eA g 0), .int x1] σ K := by
  refine Runs.of (by decide) (Nat.le_of_ble_eq_true rfl) ?_
  show WP g 0 45 (d + 1) M_X2_isLetter 0 [(0, .ref (eA g 0)), (1, .int x1)] [] σ K
  refine wp_iload_n 1 dX2_isLetter_0 rfl rfl ?_
  refine wp_if_lt 16 dX2_isLetter_1 (by decide) (fun c => ?_) (fun c => ?_)
  · replace h := h.1 c
    refine wp_iconst (nI 0) dX2_isLetter_16 (by decide) ?_
    exact wp_zret rfl rfl dX2_isLetter_17 h
  · replace h := h.2 c
    refine wp_iload_n 1 dX2_isLetter_4 rfl rfl ?_
    refine wp_aload_n 0 dX2_isLetter_5 rfl rfl ?_
    refine wp_get 0 1 6 (by decide) (by decide) rfl rfl inG2 (by decide) wf_X2_94 rfl dX2_isLetter_6 ?_
    refine wp_icmp_ge 16 dX2_isLetter_9 (by decide) (fun c => ?_) (fun c => ?_)
    · replace h := h.1 c
      refine wp_iconst (nI 0) dX2_isLetter_16 (by decide) ?_
      exact wp_zret rfl rfl dX2_isLetter_17 h
    · replace h := h.2 c
      refine wp_iconst (nI 1) dX2_isLetter_12 (by decide) ?_
      refine wp_goto 17 dX2_isLetter_13 (by decide) ?_
      exact wp_zret rfl rfl dX2_isLetter_17 h
set_option maxRecDepth 100000 in
set_option maxHeartbeats 4000000 in
theorem E_X2_isLevel (g : Ev) (d : Nat) (x1 : Int32) (σ : St) (K : Option Value → St → Prop) (h : ((x1 < nI 0 → K (some (.int (nI 0))) σ) ∧ (¬ x1 < nI 0 → (((sV σ 0) ≤ x1 → K (some (.int (nI 0))) σ) ∧ (¬ (sV σ 0) ≤ x1 → K (some (.int (nI 1))) σ))))) : Runs g 0 45 (d + 1) M_X2_isLevel [.ref (eA g 0), .int x1] σ K := by
  refine Runs.of (by decide) (Nat.le_of_ble_eq_true rfl) ?_
  show WP g 0 45 (d + 1) M_X2_isLevel 0 [(0, .ref (eA g 0)), (1, .int x1)] [] σ K
  refine wp_iload_n 1 dX2_isLevel_0 rfl rfl ?_
  refine wp_if_lt 16 dX2_isLevel_1 (by decide) (fun c => ?_) (fun c => ?_)
  · replace h := h.1 c
    refine wp_iconst (nI 0) dX2_isLevel_16 (by decide) ?_
    exact wp_zret rfl rfl dX2_isLevel_17 h
  · replace h := h.2 c
    refine wp_iload_n 1 dX2_isLevel_4 rfl rfl ?_
    refine wp_aload_n 0 dX2_isLevel_5 rfl rfl ?_
    refine wp_get 0 1 6 (by decide) (by decide) rfl rfl inG2 (by decide) wf_X2_94 rfl dX2_isLevel_6 ?_
    refine wp_icmp_ge 16 dX2_isLevel_9 (by decide) (fun c => ?_) (fun c => ?_)
    · replace h := h.1 c
      refine wp_iconst (nI 0) dX2_isLevel_16 (by decide) ?_
      exact wp_zret rfl rfl dX2_isLevel_17 h
    · replace h := h.2 c
      refine wp_iconst (nI 1) dX2_isLevel_12 (by decide) ?_
      refine wp_goto 17 dX2_isLevel_13 (by decide) ?_
      exact wp_zret rfl rfl dX2_isLevel_17 h
set_option maxRecDepth 100000 in
set_option maxHeartbeats 4000000 in
theorem E_X2_isAssignment (g : Ev) (d : Nat) (x1 : Int32) (σ : St) (K : Option Value → St → Prop) (h : ((x1 < nI 0 → K (some (.int (nI 0))) σ) ∧ (¬ x1 < nI 0 → (((jshl (nI 1) (sV σ 0)) ≤ x1 → K (some (.int (nI 0))) σ) ∧ (¬ (jshl (nI 1) (sV σ 0)) ≤ x1 → K (some (.int (nI 1))) σ))))) : Runs g 0 45 (d + 1) M_X2_isAssignment [.ref (eA g 0), .int x1] σ K := by
  refine Runs.of (by decide) (Nat.le_of_ble_eq_true rfl) ?_
  show WP g 0 45 (d + 1) M_X2_isAssignment 0 [(0, .ref (eA g 0)), (1, .int x1)] [] σ K
  refine wp_iload_n 1 dX2_isAssignment_0 rfl rfl ?_
  refine wp_if_lt 18 dX2_isAssignment_1 (by decide) (fun c => ?_) (fun c => ?_)
  · replace h := h.1 c
    refine wp_iconst (nI 0) dX2_isAssignment_18 (by decide) ?_
    exact wp_zret rfl rfl dX2_isAssignment_19 h
  · replace h := h.2 c
    refine wp_iload_n 1 dX2_isAssignment_4 rfl rfl ?_
    refine wp_iconst (nI 1) dX2_isAssignment_5 (by decide) ?_
    refine wp_aload_n 0 dX2_isAssignment_6 rfl rfl ?_
    refine wp_get 0 1 6 (by decide) (by decide) rfl rfl inG2 (by decide) wf_X2_94 rfl dX2_isAssignment_7 ?_
    refine wp_ishl dX2_isAssignment_10 ?_
    refine wp_icmp_ge 18 dX2_isAssignment_11 (by decide) (fun c => ?_) (fun c => ?_)
    · replace h := h.1 c
      refine wp_iconst (nI 0) dX2_isAssignment_18 (by decide) ?_
      exact wp_zret rfl rfl dX2_isAssignment_19 h
    · replace h := h.2 c
      refine wp_iconst (nI 1) dX2_isAssignment_14 (by decide) ?_
      refine wp_goto 19 dX2_isAssignment_15 (by decide) ?_
      exact wp_zret rfl rfl dX2_isAssignment_19 h
set_option maxRecDepth 100000 in
set_option maxHeartbeats 4000000 in
theorem E_X2_levelOf (g : Ev) (d : Nat) (x1 : Int32) (σ : St) (K : Option Value → St → Prop) (h : WP g 0 45 (d + 1) M_X2_levelOf 4 [(0, .ref (eA g 0)), (1, .int x1), (2, .int (nI 0)), (3, .int (nI 0))] [] σ K) : Runs g 0 45 (d + 1) M_X2_levelOf [.ref (eA g 0), .int x1] σ K := by
  refine Runs.of (by decide) (Nat.le_of_ble_eq_true rfl) ?_
  show WP g 0 45 (d + 1) M_X2_levelOf 0 [(0, .ref (eA g 0)), (1, .int x1)] [] σ K
  refine wp_iconst (nI 0) dX2_levelOf_0 (by decide) ?_
  refine wp_istore_n (lv' := [(2, .int (nI 0)), (0, .ref (eA g 0)), (1, .int x1)]) dX2_levelOf_1 rfl (by decide) rfl ?_
  refine wp_iconst (nI 0) dX2_levelOf_2 (by decide) ?_
  refine wp_istore_n (lv' := [(3, .int (nI 0)), (2, .int (nI 0)), (0, .ref (eA g 0)), (1, .int x1)]) dX2_levelOf_3 rfl (by decide) rfl ?_
  exact wp_sub [2, 3, 1, 0] rfl h
set_option maxRecDepth 100000 in
set_option maxHeartbeats 4000000 in
theorem R_X2_levelOf_4 (g : Ev) (d : Nat) (x1 : Int32) (x2 : Int32) (x3 : Int32) (σ : St) (K : Option Value → St → Prop) (h : (((sV σ 0) ≤ x3 → K (some (.int x2)) σ) ∧ (¬ (sV σ 0) ≤ x3 → vp_in x3 (lenI 2) ∧ ((¬ (sI σ 2 x3.toNatClampNeg) = x1 → WP g 0 45 (d + 1) M_X2_levelOf 4 [(0, .ref (eA g 0)), (1, .int x1), (2, .int x2), (3, .int (x3 + (nI 1)))] [] σ K) ∧ ((sI σ 2 x3.toNatClampNeg) = x1 → WP g 0 45 (d + 1) M_X2_levelOf 4 [(0, .ref (eA g 0)), (1, .int x1), (2, .int x3), (3, .int (x3 + (nI 1)))] [] σ K))))) : WP g 0 45 (d + 1) M_X2_levelOf 4 [(0, .ref (eA g 0)), (1, .int x1), (2, .int x2), (3, .int x3)] [] σ K := by
  refine wp_iload_n 3 dX2_levelOf_4 rfl rfl ?_
  refine wp_aload_n 0 dX2_levelOf_5 rfl rfl ?_
  refine wp_get 0 1 6 (by decide) (by decide) rfl rfl inG2 (by decide) wf_X2_94 rfl dX2_levelOf_6 ?_
  refine wp_icmp_ge 30 dX2_levelOf_9 (by decide) (fun c => ?_) (fun c => ?_)
  · replace h := h.1 c
    refine wp_iload_n 2 dX2_levelOf_30 rfl rfl ?_
    exact wp_iret rfl dX2_levelOf_31 h
  · replace h := h.2 c
    refine wp_aload_n 0 dX2_levelOf_12 rfl rfl ?_
    refine wp_get 0 1 1 (by decide) (by decide) rfl rfl inG2 (by decide) wf_X2_16 rfl dX2_levelOf_13 ?_
    refine wp_iload_n 3 dX2_levelOf_16 rfl rfl ?_
    refine wp_iald (by decide) (by decide) dX2_levelOf_17 h.1 ?_
    replace h := h.2
    refine wp_iload_n 1 dX2_levelOf_18 rfl rfl ?_
    refine wp_icmp_ne 24 dX2_levelOf_19 (by decide) (fun c => ?_) (fun c => ?_)
    · replace h := h.1 c
      refine wp_iinc 3 (nI 1) (lv' := [(3, .int (x3 + (nI 1))), (0, .ref (eA g 0)), (1, .int x1), (2, .int x2)]) dX2_levelOf_24 (by decide) rfl (by decide) rfl ?_
      refine wp_goto 4 dX2_levelOf_27 (by decide) ?_
      exact wp_sub [1, 2, 3, 0] rfl h
    · replace h := h.2 c
      refine wp_iload_n 3 dX2_levelOf_22 rfl rfl ?_
      refine wp_istore_n (lv' := [(2, .int x3), (0, .ref (eA g 0)), (1, .int x1), (3, .int x3)]) dX2_levelOf_23 rfl (by decide) rfl ?_
      refine wp_iinc 3 (nI 1) (lv' := [(3, .int (x3 + (nI 1))), (2, .int x3), (0, .ref (eA g 0)), (1, .int x1)]) dX2_levelOf_24 (by decide) rfl (by decide) rfl ?_
      refine wp_goto 4 dX2_levelOf_27 (by decide) ?_
      exact wp_sub [2, 3, 1, 0] rfl h
set_option maxRecDepth 100000 in
set_option maxHeartbeats 4000000 in
theorem E_X2_placeAt (g : Ev) (d : Nat) (x1 : Int32) (σ : St) (K : Option Value → St → Prop) (h : K (some (.int (((sV σ 0) - (nI 1)) - x1))) σ) : Runs g 0 45 (d + 1) M_X2_placeAt [.ref (eA g 0), .int x1] σ K := by
  refine Runs.of (by decide) (Nat.le_of_ble_eq_true rfl) ?_
  show WP g 0 45 (d + 1) M_X2_placeAt 0 [(0, .ref (eA g 0)), (1, .int x1)] [] σ K
  refine wp_aload_n 0 dX2_placeAt_0 rfl rfl ?_
  refine wp_get 0 1 6 (by decide) (by decide) rfl rfl inG2 (by decide) wf_X2_94 rfl dX2_placeAt_1 ?_
  refine wp_iconst (nI 1) dX2_placeAt_4 (by decide) ?_
  refine wp_isub dX2_placeAt_5 ?_
  refine wp_iload_n 1 dX2_placeAt_6 rfl rfl ?_
  refine wp_isub dX2_placeAt_7 ?_
  exact wp_iret rfl dX2_placeAt_8 h
set_option maxRecDepth 100000 in
set_option maxHeartbeats 4000000 in
theorem E_X2_placeOf (g : Ev) (d : Nat) (x1 : Int32) (σ : St) (K : Option Value → St → Prop) (h : Runs g 0 45 d M_X2_levelOf [.ref (eA g 0), .int x1] σ (fun r1 σ1 => ∃ v1 : Int32, r1 = some (.int v1) ∧ Runs g 0 45 d M_X2_placeAt [.ref (eA g 0), .int v1] σ1 (fun r2 σ2 => ∃ v2 : Int32, r2 = some (.int v2) ∧ K (some (.int v2)) σ2))) : Runs g 0 45 (d + 1) M_X2_placeOf [.ref (eA g 0), .int x1] σ K := by
  refine Runs.of (by decide) (Nat.le_of_ble_eq_true rfl) ?_
  show WP g 0 45 (d + 1) M_X2_placeOf 0 [(0, .ref (eA g 0)), (1, .int x1)] [] σ K
  refine wp_aload_n 0 dX2_placeOf_0 rfl rfl ?_
  refine wp_aload_n 0 dX2_placeOf_1 rfl rfl ?_
  refine wp_iload_n 1 dX2_placeOf_2 rfl rfl ?_
  refine wp_callV [.int x1] [.ref (eA g 0)] 0 1 (by decide) (by decide) rfl rfl wc_X2_levelOf wm_X2_140 ws_X2_levelOf we_X2_levelOf wi_X2 ok_X2_levelOf (by decide) (Nat.le_of_ble_eq_true rfl) dX2_placeOf_3 rfl h ?_
  rintro r1 σ1 ⟨v1, rfl, h⟩
  show WP g 0 45 (d + 1) M_X2_placeOf 6 [(0, .ref (eA g 0)), (1, .int x1)] [.int v1, .ref (eA g 0)] σ1 K
  refine wp_callV [.int v1] [] 0 1 (by decide) (by decide) rfl rfl wc_X2_placeAt wm_X2_191 ws_X2_placeAt we_X2_placeAt wi_X2 ok_X2_placeAt (by decide) (Nat.le_of_ble_eq_true rfl) dX2_placeOf_6 rfl h ?_
  rintro r2 σ2 ⟨v2, rfl, h⟩
  show WP g 0 45 (d + 1) M_X2_placeOf 9 [(0, .ref (eA g 0)), (1, .int x1)] [.int v2] σ2 K
  exact wp_iret rfl dX2_placeOf_9 h
set_option maxRecDepth 100000 in
set_option maxHeartbeats 4000000 in
theorem E_X2_bitOf (g : Ev) (d : Nat) (x1 : Int32) (σ : St) (K : Option Value → St → Prop) (h : WP g 0 45 (d + 1) M_X2_bitOf 4 [(0, .ref (eA g 0)), (1, .int x1), (2, .int (nI 0)), (3, .int (nI 0))] [] σ K) : Runs g 0 45 (d + 1) M_X2_bitOf [.ref (eA g 0), .int x1] σ K := by
  refine Runs.of (by decide) (Nat.le_of_ble_eq_true rfl) ?_
  show WP g 0 45 (d + 1) M_X2_bitOf 0 [(0, .ref (eA g 0)), (1, .int x1)] [] σ K
  refine wp_iconst (nI 0) dX2_bitOf_0 (by decide) ?_
  refine wp_istore_n (lv' := [(2, .int (nI 0)), (0, .ref (eA g 0)), (1, .int x1)]) dX2_bitOf_1 rfl (by decide) rfl ?_
  refine wp_iconst (nI 0) dX2_bitOf_2 (by decide) ?_
  refine wp_istore_n (lv' := [(3, .int (nI 0)), (2, .int (nI 0)), (0, .ref (eA g 0)), (1, .int x1)]) dX2_bitOf_3 rfl (by decide) rfl ?_
  exact wp_sub [2, 3, 1, 0] rfl h
set_option maxRecDepth 100000 in
set_option maxHeartbeats 4000000 in
theorem R_X2_bitOf_4 (g : Ev) (d : Nat) (x1 : Int32) (x2 : Int32) (x3 : Int32) (σ : St) (K : Option Value → St → Prop) (h : (((sV σ 0) ≤ x3 → K (some (.int x2)) σ) ∧ (¬ (sV σ 0) ≤ x3 → vp_in x3 (lenI 2) ∧ WP g 0 45 (d + 1) M_X2_bitOf 4 [(0, .ref (eA g 0)), (1, .int x1), (2, .int (((nI 2) * x2) + ((jshr x1 (sI σ 2 x3.toNatClampNeg)) &&& (nI 1)))), (3, .int (x3 + (nI 1)))] [] σ K))) : WP g 0 45 (d + 1) M_X2_bitOf 4 [(0, .ref (eA g 0)), (1, .int x1), (2, .int x2), (3, .int x3)] [] σ K := by
  refine wp_iload_n 3 dX2_bitOf_4 rfl rfl ?_
  refine wp_aload_n 0 dX2_bitOf_5 rfl rfl ?_
  refine wp_get 0 1 6 (by decide) (by decide) rfl rfl inG2 (by decide) wf_X2_94 rfl dX2_bitOf_6 ?_
  refine wp_icmp_ge 33 dX2_bitOf_9 (by decide) (fun c => ?_) (fun c => ?_)
  · replace h := h.1 c
    refine wp_iload_n 2 dX2_bitOf_33 rfl rfl ?_
    exact wp_iret rfl dX2_bitOf_34 h
  · replace h := h.2 c
    refine wp_iconst (nI 2) dX2_bitOf_12 (by decide) ?_
    refine wp_iload_n 2 dX2_bitOf_13 rfl rfl ?_
    refine wp_imul dX2_bitOf_14 ?_
    refine wp_iload_n 1 dX2_bitOf_15 rfl rfl ?_
    refine wp_aload_n 0 dX2_bitOf_16 rfl rfl ?_
    refine wp_get 0 1 1 (by decide) (by decide) rfl rfl inG2 (by decide) wf_X2_16 rfl dX2_bitOf_17 ?_
    refine wp_iload_n 3 dX2_bitOf_20 rfl rfl ?_
    refine wp_iald (by decide) (by decide) dX2_bitOf_21 h.1 ?_
    replace h := h.2
    refine wp_ishr dX2_bitOf_22 ?_
    refine wp_iconst (nI 1) dX2_bitOf_23 (by decide) ?_
    refine wp_iand dX2_bitOf_24 ?_
    refine wp_iadd dX2_bitOf_25 ?_
    refine wp_istore_n (lv' := [(2, .int (((nI 2) * x2) + ((jshr x1 (sI σ 2 x3.toNatClampNeg)) &&& (nI 1)))), (0, .ref (eA g 0)), (1, .int x1), (3, .int x3)]) dX2_bitOf_26 rfl (by decide) rfl ?_
    refine wp_iinc 3 (nI 1) (lv' := [(3, .int (x3 + (nI 1))), (2, .int (((nI 2) * x2) + ((jshr x1 (sI σ 2 x3.toNatClampNeg)) &&& (nI 1)))), (0, .ref (eA g 0)), (1, .int x1)]) dX2_bitOf_27 (by decide) rfl (by decide) rfl ?_
    refine wp_goto 4 dX2_bitOf_30 (by decide) ?_
    exact wp_sub [2, 3, 1, 0] rfl h
set_option maxRecDepth 100000 in
set_option maxHeartbeats 4000000 in
theorem E_X2_listBits (g : Ev) (d : Nat) (k1 : Nat) (σ : St) (K : Option Value → St → Prop) (h : (k1 < 45 ∧ vp_in (nI 0) (lenI k1)) ∧ WP g 0 45 (d + 1) M_X2_listBits 6 [(0, .ref (eA g 0)), (1, .ref (eA g k1)), (2, .int (nI 0))] [] (uI σ k1 (nI 0).toNatClampNeg (nI 0)) K) : Runs g 0 45 (d + 1) M_X2_listBits [.ref (eA g 0), .ref (eA g k1)] σ K := by
  refine Runs.of (by decide) (Nat.le_of_ble_eq_true rfl) ?_
  show WP g 0 45 (d + 1) M_X2_listBits 0 [(0, .ref (eA g 0)), (1, .ref (eA g k1))] [] σ K
  refine wp_aload_n 1 dX2_listBits_0 rfl rfl ?_
  refine wp_iconst (nI 0) dX2_listBits_1 (by decide) ?_
  refine wp_iconst (nI 0) dX2_listBits_2 (by decide) ?_
  refine wp_iast (Nat.zero_le _) h.1.1 dX2_listBits_3 h.1.2 ?_
  replace h := h.2
  refine wp_iconst (nI 0) dX2_listBits_4 (by decide) ?_
  refine wp_istore_n (lv' := [(2, .int (nI 0)), (0, .ref (eA g 0)), (1, .ref (eA g k1))]) dX2_listBits_5 rfl (by decide) rfl ?_
  exact wp_sub [1, 2, 0] rfl h
set_option maxRecDepth 100000 in
set_option maxHeartbeats 4000000 in
theorem R_X2_listBits_6 (g : Ev) (d : Nat) (k1 : Nat) (x2 : Int32) (σ : St) (K : Option Value → St → Prop) (h : (((sV σ 0) ≤ x2 → K none σ) ∧ (¬ (sV σ 0) ≤ x2 → Runs g 0 45 d M_X2_placeOf [.ref (eA g 0), .int x2] σ (fun r1 σ1 => ∃ v1 : Int32, r1 = some (.int v1) ∧ Runs g 0 45 d M_X2_extend [.ref (eA g k1), .int x2, .int (jshl (nI 1) v1)] σ1 (fun r2 σ2 => r2 = none ∧ WP g 0 45 (d + 1) M_X2_listBits 6 [(0, .ref (eA g 0)), (1, .ref (eA g k1)), (2, .int (x2 + (nI 1)))] [] σ2 K))))) : WP g 0 45 (d + 1) M_X2_listBits 6 [(0, .ref (eA g 0)), (1, .ref (eA g k1)), (2, .int x2)] [] σ K := by
  refine wp_iload_n 2 dX2_listBits_6 rfl rfl ?_
  refine wp_aload_n 0 dX2_listBits_7 rfl rfl ?_
  refine wp_get 0 1 6 (by decide) (by decide) rfl rfl inG2 (by decide) wf_X2_94 rfl dX2_listBits_8 ?_
  refine wp_icmp_ge 32 dX2_listBits_11 (by decide) (fun c => ?_) (fun c => ?_)
  · replace h := h.1 c
    exact wp_vret rfl dX2_listBits_32 h
  · replace h := h.2 c
    refine wp_aload_n 1 dX2_listBits_14 rfl rfl ?_
    refine wp_iload_n 2 dX2_listBits_15 rfl rfl ?_
    refine wp_iconst (nI 1) dX2_listBits_16 (by decide) ?_
    refine wp_aload_n 0 dX2_listBits_17 rfl rfl ?_
    refine wp_iload_n 2 dX2_listBits_18 rfl rfl ?_
    refine wp_callV [.int x2] [.int (nI 1), .int x2, .ref (eA g k1)] 0 1 (by decide) (by decide) rfl rfl wc_X2_placeOf wm_X2_64 ws_X2_placeOf we_X2_placeOf wi_X2 ok_X2_placeOf (by decide) (Nat.le_of_ble_eq_true rfl) dX2_listBits_19 rfl h ?_
    rintro r1 σ1 ⟨v1, rfl, h⟩
    show WP g 0 45 (d + 1) M_X2_listBits 22 [(0, .ref (eA g 0)), (1, .ref (eA g k1)), (2, .int x2)] [.int v1, .int (nI 1), .int x2, .ref (eA g k1)] σ1 K
    refine wp_ishl dX2_listBits_22 ?_
    refine wp_callS [.ref (eA g k1), .int x2, .int (jshl (nI 1) v1)] [] wc_X2_extend wm_X2_210 ws_X2_extend wi_X2 ok_X2_extend (by decide) (Nat.le_of_ble_eq_true rfl) dX2_listBits_23 rfl h ?_
    rintro r2 σ2 ⟨rfl, h⟩
    show WP g 0 45 (d + 1) M_X2_listBits 26 [(0, .ref (eA g 0)), (1, .ref (eA g k1)), (2, .int x2)] [] σ2 K
    refine wp_iinc 2 (nI 1) (lv' := [(2, .int (x2 + (nI 1))), (0, .ref (eA g 0)), (1, .ref (eA g k1))]) dX2_listBits_26 (by decide) rfl (by decide) rfl ?_
    refine wp_goto 6 dX2_listBits_29 (by decide) ?_
    exact wp_sub [1, 2, 0] rfl h
set_option maxRecDepth 100000 in
set_option maxHeartbeats 4000000 in
theorem E_X2_listCosts (g : Ev) (d : Nat) (k1 : Nat) (σ : St) (K : Option Value → St → Prop) (h : (k1 < 45 ∧ vp_in (nI 0) (lenI k1)) ∧ WP g 0 45 (d + 1) M_X2_listCosts 6 [(0, .ref (eA g 0)), (1, .ref (eA g k1)), (2, .int (nI 0))] [] (uI σ k1 (nI 0).toNatClampNeg (nI 0)) K) : Runs g 0 45 (d + 1) M_X2_listCosts [.ref (eA g 0), .ref (eA g k1)] σ K := by
  refine Runs.of (by decide) (Nat.le_of_ble_eq_true rfl) ?_
  show WP g 0 45 (d + 1) M_X2_listCosts 0 [(0, .ref (eA g 0)), (1, .ref (eA g k1))] [] σ K
  refine wp_aload_n 1 dX2_listCosts_0 rfl rfl ?_
  refine wp_iconst (nI 0) dX2_listCosts_1 (by decide) ?_
  refine wp_iconst (nI 0) dX2_listCosts_2 (by decide) ?_
  refine wp_iast (Nat.zero_le _) h.1.1 dX2_listCosts_3 h.1.2 ?_
  replace h := h.2
  refine wp_iconst (nI 0) dX2_listCosts_4 (by decide) ?_
  refine wp_istore_n (lv' := [(2, .int (nI 0)), (0, .ref (eA g 0)), (1, .ref (eA g k1))]) dX2_listCosts_5 rfl (by decide) rfl ?_
  exact wp_sub [1, 2, 0] rfl h
set_option maxRecDepth 100000 in
set_option maxHeartbeats 4000000 in
theorem R_X2_listCosts_6 (g : Ev) (d : Nat) (k1 : Nat) (x2 : Int32) (σ : St) (K : Option Value → St → Prop) (h : (((sV σ 0) ≤ x2 → K none σ) ∧ (¬ (sV σ 0) ≤ x2 → vp_in x2 (lenI 3) ∧ Runs g 0 45 d M_X2_extend [.ref (eA g k1), .int x2, .int (sI σ 3 x2.toNatClampNeg)] σ (fun r1 σ1 => r1 = none ∧ WP g 0 45 (d + 1) M_X2_listCosts 6 [(0, .ref (eA g 0)), (1, .ref (eA g k1)), (2, .int (x2 + (nI 1)))] [] σ1 K)))) : WP g 0 45 (d + 1) M_X2_listCosts 6 [(0, .ref (eA g 0)), (1, .ref (eA g k1)), (2, .int x2)] [] σ K := by
  refine wp_iload_n 2 dX2_listCosts_6 rfl rfl ?_
  refine wp_aload_n 0 dX2_listCosts_7 rfl rfl ?_
  refine wp_get 0 1 6 (by decide) (by decide) rfl rfl inG2 (by decide) wf_X2_94 rfl dX2_listCosts_8 ?_
  refine wp_icmp_ge 31 dX2_listCosts_11 (by decide) (fun c => ?_) (fun c => ?_)
  · replace h := h.1 c
    exact wp_vret rfl dX2_listCosts_31 h
  · replace h := h.2 c
    refine wp_aload_n 1 dX2_listCosts_14 rfl rfl ?_
    refine wp_iload_n 2 dX2_listCosts_15 rfl rfl ?_
    refine wp_aload_n 0 dX2_listCosts_16 rfl rfl ?_
    refine wp_get 0 1 2 (by decide) (by decide) rfl rfl inG2 (by decide) wf_X2_20 rfl dX2_listCosts_17 ?_
    refine wp_iload_n 2 dX2_listCosts_20 rfl rfl ?_
    refine wp_iald (by decide) (by decide) dX2_listCosts_21 h.1 ?_
    replace h := h.2
    refine wp_callS [.ref (eA g k1), .int x2, .int (sI σ 3 x2.toNatClampNeg)] [] wc_X2_extend wm_X2_210 ws_X2_extend wi_X2 ok_X2_extend (by decide) (Nat.le_of_ble_eq_true rfl) dX2_listCosts_22 rfl h ?_
    rintro r1 σ1 ⟨rfl, h⟩
    show WP g 0 45 (d + 1) M_X2_listCosts 25 [(0, .ref (eA g 0)), (1, .ref (eA g k1)), (2, .int x2)] [] σ1 K
    refine wp_iinc 2 (nI 1) (lv' := [(2, .int (x2 + (nI 1))), (0, .ref (eA g 0)), (1, .ref (eA g k1))]) dX2_listCosts_25 (by decide) rfl (by decide) rfl ?_
    refine wp_goto 6 dX2_listCosts_28 (by decide) ?_
    exact wp_sub [1, 2, 0] rfl h
set_option maxRecDepth 100000 in
set_option maxHeartbeats 4000000 in
theorem E_X2_extend (g : Ev) (d : Nat) (k0 : Nat) (x1 : Int32) (x2 : Int32) (σ : St) (K : Option Value → St → Prop) (h : WP g 0 45 (d + 1) M_X2_extend 7 [(0, .ref (eA g k0)), (2, .int x2), (3, .int (jshl (nI 1) x1)), (4, .int (nI 0))] [] σ K) : Runs g 0 45 (d + 1) M_X2_extend [.ref (eA g k0), .int x1, .int x2] σ K := by
  refine Runs.of (by decide) (Nat.le_of_ble_eq_true rfl) ?_
  show WP g 0 45 (d + 1) M_X2_extend 0 [(0, .ref (eA g k0)), (1, .int x1), (2, .int x2)] [] σ K
  refine wp_iconst (nI 1) dX2_extend_0 (by decide) ?_
  refine wp_iload_n 1 dX2_extend_1 rfl rfl ?_
  refine wp_ishl dX2_extend_2 ?_
  refine wp_istore_n (lv' := [(3, .int (jshl (nI 1) x1)), (0, .ref (eA g k0)), (1, .int x1), (2, .int x2)]) dX2_extend_3 rfl (by decide) rfl ?_
  refine wp_iconst (nI 0) dX2_extend_4 (by decide) ?_
  refine wp_istore (lv' := [(4, .int (nI 0)), (3, .int (jshl (nI 1) x1)), (0, .ref (eA g k0)), (1, .int x1), (2, .int x2)]) dX2_extend_5 (by decide) rfl ?_
  exact wp_sub [2, 4, 1, 0] rfl h
set_option maxRecDepth 100000 in
set_option maxHeartbeats 4000000 in
theorem R_X2_extend_7 (g : Ev) (d : Nat) (k0 : Nat) (x2 : Int32) (x3 : Int32) (x4 : Int32) (σ : St) (K : Option Value → St → Prop) (h : ((x3 ≤ x4 → K none σ) ∧ (¬ x3 ≤ x4 → (k0 < 45 ∧ vp_in x4 (lenI k0)) ∧ (k0 < 45 ∧ vp_in (x3 + x4) (lenI k0)) ∧ WP g 0 45 (d + 1) M_X2_extend 7 [(0, .ref (eA g k0)), (2, .int x2), (3, .int x3), (4, .int (x4 + (nI 1)))] [] (uI σ k0 (x3 + x4).toNatClampNeg ((sI σ k0 x4.toNatClampNeg) + x2)) K))) : WP g 0 45 (d + 1) M_X2_extend 7 [(0, .ref (eA g k0)), (2, .int x2), (3, .int x3), (4, .int x4)] [] σ K := by
  refine wp_iload 3 dX2_extend_7 rfl ?_
  refine wp_iload_n 2 dX2_extend_9 rfl rfl ?_
  refine wp_icmp_ge 31 dX2_extend_10 (by decide) (fun c => ?_) (fun c => ?_)
  · replace h := h.1 c
    exact wp_vret rfl dX2_extend_31 h
  · replace h := h.2 c
    refine wp_aload_n 0 dX2_extend_13 rfl rfl ?_
    refine wp_iload_n 2 dX2_extend_14 rfl rfl ?_
    refine wp_iload 3 dX2_extend_15 rfl ?_
    refine wp_iadd dX2_extend_17 ?_
    refine wp_aload_n 0 dX2_extend_18 rfl rfl ?_
    refine wp_iload 3 dX2_extend_19 rfl ?_
    refine wp_iald (Nat.zero_le _) h.1.1 dX2_extend_21 h.1.2 ?_
    replace h := h.2
    refine wp_iload_n 1 dX2_extend_22 rfl rfl ?_
    refine wp_iadd dX2_extend_23 ?_
    refine wp_iast (Nat.zero_le _) h.1.1 dX2_extend_24 h.1.2 ?_
    replace h := h.2
    refine wp_iinc 3 (nI 1) (lv' := [(4, .int (x4 + (nI 1))), (0, .ref (eA g k0)), (2, .int x2), (3, .int x3)]) dX2_extend_25 (by decide) rfl (by decide) rfl ?_
    refine wp_goto 7 dX2_extend_28 (by decide) ?_
    exact wp_sub [1, 2, 3, 0] rfl h
set_option maxRecDepth 100000 in
set_option maxHeartbeats 4000000 in
theorem E_X2_copyToSpare (g : Ev) (d : Nat) (x1 : Int32) (σ : St) (K : Option Value → St → Prop) (h : vp_in x1 34 ∧ vp_in (nI 32) 34 ∧ (0 < lenJ (11 + x1.toNatClampNeg) ∧ 0 < lenJ (11 + (nI 32).toNatClampNeg) ∧ ¬ (nI 0) < nI 0 ∧ ¬ (nI 0) < nI 0 ∧ ¬ (sV σ 2) < nI 0 ∧ (nI 0).toNatClampNeg + (sV σ 2).toNatClampNeg ≤ lenJ (11 + x1.toNatClampNeg) ∧ (nI 0).toNatClampNeg + (sV σ 2).toNatClampNeg ≤ lenJ (11 + (nI 32).toNatClampNeg)) ∧ K none (uLf σ (11 + (nI 32).toNatClampNeg) (va_cpy (sL σ (11 + x1.toNatClampNeg)) (sL σ (11 + (nI 32).toNatClampNeg)) (nI 0).toNatClampNeg (nI 0).toNatClampNeg (sV σ 2).toNatClampNeg))) : Runs g 0 45 (d + 1) M_X2_copyToSpare [.ref (eA g 0), .int x1] σ K := by
  refine Runs.of (by decide) (Nat.le_of_ble_eq_true rfl) ?_
  show WP g 0 45 (d + 1) M_X2_copyToSpare 0 [(0, .ref (eA g 0)), (1, .int x1)] [] σ K
  refine wp_aload_n 0 dX2_copyToSpare_0 rfl rfl ?_
  refine wp_get 0 1 0 (by decide) (by decide) rfl rfl inG2 (by decide) wf_X2_13 rfl dX2_copyToSpare_1 ?_
  refine wp_iload_n 1 dX2_copyToSpare_4 rfl rfl ?_
  refine wp_aald (by decide) (by decide) dX2_copyToSpare_5 h.1 ?_
  replace h := h.2
  refine wp_iconst (nI 0) dX2_copyToSpare_6 (by decide) ?_
  refine wp_aload_n 0 dX2_copyToSpare_7 rfl rfl ?_
  refine wp_get 0 1 0 (by decide) (by decide) rfl rfl inG2 (by decide) wf_X2_13 rfl dX2_copyToSpare_8 ?_
  refine wp_bipush (nI 32) dX2_copyToSpare_11 (by decide) ?_
  refine wp_aald (by decide) (by decide) dX2_copyToSpare_13 h.1 ?_
  replace h := h.2
  refine wp_iconst (nI 0) dX2_copyToSpare_14 (by decide) ?_
  refine wp_aload_n 0 dX2_copyToSpare_15 rfl rfl ?_
  refine wp_get 0 1 8 (by decide) (by decide) rfl rfl inG2 (by decide) wf_X2_44 rfl dX2_copyToSpare_16 ?_
  refine wp_copyl wm_X2_121 wt_copy ws_copy wi_System (Nat.zero_le _) (lenJ_pos h.1.1).2 (Nat.zero_le _) (lenJ_pos h.1.2.1).2 h.1.1 h.1.2.1 h.1.2.2.1 h.1.2.2.2.1 h.1.2.2.2.2.1 h.1.2.2.2.2.2.1 h.1.2.2.2.2.2.2 (Nat.le_of_ble_eq_true rfl) dX2_copyToSpare_19 ?_
  replace h := h.2
  exact wp_vret rfl dX2_copyToSpare_22 h
set_option maxRecDepth 100000 in
set_option maxHeartbeats 4000000 in
theorem E_X2_sumSpare (g : Ev) (d : Nat) (x1 : Int32) (x2 : Int32) (σ : St) (K : Option Value → St → Prop) (h : vp_in (nI 32) 34 ∧ WP g 0 45 (d + 1) M_X2_sumSpare 11 [(0, .ref (eA g 0)), (1, .int x1), (2, .int x2), (3, .ref (eA g (11 + (nI 32).toNatClampNeg))), (4, .int (nI 0))] [] σ K) : Runs g 0 45 (d + 1) M_X2_sumSpare [.ref (eA g 0), .int x1, .int x2] σ K := by
  refine Runs.of (by decide) (Nat.le_of_ble_eq_true rfl) ?_
  show WP g 0 45 (d + 1) M_X2_sumSpare 0 [(0, .ref (eA g 0)), (1, .int x1), (2, .int x2)] [] σ K
  refine wp_aload_n 0 dX2_sumSpare_0 rfl rfl ?_
  refine wp_get 0 1 0 (by decide) (by decide) rfl rfl inG2 (by decide) wf_X2_13 rfl dX2_sumSpare_1 ?_
  refine wp_bipush (nI 32) dX2_sumSpare_4 (by decide) ?_
  refine wp_aald (by decide) (by decide) dX2_sumSpare_6 h.1 ?_
  replace h := h.2
  refine wp_astore_n (lv' := [(3, .ref (eA g (11 + (nI 32).toNatClampNeg))), (0, .ref (eA g 0)), (1, .int x1), (2, .int x2)]) dX2_sumSpare_7 rfl (by decide) rfl ?_
  refine wp_iconst (nI 0) dX2_sumSpare_8 (by decide) ?_
  refine wp_istore (lv' := [(4, .int (nI 0)), (3, .ref (eA g (11 + (nI 32).toNatClampNeg))), (0, .ref (eA g 0)), (1, .int x1), (2, .int x2)]) dX2_sumSpare_9 (by decide) rfl ?_
  exact wp_sub [2, 3, 4, 1, 0] rfl h
set_option maxRecDepth 100000 in
set_option maxHeartbeats 4000000 in
theorem R_X2_sumSpare_11 (g : Ev) (d : Nat) (x1 : Int32) (x2 : Int32) (k3 : Nat) (x4 : Int32) (σ : St) (K : Option Value → St → Prop) (h : (((sV σ 2) ≤ x4 → K none σ) ∧ (¬ (sV σ 2) ≤ x4 → Runs g 0 45 d M_X0_fixedWord [.ref (eA g k3), .int x4, .int x1, .int (nI 1)] σ (fun r1 σ1 => ∃ v1 : Int64, r1 = some (.long v1) ∧ Runs g 0 45 d M_X0_fixedWord [.ref (eA g k3), .int x4, .int x1, .int (nI 0)] σ1 (fun r2 σ2 => ∃ v2 : Int64, r2 = some (.long v2) ∧ ((x2 = nI 0 → vp_in x4 (lenJ k3) ∧ WP g 0 45 (d + 1) M_X2_sumSpare 11 [(0, .ref (eA g 0)), (1, .int x1), (2, .int x2), (3, .ref (eA g k3)), (4, .int (x4 + (nI 1)))] [] (uL σ2 k3 x4.toNatClampNeg (v1 ||| v2)) K) ∧ (¬ x2 = nI 0 → vp_in x4 (lenJ k3) ∧ WP g 0 45 (d + 1) M_X2_sumSpare 11 [(0, .ref (eA g 0)), (1, .int x1), (2, .int x2), (3, .ref (eA g k3)), (4, .int (x4 + (nI 1)))] [] (uL σ2 k3 x4.toNatClampNeg (v1 &&& v2)) K))))))) : WP g 0 45 (d + 1) M_X2_sumSpare 11 [(0, .ref (eA g 0)), (1, .int x1), (2, .int x2), (3, .ref (eA g k3)), (4, .int x4)] [] σ K := by
  refine wp_iload 4 dX2_sumSpare_11 rfl ?_
  refine wp_aload_n 0 dX2_sumSpare_13 rfl rfl ?_
  refine wp_get 0 1 8 (by decide) (by decide) rfl rfl inG2 (by decide) wf_X2_44 rfl dX2_sumSpare_14 ?_
  refine wp_icmp_ge 67 dX2_sumSpare_17 (by decide) (fun c => ?_) (fun c => ?_)
  · replace h := h.1 c
    exact wp_vret rfl dX2_sumSpare_67 h
  · replace h := h.2 c
    refine wp_aload_n 3 dX2_sumSpare_20 rfl rfl ?_
    refine wp_iload 4 dX2_sumSpare_21 rfl ?_
    refine wp_iload_n 1 dX2_sumSpare_23 rfl rfl ?_
    refine wp_iconst (nI 1) dX2_sumSpare_24 (by decide) ?_
    refine wp_callSN [.ref (eA g k3), .int x4, .int x1, .int (nI 1)] [] wc_X0_fixedWord wn_X2_83 ws_X0_fixedWord wi_X0 ok_X0_fixedWord (by decide) (Nat.le_of_ble_eq_true rfl) dX2_sumSpare_25 rfl h ?_
    rintro r1 σ1 ⟨v1, rfl, h⟩
    show WP g 0 45 (d + 1) M_X2_sumSpare 28 [(0, .ref (eA g 0)), (1, .int x1), (2, .int x2), (3, .ref (eA g k3)), (4, .int x4)] [.long v1] σ1 K
    refine wp_lstore (lv' := [(5, .long v1), (0, .ref (eA g 0)), (1, .int x1), (2, .int x2), (3, .ref (eA g k3)), (4, .int x4)]) dX2_sumSpare_28 (by decide) rfl ?_
    refine wp_aload_n 4 dX2_sumSpare_30 rfl rfl ?_
    refine wp_iload 5 dX2_sumSpare_31 rfl ?_
    refine wp_iload_n 2 dX2_sumSpare_33 rfl rfl ?_
    refine wp_iconst (nI 0) dX2_sumSpare_34 (by decide) ?_
    refine wp_callSN [.ref (eA g k3), .int x4, .int x1, .int (nI 0)] [] wc_X0_fixedWord wn_X2_83 ws_X0_fixedWord wi_X0 ok_X0_fixedWord (by decide) (Nat.le_of_ble_eq_true rfl) dX2_sumSpare_35 rfl h ?_
    rintro r2 σ2 ⟨v2, rfl, h⟩
    show WP g 0 45 (d + 1) M_X2_sumSpare 38 [(5, .long v1), (0, .ref (eA g 0)), (1, .int x1), (2, .int x2), (3, .ref (eA g k3)), (4, .int x4)] [.long v2] σ2 K
    refine wp_lstore (lv' := [(7, .long v2), (5, .long v1), (0, .ref (eA g 0)), (1, .int x1), (2, .int x2), (3, .ref (eA g k3)), (4, .int x4)]) dX2_sumSpare_38 (by decide) rfl ?_
    refine wp_aload_n 5 dX2_sumSpare_40 rfl rfl ?_
    refine wp_iload 6 dX2_sumSpare_41 rfl ?_
    refine wp_iload_n 4 dX2_sumSpare_43 rfl rfl ?_
    refine wp_if_eq 55 dX2_sumSpare_44 (by decide) (fun c => ?_) (fun c => ?_)
    · replace h := h.1 c
      refine wp_lload 1 dX2_sumSpare_55 rfl ?_
      refine wp_lload 0 dX2_sumSpare_57 rfl ?_
      refine wp_lor dX2_sumSpare_59 ?_
      refine wp_last (Nat.zero_le _) (lenJ_hi h.1) dX2_sumSpare_60 h.1 ?_
      replace h := h.2
      refine wp_iinc 6 (nI 1) (lv' := [(4, .int (x4 + (nI 1))), (7, .long v2), (5, .long v1), (0, .ref (eA g 0)), (1, .int x1), (2, .int x2), (3, .ref (eA g k3))]) dX2_sumSpare_61 (by decide) rfl (by decide) rfl ?_
      refine wp_goto 11 dX2_sumSpare_64 (by decide) ?_
      exact wp_sub [3, 4, 5, 6, 0] rfl h
    · replace h := h.2 c
      refine wp_lload 1 dX2_sumSpare_47 rfl ?_
      refine wp_lload 0 dX2_sumSpare_49 rfl ?_
      refine wp_land dX2_sumSpare_51 ?_
      refine wp_goto 60 dX2_sumSpare_52 (by decide) ?_
      refine wp_last (Nat.zero_le _) (lenJ_hi h.1) dX2_sumSpare_60 h.1 ?_
      replace h := h.2
      refine wp_iinc 6 (nI 1) (lv' := [(4, .int (x4 + (nI 1))), (7, .long v2), (5, .long v1), (0, .ref (eA g 0)), (1, .int x1), (2, .int x2), (3, .ref (eA g k3))]) dX2_sumSpare_61 (by decide) rfl (by decide) rfl ?_
      refine wp_goto 11 dX2_sumSpare_64 (by decide) ?_
      exact wp_sub [3, 4, 5, 6, 0] rfl h
set_option maxRecDepth 100000 in
set_option maxHeartbeats 4000000 in
theorem E_X2_findNearest (g : Ev) (d : Nat) (k1 : Nat) (k2 : Nat) (k3 : Nat) (σ : St) (K : Option Value → St → Prop) (h : WP g 0 45 (d + 1) M_X2_findNearest 11 [(1, .ref (eA g k1)), (2, .ref (eA g k2)), (3, .ref (eA g k3)), (4, .int (jshl (nI 1) (sV σ 0))), (5, .int (nI 0))] [] σ K) : Runs g 0 45 (d + 1) M_X2_findNearest [.ref (eA g 0), .ref (eA g k1), .ref (eA g k2), .ref (eA g k3)] σ K := by
  refine Runs.of (by decide) (Nat.le_of_ble_eq_true rfl) ?_
  show WP g 0 45 (d + 1) M_X2_findNearest 0 [(0, .ref (eA g 0)), (1, .ref (eA g k1)), (2, .ref (eA g k2)), (3, .ref (eA g k3))] [] σ K
  refine wp_iconst (nI 1) dX2_findNearest_0 (by decide) ?_
  refine wp_aload_n 0 dX2_findNearest_1 rfl rfl ?_
  refine wp_get 0 1 6 (by decide) (by decide) rfl rfl inG2 (by decide) wf_X2_94 rfl dX2_findNearest_2 ?_
  refine wp_ishl dX2_findNearest_5 ?_
  refine wp_istore (lv' := [(4, .int (jshl (nI 1) (sV σ 0))), (0, .ref (eA g 0)), (1, .ref (eA g k1)), (2, .ref (eA g k2)), (3, .ref (eA g k3))]) dX2_findNearest_6 (by decide) rfl ?_
  refine wp_iconst (nI 0) dX2_findNearest_8 (by decide) ?_
  refine wp_istore (lv' := [(5, .int (nI 0)), (4, .int (jshl (nI 1) (sV σ 0))), (0, .ref (eA g 0)), (1, .ref (eA g k1)), (2, .ref (eA g k2)), (3, .ref (eA g k3))]) dX2_findNearest_9 (by decide) rfl ?_
  exact wp_sub [3, 4, 5, 1, 0] rfl h
set_option maxRecDepth 100000 in
set_option maxHeartbeats 4000000 in
theorem R_X2_findNearest_11 (g : Ev) (d : Nat) (k1 : Nat) (k2 : Nat) (k3 : Nat) (x4 : Int32) (x5 : Int32) (σ : St) (K : Option Value → St → Prop) (h : ((x4 ≤ x5 → WP g 0 45 (d + 1) M_X2_findNearest 51 [(2, .ref (eA g k2)), (3, .ref (eA g k3)), (4, .int x4), (5, .int (x4 - (nI 1)))] [] σ K) ∧ (¬ x4 ≤ x5 → Runs g 0 45 d M_X0_has [.ref (eA g k1), .int x5] σ (fun r1 σ1 => ∃ v1 : Int32, r1 = some (.int v1) ∧ ((v1 = nI 0 → (k2 < 45 ∧ vp_in (x4 + x5) (lenI k2)) ∧ WP g 0 45 (d + 1) M_X2_findNearest 11 [(1, .ref (eA g k1)), (2, .ref (eA g k2)), (3, .ref (eA g k3)), (4, .int x4), (5, .int (x5 + (nI 1)))] [] (uI σ1 k2 (x4 + x5).toNatClampNeg (nI 0)) K) ∧ (¬ v1 = nI 0 → (k2 < 45 ∧ vp_in (x4 + x5) (lenI k2)) ∧ WP g 0 45 (d + 1) M_X2_findNearest 11 [(1, .ref (eA g k1)), (2, .ref (eA g k2)), (3, .ref (eA g k3)), (4, .int x4), (5, .int (x5 + (nI 1)))] [] (uI σ1 k2 (x4 + x5).toNatClampNeg (nI 1)) K)))))) : WP g 0 45 (d + 1) M_X2_findNearest 11 [(1, .ref (eA g k1)), (2, .ref (eA g k2)), (3, .ref (eA g k3)), (4, .int x4), (5, .int x5)] [] σ K := by
  refine wp_iload 4 dX2_findNearest_11 rfl ?_
  refine wp_iload 3 dX2_findNearest_13 rfl ?_
  refine wp_icmp_ge 45 dX2_findNearest_15 (by decide) (fun c => ?_) (fun c => ?_)
  · replace h := h.1 c
    refine wp_iload 3 dX2_findNearest_45 rfl ?_
    refine wp_iconst (nI 1) dX2_findNearest_47 (by decide) ?_
    refine wp_isub dX2_findNearest_48 ?_
    refine wp_istore (lv' := [(5, .int (x4 - (nI 1))), (1, .ref (eA g k1)), (2, .ref (eA g k2)), (3, .ref (eA g k3)), (4, .int x4)]) dX2_findNearest_49 (by decide) rfl ?_
    exact wp_sub [2, 3, 4, 0] rfl h
  · replace h := h.2 c
    refine wp_aload_n 1 dX2_findNearest_18 rfl rfl ?_
    refine wp_iload 3 dX2_findNearest_19 rfl ?_
    refine wp_iload 4 dX2_findNearest_21 rfl ?_
    refine wp_iadd dX2_findNearest_23 ?_
    refine wp_aload_n 0 dX2_findNearest_24 rfl rfl ?_
    refine wp_iload 4 dX2_findNearest_25 rfl ?_
    refine wp_callSN [.ref (eA g k1), .int x5] [.int (x4 + x5), .ref (eA g k2)] wc_X0_has wn_X2_113 ws_X0_has wi_X0 ok_X0_has (by decide) (Nat.le_of_ble_eq_true rfl) dX2_findNearest_27 rfl h ?_
    rintro r1 σ1 ⟨v1, rfl, h⟩
    show WP g 0 45 (d + 1) M_X2_findNearest 30 [(1, .ref (eA g k1)), (2, .ref (eA g k2)), (3, .ref (eA g k3)), (4, .int x4), (5, .int x5)] [.int v1, .int (x4 + x5), .ref (eA g k2)] σ1 K
    refine wp_if_eq 37 dX2_findNearest_30 (by decide) (fun c => ?_) (fun c => ?_)
    · replace h := h.1 c
      refine wp_iconst (nI 0) dX2_findNearest_37 (by decide) ?_
      refine wp_iast (Nat.zero_le _) h.1.1 dX2_findNearest_38 h.1.2 ?_
      replace h := h.2
      refine wp_iinc 4 (nI 1) (lv' := [(5, .int (x5 + (nI 1))), (1, .ref (eA g k1)), (2, .ref (eA g k2)), (3, .ref (eA g k3)), (4, .int x4)]) dX2_findNearest_39 (by decide) rfl (by decide) rfl ?_
      refine wp_goto 11 dX2_findNearest_42 (by decide) ?_
      exact wp_sub [1, 2, 3, 4, 0] rfl h
    · replace h := h.2 c
      refine wp_iconst (nI 1) dX2_findNearest_33 (by decide) ?_
      refine wp_goto 38 dX2_findNearest_34 (by decide) ?_
      refine wp_iast (Nat.zero_le _) h.1.1 dX2_findNearest_38 h.1.2 ?_
      replace h := h.2
      refine wp_iinc 4 (nI 1) (lv' := [(5, .int (x5 + (nI 1))), (1, .ref (eA g k1)), (2, .ref (eA g k2)), (3, .ref (eA g k3)), (4, .int x4)]) dX2_findNearest_39 (by decide) rfl (by decide) rfl ?_
      refine wp_goto 11 dX2_findNearest_42 (by decide) ?_
      exact wp_sub [1, 2, 3, 4, 0] rfl h
set_option maxRecDepth 100000 in
set_option maxHeartbeats 4000000 in
theorem R_X2_findNearest_51 (g : Ev) (d : Nat) (k2 : Nat) (k3 : Nat) (x4 : Int32) (x5 : Int32) (σ : St) (K : Option Value → St → Prop) (h : ((x5 < (nI 1) → (k3 < 45 ∧ vp_in (nI 1) (lenI k3)) ∧ WP g 0 45 (d + 1) M_X2_findNearest 89 [(2, .ref (eA g k2)), (3, .ref (eA g k3)), (4, .int x4), (5, .int (nI 2))] [] (uI σ k3 (nI 1).toNatClampNeg (nI 1)) K) ∧ (¬ x5 < (nI 1) → (k2 < 45 ∧ vp_in ((nI 2) * x5) (lenI k2)) ∧ (k2 < 45 ∧ vp_in (((nI 2) * x5) + (nI 1)) (lenI k2)) ∧ (k2 < 45 ∧ vp_in x5 (lenI k2)) ∧ WP g 0 45 (d + 1) M_X2_findNearest 51 [(2, .ref (eA g k2)), (3, .ref (eA g k3)), (4, .int x4), (5, .int (x5 + (-1)))] [] (uI σ k2 x5.toNatClampNeg ((sI σ k2 ((nI 2) * x5).toNatClampNeg) ||| (sI σ k2 (((nI 2) * x5) + (nI 1)).toNatClampNeg))) K))) : WP g 0 45 (d + 1) M_X2_findNearest 51 [(2, .ref (eA g k2)), (3, .ref (eA g k3)), (4, .int x4), (5, .int x5)] [] σ K := by
  refine wp_iload 3 dX2_findNearest_51 rfl ?_
  refine wp_iconst (nI 1) dX2_findNearest_53 (by decide) ?_
  refine wp_icmp_lt 82 dX2_findNearest_54 (by decide) (fun c => ?_) (fun c => ?_)
  · replace h := h.1 c
    refine wp_aload_n 1 dX2_findNearest_82 rfl rfl ?_
    refine wp_iconst (nI 1) dX2_findNearest_83 (by decide) ?_
    refine wp_iconst (nI 1) dX2_findNearest_84 (by decide) ?_
    refine wp_iast (Nat.zero_le _) h.1.1 dX2_findNearest_85 h.1.2 ?_
    replace h := h.2
    refine wp_iconst (nI 2) dX2_findNearest_86 (by decide) ?_
    refine wp_istore (lv' := [(5, .int (nI 2)), (2, .ref (eA g k2)), (3, .ref (eA g k3)), (4, .int x4)]) dX2_findNearest_87 (by decide) rfl ?_
    exact wp_sub [1, 2, 3, 0] rfl h
  · replace h := h.2 c
    refine wp_aload_n 0 dX2_findNearest_57 rfl rfl ?_
    refine wp_iload 3 dX2_findNearest_58 rfl ?_
    refine wp_aload_n 0 dX2_findNearest_60 rfl rfl ?_
    refine wp_iconst (nI 2) dX2_findNearest_61 (by decide) ?_
    refine wp_iload 3 dX2_findNearest_62 rfl ?_
    refine wp_imul dX2_findNearest_64 ?_
    refine wp_iald (Nat.zero_le _) h.1.1 dX2_findNearest_65 h.1.2 ?_
    replace h := h.2
    refine wp_aload_n 0 dX2_findNearest_66 rfl rfl ?_
    refine wp_iconst (nI 2) dX2_findNearest_67 (by decide) ?_
    refine wp_iload 3 dX2_findNearest_68 rfl ?_
    refine wp_imul dX2_findNearest_70 ?_
    refine wp_iconst (nI 1) dX2_findNearest_71 (by decide) ?_
    refine wp_iadd dX2_findNearest_72 ?_
    refine wp_iald (Nat.zero_le _) h.1.1 dX2_findNearest_73 h.1.2 ?_
    replace h := h.2
    refine wp_ior dX2_findNearest_74 ?_
    refine wp_iast (Nat.zero_le _) h.1.1 dX2_findNearest_75 h.1.2 ?_
    replace h := h.2
    refine wp_iinc 3 (-1) (lv' := [(5, .int (x5 + (-1))), (2, .ref (eA g k2)), (3, .ref (eA g k3)), (4, .int x4)]) dX2_findNearest_76 (by decide) rfl (by decide) rfl ?_
    refine wp_goto 51 dX2_findNearest_79 (by decide) ?_
    exact wp_sub [1, 2, 3, 0] rfl h
set_option maxRecDepth 100000 in
set_option maxHeartbeats 4000000 in
theorem R_X2_findNearest_89 (g : Ev) (d : Nat) (k2 : Nat) (k3 : Nat) (x4 : Int32) (x5 : Int32) (σ : St) (K : Option Value → St → Prop) (h : ((((nI 2) * x4) ≤ x5 → K none σ) ∧ (¬ ((nI 2) * x4) ≤ x5 → (k3 < 45 ∧ vp_in (jshr x5 (nI 1)) (lenI k3)) ∧ (k2 < 45 ∧ vp_in (((nI 2) * (sI σ k3 (jshr x5 (nI 1)).toNatClampNeg)) + (x5 &&& (nI 1))) (lenI k2)) ∧ (((sI σ k2 (((nI 2) * (sI σ k3 (jshr x5 (nI 1)).toNatClampNeg)) + (x5 &&& (nI 1))).toNatClampNeg) = nI 0 → (k3 < 45 ∧ vp_in x5 (lenI k3)) ∧ WP g 0 45 (d + 1) M_X2_findNearest 89 [(2, .ref (eA g k2)), (3, .ref (eA g k3)), (4, .int x4), (5, .int (x5 + (nI 1)))] [] (uI σ k3 x5.toNatClampNeg ((((nI 2) * (sI σ k3 (jshr x5 (nI 1)).toNatClampNeg)) + (x5 &&& (nI 1))) ^^^ (nI 1))) K) ∧ (¬ (sI σ k2 (((nI 2) * (sI σ k3 (jshr x5 (nI 1)).toNatClampNeg)) + (x5 &&& (nI 1))).toNatClampNeg) = nI 0 → (k3 < 45 ∧ vp_in x5 (lenI k3)) ∧ WP g 0 45 (d + 1) M_X2_findNearest 89 [(2, .ref (eA g k2)), (3, .ref (eA g k3)), (4, .int x4), (5, .int (x5 + (nI 1)))] [] (uI σ k3 x5.toNatClampNeg (((nI 2) * (sI σ k3 (jshr x5 (nI 1)).toNatClampNeg)) + (x5 &&& (nI 1)))) K))))) : WP g 0 45 (d + 1) M_X2_findNearest 89 [(2, .ref (eA g k2)), (3, .ref (eA g k3)), (4, .int x4), (5, .int x5)] [] σ K := by
  refine wp_iload 3 dX2_findNearest_89 rfl ?_
  refine wp_iconst (nI 2) dX2_findNearest_91 (by decide) ?_
  refine wp_iload 2 dX2_findNearest_92 rfl ?_
  refine wp_imul dX2_findNearest_94 ?_
  refine wp_icmp_ge 139 dX2_findNearest_95 (by decide) (fun c => ?_) (fun c => ?_)
  · replace h := h.1 c
    exact wp_vret rfl dX2_findNearest_139 h
  · replace h := h.2 c
    refine wp_iconst (nI 2) dX2_findNearest_98 (by decide) ?_
    refine wp_aload_n 1 dX2_findNearest_99 rfl rfl ?_
    refine wp_iload 3 dX2_findNearest_100 rfl ?_
    refine wp_iconst (nI 1) dX2_findNearest_102 (by decide) ?_
    refine wp_ishr dX2_findNearest_103 ?_
    refine wp_iald (Nat.zero_le _) h.1.1 dX2_findNearest_104 h.1.2 ?_
    replace h := h.2
    refine wp_imul dX2_findNearest_105 ?_
    refine wp_iload 3 dX2_findNearest_106 rfl ?_
    refine wp_iconst (nI 1) dX2_findNearest_108 (by decide) ?_
    refine wp_iand dX2_findNearest_109 ?_
    refine wp_iadd dX2_findNearest_110 ?_
    refine wp_istore (lv' := [(6, .int (((nI 2) * (sI σ k3 (jshr x5 (nI 1)).toNatClampNeg)) + (x5 &&& (nI 1)))), (2, .ref (eA g k2)), (3, .ref (eA g k3)), (4, .int x4), (5, .int x5)]) dX2_findNearest_111 (by decide) rfl ?_
    refine wp_aload_n 2 dX2_findNearest_113 rfl rfl ?_
    refine wp_iload 4 dX2_findNearest_114 rfl ?_
    refine wp_aload_n 1 dX2_findNearest_116 rfl rfl ?_
    refine wp_iload 0 dX2_findNearest_117 rfl ?_
    refine wp_iald (Nat.zero_le _) h.1.1 dX2_findNearest_119 h.1.2 ?_
    replace h := h.2
    refine wp_if_eq 128 dX2_findNearest_120 (by decide) (fun c => ?_) (fun c => ?_)
    · replace h := h.1 c
      refine wp_iload 0 dX2_findNearest_128 rfl ?_
      refine wp_iconst (nI 1) dX2_findNearest_130 (by decide) ?_
      refine wp_ixor dX2_findNearest_131 ?_
      refine wp_iast (Nat.zero_le _) h.1.1 dX2_findNearest_132 h.1.2 ?_
      replace h := h.2
      refine wp_iinc 4 (nI 1) (lv' := [(5, .int (x5 + (nI 1))), (6, .int (((nI 2) * (sI σ k3 (jshr x5 (nI 1)).toNatClampNeg)) + (x5 &&& (nI 1)))), (2, .ref (eA g k2)), (3, .ref (eA g k3)), (4, .int x4)]) dX2_findNearest_133 (by decide) rfl (by decide) rfl ?_
      refine wp_goto 89 dX2_findNearest_136 (by decide) ?_
      exact wp_sub [2, 3, 4, 0] rfl h
    · replace h := h.2 c
      refine wp_iload 0 dX2_findNearest_123 rfl ?_
      refine wp_goto 132 dX2_findNearest_125 (by decide) ?_
      refine wp_iast (Nat.zero_le _) h.1.1 dX2_findNearest_132 h.1.2 ?_
      replace h := h.2
      refine wp_iinc 4 (nI 1) (lv' := [(5, .int (x5 + (nI 1))), (6, .int (((nI 2) * (sI σ k3 (jshr x5 (nI 1)).toNatClampNeg)) + (x5 &&& (nI 1)))), (2, .ref (eA g k2)), (3, .ref (eA g k3)), (4, .int x4)]) dX2_findNearest_133 (by decide) rfl (by decide) rfl ?_
      refine wp_goto 89 dX2_findNearest_136 (by decide) ?_
      exact wp_sub [2, 3, 4, 0] rfl h
set_option maxRecDepth 100000 in
set_option maxHeartbeats 4000000 in
theorem E_X2_keep (g : Ev) (d : Nat) (x1 : Int32) (σ : St) (K : Option Value → St → Prop) (h : vp_in (sV σ 0) 13 ∧ (((fMF (sV σ 0).toNatClampNeg) ≤ (sV σ 1) → vp_in (nI 32) 34 ∧ vp_in x1 34 ∧ (0 < lenJ (11 + (nI 32).toNatClampNeg) ∧ 0 < lenJ (11 + x1.toNatClampNeg) ∧ ¬ (nI 0) < nI 0 ∧ ¬ (nI 0) < nI 0 ∧ ¬ (sV σ 2) < nI 0 ∧ (nI 0).toNatClampNeg + (sV σ 2).toNatClampNeg ≤ lenJ (11 + (nI 32).toNatClampNeg) ∧ (nI 0).toNatClampNeg + (sV σ 2).toNatClampNeg ≤ lenJ (11 + x1.toNatClampNeg)) ∧ Runs g 0 45 d M_X2_restPointer [.ref (eA g 0)] (uLf σ (11 + x1.toNatClampNeg) (va_cpy (sL σ (11 + (nI 32).toNatClampNeg)) (sL σ (11 + x1.toNatClampNeg)) (nI 0).toNatClampNeg (nI 0).toNatClampNeg (sV σ 2).toNatClampNeg)) (fun r1 σ1 => r1 = none ∧ K (some (.int (nI 0))) σ1)) ∧ (¬ (fMF (sV σ 0).toNatClampNeg) ≤ (sV σ 1) → Runs g 0 45 d M_X1_forksOf [.ref (eA g 6), .ref (eA g 1), .int (nI 0), .int (nI 31), .int x1, .int (sV σ 0)] σ (fun r2 σ2 => ∃ v2 : Int32, r2 = some (.int v2) ∧ ((v2 ≤ (sV σ2 1) → vp_in (nI 32) 34 ∧ vp_in x1 34 ∧ (0 < lenJ (11 + (nI 32).toNatClampNeg) ∧ 0 < lenJ (11 + x1.toNatClampNeg) ∧ ¬ (nI 0) < nI 0 ∧ ¬ (nI 0) < nI 0 ∧ ¬ (sV σ2 2) < nI 0 ∧ (nI 0).toNatClampNeg + (sV σ2 2).toNatClampNeg ≤ lenJ (11 + (nI 32).toNatClampNeg) ∧ (nI 0).toNatClampNeg + (sV σ2 2).toNatClampNeg ≤ lenJ (11 + x1.toNatClampNeg)) ∧ Runs g 0 45 d M_X2_restPointer [.ref (eA g 0)] (uLf σ2 (11 + x1.toNatClampNeg) (va_cpy (sL σ2 (11 + (nI 32).toNatClampNeg)) (sL σ2 (11 + x1.toNatClampNeg)) (nI 0).toNatClampNeg (nI 0).toNatClampNeg (sV σ2 2).toNatClampNeg)) (fun r3 σ3 => r3 = none ∧ K (some (.int (nI 0))) σ3)) ∧ (¬ v2 ≤ (sV σ2 1) → K (some (.int (-8))) σ2)))))) : Runs g 0 45 (d + 1) M_X2_keep [.ref (eA g 0), .int x1] σ K := by
  refine Runs.of (by decide) (Nat.le_of_ble_eq_true rfl) ?_
  show WP g 0 45 (d + 1) M_X2_keep 0 [(0, .ref (eA g 0)), (1, .int x1)] [] σ K
  refine wp_aload_n 0 dX2_keep_0 rfl rfl ?_
  refine wp_get 0 1 7 (by decide) (by decide) rfl rfl inG2 (by decide) wf_X2_137 rfl dX2_keep_1 ?_
  refine wp_gets1 wf_X2_214 dX2_keep_4 ?_
  refine wp_aload_n 0 dX2_keep_7 rfl rfl ?_
  refine wp_get 0 1 6 (by decide) (by decide) rfl rfl inG2 (by decide) wf_X2_94 rfl dX2_keep_8 ?_
  refine wp_ti dX2_keep_11 h.1 ?_
  replace h := h.2
  refine wp_icmp_ge 44 dX2_keep_12 (by decide) (fun c => ?_) (fun c => ?_)
  · replace h := h.1 c
    refine wp_aload_n 0 dX2_keep_44 rfl rfl ?_
    refine wp_get 0 1 0 (by decide) (by decide) rfl rfl inG2 (by decide) wf_X2_13 rfl dX2_keep_45 ?_
    refine wp_bipush (nI 32) dX2_keep_48 (by decide) ?_
    refine wp_aald (by decide) (by decide) dX2_keep_50 h.1 ?_
    replace h := h.2
    refine wp_iconst (nI 0) dX2_keep_51 (by decide) ?_
    refine wp_aload_n 0 dX2_keep_52 rfl rfl ?_
    refine wp_get 0 1 0 (by decide) (by decide) rfl rfl inG2 (by decide) wf_X2_13 rfl dX2_keep_53 ?_
    refine wp_iload_n 1 dX2_keep_56 rfl rfl ?_
    refine wp_aald (by decide) (by decide) dX2_keep_57 h.1 ?_
    replace h := h.2
    refine wp_iconst (nI 0) dX2_keep_58 (by decide) ?_
    refine wp_aload_n 0 dX2_keep_59 rfl rfl ?_
    refine wp_get 0 1 8 (by decide) (by decide) rfl rfl inG2 (by decide) wf_X2_44 rfl dX2_keep_60 ?_
    refine wp_copyl wm_X2_121 wt_copy ws_copy wi_System (Nat.zero_le _) (lenJ_pos h.1.1).2 (Nat.zero_le _) (lenJ_pos h.1.2.1).2 h.1.1 h.1.2.1 h.1.2.2.1 h.1.2.2.2.1 h.1.2.2.2.2.1 h.1.2.2.2.2.2.1 h.1.2.2.2.2.2.2 (Nat.le_of_ble_eq_true rfl) dX2_keep_63 ?_
    replace h := h.2
    refine wp_aload_n 0 dX2_keep_66 rfl rfl ?_
    refine wp_callV [] [] 0 1 (by decide) (by decide) rfl rfl wc_X2_restPointer wm_X2_58 ws_X2_restPointer we_X2_restPointer wi_X2 ok_X2_restPointer (by decide) (Nat.le_of_ble_eq_true rfl) dX2_keep_67 rfl h ?_
    rintro r1 σ1 ⟨rfl, h⟩
    show WP g 0 45 (d + 1) M_X2_keep 70 [(0, .ref (eA g 0)), (1, .int x1)] [] σ1 K
    refine wp_iconst (nI 0) dX2_keep_70 (by decide) ?_
    exact wp_iret rfl dX2_keep_71 h
  · replace h := h.2 c
    refine wp_aload_n 0 dX2_keep_15 rfl rfl ?_
    refine wp_get 0 1 5 (by decide) (by decide) rfl rfl inG2 (by decide) wf_X2_32 rfl dX2_keep_16 ?_
    refine wp_aload_n 0 dX2_keep_19 rfl rfl ?_
    refine wp_get 0 1 0 (by decide) (by decide) rfl rfl inG2 (by decide) wf_X2_13 rfl dX2_keep_20 ?_
    refine wp_iconst (nI 0) dX2_keep_23 (by decide) ?_
    refine wp_bipush (nI 31) dX2_keep_24 (by decide) ?_
    refine wp_iload_n 1 dX2_keep_26 rfl rfl ?_
    refine wp_aload_n 0 dX2_keep_27 rfl rfl ?_
    refine wp_get 0 1 6 (by decide) (by decide) rfl rfl inG2 (by decide) wf_X2_94 rfl dX2_keep_28 ?_
    refine wp_callVN [.ref (eA g 1), .int (nI 0), .int (nI 31), .int x1, .int (sV σ 0)] [] 6 0 (by decide) (by decide) rfl rfl wc_X1_forksOf wn_X2_217 ws_X1_forksOf we_X1_forksOf wi_X1 ok_X1_forksOf (by decide) (Nat.le_of_ble_eq_true rfl) dX2_keep_31 rfl h ?_
    rintro r2 σ2 ⟨v2, rfl, h⟩
    show WP g 0 45 (d + 1) M_X2_keep 34 [(0, .ref (eA g 0)), (1, .int x1)] [.int v2] σ2 K
    refine wp_aload_n 0 dX2_keep_34 rfl rfl ?_
    refine wp_get 0 1 7 (by decide) (by decide) rfl rfl inG2 (by decide) wf_X2_137 rfl dX2_keep_35 ?_
    refine wp_icmp_le 44 dX2_keep_38 (by decide) (fun c => ?_) (fun c => ?_)
    · replace h := h.1 c
      refine wp_aload_n 0 dX2_keep_44 rfl rfl ?_
      refine wp_get 0 1 0 (by decide) (by decide) rfl rfl inG2 (by decide) wf_X2_13 rfl dX2_keep_45 ?_
      refine wp_bipush (nI 32) dX2_keep_48 (by decide) ?_
      refine wp_aald (by decide) (by decide) dX2_keep_50 h.1 ?_
      replace h := h.2
      refine wp_iconst (nI 0) dX2_keep_51 (by decide) ?_
      refine wp_aload_n 0 dX2_keep_52 rfl rfl ?_
      refine wp_get 0 1 0 (by decide) (by decide) rfl rfl inG2 (by decide) wf_X2_13 rfl dX2_keep_53 ?_
      refine wp_iload_n 1 dX2_keep_56 rfl rfl ?_
      refine wp_aald (by decide) (by decide) dX2_keep_57 h.1 ?_
      replace h := h.2
      refine wp_iconst (nI 0) dX2_keep_58 (by decide) ?_
      refine wp_aload_n 0 dX2_keep_59 rfl rfl ?_
      refine wp_get 0 1 8 (by decide) (by decide) rfl rfl inG2 (by decide) wf_X2_44 rfl dX2_keep_60 ?_
      refine wp_copyl wm_X2_121 wt_copy ws_copy wi_System (Nat.zero_le _) (lenJ_pos h.1.1).2 (Nat.zero_le _) (lenJ_pos h.1.2.1).2 h.1.1 h.1.2.1 h.1.2.2.1 h.1.2.2.2.1 h.1.2.2.2.2.1 h.1.2.2.2.2.2.1 h.1.2.2.2.2.2.2 (Nat.le_of_ble_eq_true rfl) dX2_keep_63 ?_
      replace h := h.2
      refine wp_aload_n 0 dX2_keep_66 rfl rfl ?_
      refine wp_callV [] [] 0 1 (by decide) (by decide) rfl rfl wc_X2_restPointer wm_X2_58 ws_X2_restPointer we_X2_restPointer wi_X2 ok_X2_restPointer (by decide) (Nat.le_of_ble_eq_true rfl) dX2_keep_67 rfl h ?_
      rintro r3 σ3 ⟨rfl, h⟩
      show WP g 0 45 (d + 1) M_X2_keep 70 [(0, .ref (eA g 0)), (1, .int x1)] [] σ3 K
      refine wp_iconst (nI 0) dX2_keep_70 (by decide) ?_
      exact wp_iret rfl dX2_keep_71 h
    · replace h := h.2 c
      refine wp_bipush (-8) dX2_keep_41 (by decide) ?_
      exact wp_iret rfl dX2_keep_43 h
set_option maxRecDepth 100000 in
set_option maxHeartbeats 4000000 in
theorem E_X2_forksOfAll (g : Ev) (d : Nat)  (σ : St) (K : Option Value → St → Prop) (h : Runs g 0 45 d M_X1_forksOf [.ref (eA g 6), .ref (eA g 1), .int (nI 0), .int (nI 31), .int (-1), .int (sV σ 0)] σ (fun r1 σ1 => ∃ v1 : Int32, r1 = some (.int v1) ∧ K (some (.int v1)) σ1)) : Runs g 0 45 (d + 1) M_X2_forksOfAll [.ref (eA g 0)] σ K := by
  refine Runs.of (by decide) (Nat.le_of_ble_eq_true rfl) ?_
  show WP g 0 45 (d + 1) M_X2_forksOfAll 0 [(0, .ref (eA g 0))] [] σ K
  refine wp_aload_n 0 dX2_forksOfAll_0 rfl rfl ?_
  refine wp_get 0 1 5 (by decide) (by decide) rfl rfl inG2 (by decide) wf_X2_32 rfl dX2_forksOfAll_1 ?_
  refine wp_aload_n 0 dX2_forksOfAll_4 rfl rfl ?_
  refine wp_get 0 1 0 (by decide) (by decide) rfl rfl inG2 (by decide) wf_X2_13 rfl dX2_forksOfAll_5 ?_
  refine wp_iconst (nI 0) dX2_forksOfAll_8 (by decide) ?_
  refine wp_bipush (nI 31) dX2_forksOfAll_9 (by decide) ?_
  refine wp_iconst (-1) dX2_forksOfAll_11 (by decide) ?_
  refine wp_aload_n 0 dX2_forksOfAll_12 rfl rfl ?_
  refine wp_get 0 1 6 (by decide) (by decide) rfl rfl inG2 (by decide) wf_X2_94 rfl dX2_forksOfAll_13 ?_
  refine wp_callVN [.ref (eA g 1), .int (nI 0), .int (nI 31), .int (-1), .int (sV σ 0)] [] 6 0 (by decide) (by decide) rfl rfl wc_X1_forksOf wn_X2_217 ws_X1_forksOf we_X1_forksOf wi_X1 ok_X1_forksOf (by decide) (Nat.le_of_ble_eq_true rfl) dX2_forksOfAll_16 rfl h ?_
  rintro r1 σ1 ⟨v1, rfl, h⟩
  show WP g 0 45 (d + 1) M_X2_forksOfAll 19 [(0, .ref (eA g 0))] [.int v1] σ1 K
  exact wp_iret rfl dX2_forksOfAll_19 h
set_option maxRecDepth 100000 in
set_option maxHeartbeats 4000000 in
theorem E_X2_forksOfOne (g : Ev) (d : Nat) (x1 : Int32) (σ : St) (K : Option Value → St → Prop) (h : Runs g 0 45 d M_X1_forksOf [.ref (eA g 6), .ref (eA g 1), .int x1, .int x1, .int (-1), .int (sV σ 0)] σ (fun r1 σ1 => ∃ v1 : Int32, r1 = some (.int v1) ∧ K (some (.int v1)) σ1)) : Runs g 0 45 (d + 1) M_X2_forksOfOne [.ref (eA g 0), .int x1] σ K := by
  refine Runs.of (by decide) (Nat.le_of_ble_eq_true rfl) ?_
  show WP g 0 45 (d + 1) M_X2_forksOfOne 0 [(0, .ref (eA g 0)), (1, .int x1)] [] σ K
  refine wp_aload_n 0 dX2_forksOfOne_0 rfl rfl ?_
  refine wp_get 0 1 5 (by decide) (by decide) rfl rfl inG2 (by decide) wf_X2_32 rfl dX2_forksOfOne_1 ?_
  refine wp_aload_n 0 dX2_forksOfOne_4 rfl rfl ?_
  refine wp_get 0 1 0 (by decide) (by decide) rfl rfl inG2 (by decide) wf_X2_13 rfl dX2_forksOfOne_5 ?_
  refine wp_iload_n 1 dX2_forksOfOne_8 rfl rfl ?_
  refine wp_iload_n 1 dX2_forksOfOne_9 rfl rfl ?_
  refine wp_iconst (-1) dX2_forksOfOne_10 (by decide) ?_
  refine wp_aload_n 0 dX2_forksOfOne_11 rfl rfl ?_
  refine wp_get 0 1 6 (by decide) (by decide) rfl rfl inG2 (by decide) wf_X2_94 rfl dX2_forksOfOne_12 ?_
  refine wp_callVN [.ref (eA g 1), .int x1, .int x1, .int (-1), .int (sV σ 0)] [] 6 0 (by decide) (by decide) rfl rfl wc_X1_forksOf wn_X2_217 ws_X1_forksOf we_X1_forksOf wi_X1 ok_X1_forksOf (by decide) (Nat.le_of_ble_eq_true rfl) dX2_forksOfOne_15 rfl h ?_
  rintro r1 σ1 ⟨v1, rfl, h⟩
  show WP g 0 45 (d + 1) M_X2_forksOfOne 18 [(0, .ref (eA g 0)), (1, .int x1)] [.int v1] σ1 K
  exact wp_iret rfl dX2_forksOfOne_18 h
set_option maxRecDepth 100000 in
set_option maxHeartbeats 4000000 in
theorem E_X2_bestLevelGoingDown (g : Ev) (d : Nat) (x1 : Int32) (σ : St) (K : Option Value → St → Prop) (h : vp_in (nI 0) (lenI 7) ∧ Runs g 0 45 d M_X1_list [.ref (eA g 6), .ref (eA g 1), .int (nI 0), .int (nI 31), .int (-1), .int (sV σ 0)] σ (fun r1 σ1 => r1 = none ∧ WP g 0 45 (d + 1) M_X2_bestLevelGoingDown 40 [(0, .ref (eA g 0)), (2, .int x1), (3, .int x1), (4, .int (nI 0)), (5, .int (sI σ 7 (nI 0).toNatClampNeg)), (6, .int (nI 1))] [] σ1 K)) : Runs g 0 45 (d + 1) M_X2_bestLevelGoingDown [.ref (eA g 0), .int x1] σ K := by
  refine Runs.of (by decide) (Nat.le_of_ble_eq_true rfl) ?_
  show WP g 0 45 (d + 1) M_X2_bestLevelGoingDown 0 [(0, .ref (eA g 0)), (1, .int x1)] [] σ K
  refine wp_iload_n 1 dX2_bestLevelGoingDown_0 rfl rfl ?_
  refine wp_istore_n (lv' := [(2, .int x1), (0, .ref (eA g 0)), (1, .int x1)]) dX2_bestLevelGoingDown_1 rfl (by decide) rfl ?_
  refine wp_iload_n 0 dX2_bestLevelGoingDown_2 rfl rfl ?_
  refine wp_istore_n (lv' := [(3, .int x1), (2, .int x1), (0, .ref (eA g 0)), (1, .int x1)]) dX2_bestLevelGoingDown_3 rfl (by decide) rfl ?_
  refine wp_iconst (nI 0) dX2_bestLevelGoingDown_4 (by decide) ?_
  refine wp_istore (lv' := [(4, .int (nI 0)), (3, .int x1), (2, .int x1), (0, .ref (eA g 0)), (1, .int x1)]) dX2_bestLevelGoingDown_5 (by decide) rfl ?_
  refine wp_aload_n 3 dX2_bestLevelGoingDown_7 rfl rfl ?_
  refine wp_get 0 1 5 (by decide) (by decide) rfl rfl inG2 (by decide) wf_X2_32 rfl dX2_bestLevelGoingDown_8 ?_
  refine wp_getN 6 0 0 (by decide) (by decide) rfl rfl inG1 (by decide) wn_X2_179 rfl dX2_bestLevelGoingDown_11 ?_
  refine wp_iconst (nI 0) dX2_bestLevelGoingDown_14 (by decide) ?_
  refine wp_iald (by decide) (by decide) dX2_bestLevelGoingDown_15 h.1 ?_
  replace h := h.2
  refine wp_istore (lv' := [(5, .int (sI σ 7 (nI 0).toNatClampNeg)), (4, .int (nI 0)), (3, .int x1), (2, .int x1), (0, .ref (eA g 0)), (1, .int x1)]) dX2_bestLevelGoingDown_16 (by decide) rfl ?_
  refine wp_aload_n 4 dX2_bestLevelGoingDown_18 rfl rfl ?_
  refine wp_get 0 1 5 (by decide) (by decide) rfl rfl inG2 (by decide) wf_X2_32 rfl dX2_bestLevelGoingDown_19 ?_
  refine wp_aload_n 4 dX2_bestLevelGoingDown_22 rfl rfl ?_
  refine wp_get 0 1 0 (by decide) (by decide) rfl rfl inG2 (by decide) wf_X2_13 rfl dX2_bestLevelGoingDown_23 ?_
  refine wp_iconst (nI 0) dX2_bestLevelGoingDown_26 (by decide) ?_
  refine wp_bipush (nI 31) dX2_bestLevelGoingDown_27 (by decide) ?_
  refine wp_iconst (-1) dX2_bestLevelGoingDown_29 (by decide) ?_
  refine wp_aload_n 4 dX2_bestLevelGoingDown_30 rfl rfl ?_
  refine wp_get 0 1 6 (by decide) (by decide) rfl rfl inG2 (by decide) wf_X2_94 rfl dX2_bestLevelGoingDown_31 ?_
  refine wp_callVN [.ref (eA g 1), .int (nI 0), .int (nI 31), .int (-1), .int (sV σ 0)] [] 6 0 (by decide) (by decide) rfl rfl wc_X1_list wn_X2_221 ws_X1_list we_X1_list wi_X1 ok_X1_list (by decide) (Nat.le_of_ble_eq_true rfl) dX2_bestLevelGoingDown_34 rfl h ?_
  rintro r1 σ1 ⟨rfl, h⟩
  show WP g 0 45 (d + 1) M_X2_bestLevelGoingDown 37 [(5, .int (sI σ 7 (nI 0).toNatClampNeg)), (4, .int (nI 0)), (3, .int x1), (2, .int x1), (0, .ref (eA g 0)), (1, .int x1)] [] σ1 K
  refine wp_iconst (nI 1) dX2_bestLevelGoingDown_37 (by decide) ?_
  refine wp_istore (lv' := [(6, .int (nI 1)), (5, .int (sI σ 7 (nI 0).toNatClampNeg)), (4, .int (nI 0)), (3, .int x1), (2, .int x1), (0, .ref (eA g 0)), (1, .int x1)]) dX2_bestLevelGoingDown_38 (by decide) rfl ?_
  exact wp_sub [5, 4, 3, 2, 1, 0] rfl h
set_option maxRecDepth 100000 in
set_option maxHeartbeats 4000000 in
theorem R_X2_bestLevelGoingDown_40 (g : Ev) (d : Nat) (x2 : Int32) (x3 : Int32) (x4 : Int32) (x5 : Int32) (x6 : Int32) (σ : St) (K : Option Value → St → Prop) (h : (((sV σ 0) ≤ x6 → K (some (.int x4)) σ) ∧ (¬ (sV σ 0) ≤ x6 → vp_in x6 (lenI 7) ∧ Runs g 0 45 d M_X2_turn [.ref (eA g 0), .int (x6 - (nI 1))] σ (fun r1 σ1 => r1 = none ∧ Runs g 0 45 d M_X2_placeAt [.ref (eA g 0), .int (x6 - (nI 1))] σ1 (fun r2 σ2 => ∃ v2 : Int32, r2 = some (.int v2) ∧ Runs g 0 45 d M_X1_cut [.ref (eA g 6), .ref (eA g 1), .int (jshl (nI 1) v2)] σ2 (fun r3 σ3 => ∃ v3 : Int32, r3 = some (.int v3) ∧ Runs g 0 45 d M_X2_placeAt [.ref (eA g 0), .int x6] σ3 (fun r4 σ4 => ∃ v4 : Int32, r4 = some (.int v4) ∧ Runs g 0 45 d M_X1_forksListed [.ref (eA g 6), .ref (eA g 1), .int (jshl (nI 1) v4)] σ4 (fun r5 σ5 => ∃ v5 : Int32, r5 = some (.int v5) ∧ ((x3 ≤ (x2 + ((v3 + v5) - (x5 + (sI σ 7 x6.toNatClampNeg)))) → WP g 0 45 (d + 1) M_X2_bestLevelGoingDown 40 [(0, .ref (eA g 0)), (2, .int (x2 + ((v3 + v5) - (x5 + (sI σ 7 x6.toNatClampNeg))))), (3, .int x3), (4, .int x4), (5, .int v5), (6, .int (x6 + (nI 1)))] [] σ5 K) ∧ (¬ x3 ≤ (x2 + ((v3 + v5) - (x5 + (sI σ 7 x6.toNatClampNeg)))) → WP g 0 45 (d + 1) M_X2_bestLevelGoingDown 40 [(0, .ref (eA g 0)), (2, .int (x2 + ((v3 + v5) - (x5 + (sI σ 7 x6.toNatClampNeg))))), (3, .int (x2 + ((v3 + v5) - (x5 + (sI σ 7 x6.toNatClampNeg))))), (4, .int x6), (5, .int v5), (6, .int (x6 + (nI 1)))] [] σ5 K)))))))))) : WP g 0 45 (d + 1) M_X2_bestLevelGoingDown 40 [(0, .ref (eA g 0)), (2, .int x2), (3, .int x3), (4, .int x4), (5, .int x5), (6, .int x6)] [] σ K := by
  refine wp_iload 5 dX2_bestLevelGoingDown_40 rfl ?_
  refine wp_aload_n 0 dX2_bestLevelGoingDown_42 rfl rfl ?_
  refine wp_get 0 1 6 (by decide) (by decide) rfl rfl inG2 (by decide) wf_X2_94 rfl dX2_bestLevelGoingDown_43 ?_
  refine wp_icmp_ge 144 dX2_bestLevelGoingDown_46 (by decide) (fun c => ?_) (fun c => ?_)
  · replace h := h.1 c
    refine wp_iload 3 dX2_bestLevelGoingDown_144 rfl ?_
    exact wp_iret rfl dX2_bestLevelGoingDown_146 h
  · replace h := h.2 c
    refine wp_iload 4 dX2_bestLevelGoingDown_49 rfl ?_
    refine wp_aload_n 0 dX2_bestLevelGoingDown_51 rfl rfl ?_
    refine wp_get 0 1 5 (by decide) (by decide) rfl rfl inG2 (by decide) wf_X2_32 rfl dX2_bestLevelGoingDown_52 ?_
    refine wp_getN 6 0 0 (by decide) (by decide) rfl rfl inG1 (by decide) wn_X2_179 rfl dX2_bestLevelGoingDown_55 ?_
    refine wp_iload 5 dX2_bestLevelGoingDown_58 rfl ?_
    refine wp_iald (by decide) (by decide) dX2_bestLevelGoingDown_60 h.1 ?_
    replace h := h.2
    refine wp_iadd dX2_bestLevelGoingDown_61 ?_
    refine wp_istore (lv' := [(7, .int (x5 + (sI σ 7 x6.toNatClampNeg))), (0, .ref (eA g 0)), (2, .int x2), (3, .int x3), (4, .int x4), (5, .int x5), (6, .int x6)]) dX2_bestLevelGoingDown_62 (by decide) rfl ?_
    refine wp_aload_n 1 dX2_bestLevelGoingDown_64 rfl rfl ?_
    refine wp_iload 6 dX2_bestLevelGoingDown_65 rfl ?_
    refine wp_iconst (nI 1) dX2_bestLevelGoingDown_67 (by decide) ?_
    refine wp_isub dX2_bestLevelGoingDown_68 ?_
    refine wp_callV [.int (x6 - (nI 1))] [] 0 1 (by decide) (by decide) rfl rfl wc_X2_turn wm_X2_130 ws_X2_turn we_X2_turn wi_X2 ok_X2_turn (by decide) (Nat.le_of_ble_eq_true rfl) dX2_bestLevelGoingDown_69 rfl h ?_
    rintro r1 σ1 ⟨rfl, h⟩
    show WP g 0 45 (d + 1) M_X2_bestLevelGoingDown 72 [(7, .int (x5 + (sI σ 7 x6.toNatClampNeg))), (0, .ref (eA g 0)), (2, .int x2), (3, .int x3), (4, .int x4), (5, .int x5), (6, .int x6)] [] σ1 K
    refine wp_aload_n 1 dX2_bestLevelGoingDown_72 rfl rfl ?_
    refine wp_get 0 1 5 (by decide) (by decide) rfl rfl inG2 (by decide) wf_X2_32 rfl dX2_bestLevelGoingDown_73 ?_
    refine wp_aload_n 1 dX2_bestLevelGoingDown_76 rfl rfl ?_
    refine wp_get 0 1 0 (by decide) (by decide) rfl rfl inG2 (by decide) wf_X2_13 rfl dX2_bestLevelGoingDown_77 ?_
    refine wp_iconst (nI 1) dX2_bestLevelGoingDown_80 (by decide) ?_
    refine wp_aload_n 1 dX2_bestLevelGoingDown_81 rfl rfl ?_
    refine wp_iload 6 dX2_bestLevelGoingDown_82 rfl ?_
    refine wp_iconst (nI 1) dX2_bestLevelGoingDown_84 (by decide) ?_
    refine wp_isub dX2_bestLevelGoingDown_85 ?_
    refine wp_callV [.int (x6 - (nI 1))] [.int (nI 1), .ref (eA g 1), .ref (eA g 6)] 0 1 (by decide) (by decide) rfl rfl wc_X2_placeAt wm_X2_191 ws_X2_placeAt we_X2_placeAt wi_X2 ok_X2_placeAt (by decide) (Nat.le_of_ble_eq_true rfl) dX2_bestLevelGoingDown_86 rfl h ?_
    rintro r2 σ2 ⟨v2, rfl, h⟩
    show WP g 0 45 (d + 1) M_X2_bestLevelGoingDown 89 [(7, .int (x5 + (sI σ 7 x6.toNatClampNeg))), (0, .ref (eA g 0)), (2, .int x2), (3, .int x3), (4, .int x4), (5, .int x5), (6, .int x6)] [.int v2, .int (nI 1), .ref (eA g 1), .ref (eA g 6)] σ2 K
    refine wp_ishl dX2_bestLevelGoingDown_89 ?_
    refine wp_callVN [.ref (eA g 1), .int (jshl (nI 1) v2)] [] 6 0 (by decide) (by decide) rfl rfl wc_X1_cut wn_X2_225 ws_X1_cut we_X1_cut wi_X1 ok_X1_cut (by decide) (Nat.le_of_ble_eq_true rfl) dX2_bestLevelGoingDown_90 rfl h ?_
    rintro r3 σ3 ⟨v3, rfl, h⟩
    show WP g 0 45 (d + 1) M_X2_bestLevelGoingDown 93 [(7, .int (x5 + (sI σ 7 x6.toNatClampNeg))), (0, .ref (eA g 0)), (2, .int x2), (3, .int x3), (4, .int x4), (5, .int x5), (6, .int x6)] [.int v3] σ3 K
    refine wp_istore (lv' := [(8, .int v3), (7, .int (x5 + (sI σ 7 x6.toNatClampNeg))), (0, .ref (eA g 0)), (2, .int x2), (3, .int x3), (4, .int x4), (5, .int x5), (6, .int x6)]) dX2_bestLevelGoingDown_93 (by decide) rfl ?_
    refine wp_aload_n 2 dX2_bestLevelGoingDown_95 rfl rfl ?_
    refine wp_get 0 1 5 (by decide) (by decide) rfl rfl inG2 (by decide) wf_X2_32 rfl dX2_bestLevelGoingDown_96 ?_
    refine wp_aload_n 2 dX2_bestLevelGoingDown_99 rfl rfl ?_
    refine wp_get 0 1 0 (by decide) (by decide) rfl rfl inG2 (by decide) wf_X2_13 rfl dX2_bestLevelGoingDown_100 ?_
    refine wp_iconst (nI 1) dX2_bestLevelGoingDown_103 (by decide) ?_
    refine wp_aload_n 2 dX2_bestLevelGoingDown_104 rfl rfl ?_
    refine wp_iload 7 dX2_bestLevelGoingDown_105 rfl ?_
    refine wp_callV [.int x6] [.int (nI 1), .ref (eA g 1), .ref (eA g 6)] 0 1 (by decide) (by decide) rfl rfl wc_X2_placeAt wm_X2_191 ws_X2_placeAt we_X2_placeAt wi_X2 ok_X2_placeAt (by decide) (Nat.le_of_ble_eq_true rfl) dX2_bestLevelGoingDown_107 rfl h ?_
    rintro r4 σ4 ⟨v4, rfl, h⟩
    show WP g 0 45 (d + 1) M_X2_bestLevelGoingDown 110 [(8, .int v3), (7, .int (x5 + (sI σ 7 x6.toNatClampNeg))), (0, .ref (eA g 0)), (2, .int x2), (3, .int x3), (4, .int x4), (5, .int x5), (6, .int x6)] [.int v4, .int (nI 1), .ref (eA g 1), .ref (eA g 6)] σ4 K
    refine wp_ishl dX2_bestLevelGoingDown_110 ?_
    refine wp_callVN [.ref (eA g 1), .int (jshl (nI 1) v4)] [] 6 0 (by decide) (by decide) rfl rfl wc_X1_forksListed wn_X2_229 ws_X1_forksListed we_X1_forksListed wi_X1 ok_X1_forksListed (by decide) (Nat.le_of_ble_eq_true rfl) dX2_bestLevelGoingDown_111 rfl h ?_
    rintro r5 σ5 ⟨v5, rfl, h⟩
    show WP g 0 45 (d + 1) M_X2_bestLevelGoingDown 114 [(8, .int v3), (7, .int (x5 + (sI σ 7 x6.toNatClampNeg))), (0, .ref (eA g 0)), (2, .int x2), (3, .int x3), (4, .int x4), (5, .int x5), (6, .int x6)] [.int v5] σ5 K
    refine wp_istore (lv' := [(5, .int v5), (8, .int v3), (7, .int (x5 + (sI σ 7 x6.toNatClampNeg))), (0, .ref (eA g 0)), (2, .int x2), (3, .int x3), (4, .int x4), (6, .int x6)]) dX2_bestLevelGoingDown_114 (by decide) rfl ?_
    refine wp_iload_n 4 dX2_bestLevelGoingDown_116 rfl rfl ?_
    refine wp_iload 1 dX2_bestLevelGoingDown_117 rfl ?_
    refine wp_iload 0 dX2_bestLevelGoingDown_119 rfl ?_
    refine wp_iadd dX2_bestLevelGoingDown_121 ?_
    refine wp_iload 2 dX2_bestLevelGoingDown_122 rfl ?_
    refine wp_isub dX2_bestLevelGoingDown_124 ?_
    refine wp_iadd dX2_bestLevelGoingDown_125 ?_
    refine wp_istore_n (lv' := [(2, .int (x2 + ((v3 + v5) - (x5 + (sI σ 7 x6.toNatClampNeg))))), (5, .int v5), (8, .int v3), (7, .int (x5 + (sI σ 7 x6.toNatClampNeg))), (0, .ref (eA g 0)), (3, .int x3), (4, .int x4), (6, .int x6)]) dX2_bestLevelGoingDown_126 rfl (by decide) rfl ?_
    refine wp_iload_n 0 dX2_bestLevelGoingDown_127 rfl rfl ?_
    refine wp_iload_n 5 dX2_bestLevelGoingDown_128 rfl rfl ?_
    refine wp_icmp_ge 138 dX2_bestLevelGoingDown_129 (by decide) (fun c => ?_) (fun c => ?_)
    · replace h := h.1 c
      refine wp_iinc 7 (nI 1) (lv' := [(6, .int (x6 + (nI 1))), (2, .int (x2 + ((v3 + v5) - (x5 + (sI σ 7 x6.toNatClampNeg))))), (5, .int v5), (8, .int v3), (7, .int (x5 + (sI σ 7 x6.toNatClampNeg))), (0, .ref (eA g 0)), (3, .int x3), (4, .int x4)]) dX2_bestLevelGoingDown_138 (by decide) rfl (by decide) rfl ?_
      refine wp_goto 40 dX2_bestLevelGoingDown_141 (by decide) ?_
      exact wp_sub [5, 1, 6, 7, 2, 0] rfl h
    · replace h := h.2 c
      refine wp_iload_n 0 dX2_bestLevelGoingDown_132 rfl rfl ?_
      refine wp_istore_n (lv' := [(3, .int (x2 + ((v3 + v5) - (x5 + (sI σ 7 x6.toNatClampNeg))))), (2, .int (x2 + ((v3 + v5) - (x5 + (sI σ 7 x6.toNatClampNeg))))), (5, .int v5), (8, .int v3), (7, .int (x5 + (sI σ 7 x6.toNatClampNeg))), (0, .ref (eA g 0)), (4, .int x4), (6, .int x6)]) dX2_bestLevelGoingDown_133 rfl (by decide) rfl ?_
      refine wp_iload 7 dX2_bestLevelGoingDown_134 rfl ?_
      refine wp_istore (lv' := [(4, .int x6), (3, .int (x2 + ((v3 + v5) - (x5 + (sI σ 7 x6.toNatClampNeg))))), (2, .int (x2 + ((v3 + v5) - (x5 + (sI σ 7 x6.toNatClampNeg))))), (5, .int v5), (8, .int v3), (7, .int (x5 + (sI σ 7 x6.toNatClampNeg))), (0, .ref (eA g 0)), (6, .int x6)]) dX2_bestLevelGoingDown_136 (by decide) rfl ?_
      refine wp_iinc 7 (nI 1) (lv' := [(6, .int (x6 + (nI 1))), (4, .int x6), (3, .int (x2 + ((v3 + v5) - (x5 + (sI σ 7 x6.toNatClampNeg))))), (2, .int (x2 + ((v3 + v5) - (x5 + (sI σ 7 x6.toNatClampNeg))))), (5, .int v5), (8, .int v3), (7, .int (x5 + (sI σ 7 x6.toNatClampNeg))), (0, .ref (eA g 0))]) dX2_bestLevelGoingDown_138 (by decide) rfl (by decide) rfl ?_
      refine wp_goto 40 dX2_bestLevelGoingDown_141 (by decide) ?_
      exact wp_sub [7, 3, 2, 1, 4, 0] rfl h
set_option maxRecDepth 100000 in
set_option maxHeartbeats 4000000 in
theorem E_X2_turn (g : Ev) (d : Nat) (x1 : Int32) (σ : St) (K : Option Value → St → Prop) (h : vp_in x1 (lenI 2) ∧ vp_in (x1 + (nI 1)) (lenI 2) ∧ vp_in x1 (lenI 2) ∧ vp_in (x1 + (nI 1)) (lenI 2) ∧ WP g 0 45 (d + 1) M_X2_turn 32 [(0, .ref (eA g 0)), (1, .int x1), (3, .int (nI 0))] [] (uI (uI σ 2 x1.toNatClampNeg (sI σ 2 (x1 + (nI 1)).toNatClampNeg)) 2 (x1 + (nI 1)).toNatClampNeg (sI σ 2 x1.toNatClampNeg)) K) : Runs g 0 45 (d + 1) M_X2_turn [.ref (eA g 0), .int x1] σ K := by
  refine Runs.of (by decide) (Nat.le_of_ble_eq_true rfl) ?_
  show WP g 0 45 (d + 1) M_X2_turn 0 [(0, .ref (eA g 0)), (1, .int x1)] [] σ K
  refine wp_aload_n 0 dX2_turn_0 rfl rfl ?_
  refine wp_get 0 1 1 (by decide) (by decide) rfl rfl inG2 (by decide) wf_X2_16 rfl dX2_turn_1 ?_
  refine wp_iload_n 1 dX2_turn_4 rfl rfl ?_
  refine wp_iald (by decide) (by decide) dX2_turn_5 h.1 ?_
  replace h := h.2
  refine wp_istore_n (lv' := [(2, .int (sI σ 2 x1.toNatClampNeg)), (0, .ref (eA g 0)), (1, .int x1)]) dX2_turn_6 rfl (by decide) rfl ?_
  refine wp_aload_n 1 dX2_turn_7 rfl rfl ?_
  refine wp_get 0 1 1 (by decide) (by decide) rfl rfl inG2 (by decide) wf_X2_16 rfl dX2_turn_8 ?_
  refine wp_iload_n 2 dX2_turn_11 rfl rfl ?_
  refine wp_aload_n 1 dX2_turn_12 rfl rfl ?_
  refine wp_get 0 1 1 (by decide) (by decide) rfl rfl inG2 (by decide) wf_X2_16 rfl dX2_turn_13 ?_
  refine wp_iload_n 2 dX2_turn_16 rfl rfl ?_
  refine wp_iconst (nI 1) dX2_turn_17 (by decide) ?_
  refine wp_iadd dX2_turn_18 ?_
  refine wp_iald (by decide) (by decide) dX2_turn_19 h.1 ?_
  replace h := h.2
  refine wp_iast (by decide) (by decide) dX2_turn_20 h.1 ?_
  replace h := h.2
  refine wp_aload_n 1 dX2_turn_21 rfl rfl ?_
  refine wp_get 0 1 1 (by decide) (by decide) rfl rfl inG2 (by decide) wf_X2_16 rfl dX2_turn_22 ?_
  refine wp_iload_n 2 dX2_turn_25 rfl rfl ?_
  refine wp_iconst (nI 1) dX2_turn_26 (by decide) ?_
  refine wp_iadd dX2_turn_27 ?_
  refine wp_iload_n 0 dX2_turn_28 rfl rfl ?_
  refine wp_iast (by decide) (by decide) dX2_turn_29 h.1 ?_
  replace h := h.2
  refine wp_iconst (nI 0) dX2_turn_30 (by decide) ?_
  refine wp_istore_n (lv' := [(3, .int (nI 0)), (2, .int (sI σ 2 x1.toNatClampNeg)), (0, .ref (eA g 0)), (1, .int x1)]) dX2_turn_31 rfl (by decide) rfl ?_
  exact wp_sub [2, 3, 0] rfl h
set_option maxRecDepth 100000 in
set_option maxHeartbeats 4000000 in
theorem R_X2_turn_32 (g : Ev) (d : Nat) (x1 : Int32) (x3 : Int32) (σ : St) (K : Option Value → St → Prop) (h : (((nI 32) ≤ x3 → K none σ) ∧ (¬ (nI 32) ≤ x3 → vp_in x3 34 ∧ Runs g 0 45 d M_X2_placeAt [.ref (eA g 0), .int x1] σ (fun r1 σ1 => ∃ v1 : Int32, r1 = some (.int v1) ∧ Runs g 0 45 d M_X2_placeAt [.ref (eA g 0), .int (x1 + (nI 1))] σ1 (fun r2 σ2 => ∃ v2 : Int32, r2 = some (.int v2) ∧ Runs g 0 45 d M_X0_exchange [.ref (eA g (11 + x3.toNatClampNeg)), .int (sV σ 2), .int v1, .int v2] σ2 (fun r3 σ3 => r3 = none ∧ WP g 0 45 (d + 1) M_X2_turn 32 [(0, .ref (eA g 0)), (1, .int x1), (3, .int (x3 + (nI 1)))] [] σ3 K)))))) : WP g 0 45 (d + 1) M_X2_turn 32 [(0, .ref (eA g 0)), (1, .int x1), (3, .int x3)] [] σ K := by
  refine wp_iload_n 2 dX2_turn_32 rfl rfl ?_
  refine wp_bipush (nI 32) dX2_turn_33 (by decide) ?_
  refine wp_icmp_ge 69 dX2_turn_35 (by decide) (fun c => ?_) (fun c => ?_)
  · replace h := h.1 c
    exact wp_vret rfl dX2_turn_69 h
  · replace h := h.2 c
    refine wp_aload_n 0 dX2_turn_38 rfl rfl ?_
    refine wp_get 0 1 0 (by decide) (by decide) rfl rfl inG2 (by decide) wf_X2_13 rfl dX2_turn_39 ?_
    refine wp_iload_n 2 dX2_turn_42 rfl rfl ?_
    refine wp_aald (by decide) (by decide) dX2_turn_43 h.1 ?_
    replace h := h.2
    refine wp_aload_n 0 dX2_turn_44 rfl rfl ?_
    refine wp_get 0 1 8 (by decide) (by decide) rfl rfl inG2 (by decide) wf_X2_44 rfl dX2_turn_45 ?_
    refine wp_aload_n 0 dX2_turn_48 rfl rfl ?_
    refine wp_iload_n 1 dX2_turn_49 rfl rfl ?_
    refine wp_callV [.int x1] [.int (sV σ 2), .ref (eA g (11 + x3.toNatClampNeg))] 0 1 (by decide) (by decide) rfl rfl wc_X2_placeAt wm_X2_191 ws_X2_placeAt we_X2_placeAt wi_X2 ok_X2_placeAt (by decide) (Nat.le_of_ble_eq_true rfl) dX2_turn_50 rfl h ?_
    rintro r1 σ1 ⟨v1, rfl, h⟩
    show WP g 0 45 (d + 1) M_X2_turn 53 [(0, .ref (eA g 0)), (1, .int x1), (3, .int x3)] [.int v1, .int (sV σ 2), .ref (eA g (11 + x3.toNatClampNeg))] σ1 K
    refine wp_aload_n 0 dX2_turn_53 rfl rfl ?_
    refine wp_iload_n 1 dX2_turn_54 rfl rfl ?_
    refine wp_iconst (nI 1) dX2_turn_55 (by decide) ?_
    refine wp_iadd dX2_turn_56 ?_
    refine wp_callV [.int (x1 + (nI 1))] [.int v1, .int (sV σ 2), .ref (eA g (11 + x3.toNatClampNeg))] 0 1 (by decide) (by decide) rfl rfl wc_X2_placeAt wm_X2_191 ws_X2_placeAt we_X2_placeAt wi_X2 ok_X2_placeAt (by decide) (Nat.le_of_ble_eq_true rfl) dX2_turn_57 rfl h ?_
    rintro r2 σ2 ⟨v2, rfl, h⟩
    show WP g 0 45 (d + 1) M_X2_turn 60 [(0, .ref (eA g 0)), (1, .int x1), (3, .int x3)] [.int v2, .int v1, .int (sV σ 2), .ref (eA g (11 + x3.toNatClampNeg))] σ2 K
    refine wp_callSN [.ref (eA g (11 + x3.toNatClampNeg)), .int (sV σ 2), .int v1, .int v2] [] wc_X0_exchange wn_X2_101 ws_X0_exchange wi_X0 ok_X0_exchange (by decide) (Nat.le_of_ble_eq_true rfl) dX2_turn_60 rfl h ?_
    rintro r3 σ3 ⟨rfl, h⟩
    show WP g 0 45 (d + 1) M_X2_turn 63 [(0, .ref (eA g 0)), (1, .int x1), (3, .int x3)] [] σ3 K
    refine wp_iinc 2 (nI 1) (lv' := [(3, .int (x3 + (nI 1))), (0, .ref (eA g 0)), (1, .int x1)]) dX2_turn_63 (by decide) rfl (by decide) rfl ?_
    refine wp_goto 32 dX2_turn_66 (by decide) ?_
    exact wp_sub [1, 2, 0] rfl h
set_option maxRecDepth 100000 in
set_option maxHeartbeats 4000000 in
theorem E_X2_differsBy (g : Ev) (d : Nat) (k1 : Nat) (x2 : Int32) (σ : St) (K : Option Value → St → Prop) (h : WP g 0 45 (d + 1) M_X2_differsBy 2 [(0, .ref (eA g 0)), (1, .ref (eA g k1)), (2, .int x2), (3, .int (nI 0))] [] σ K) : Runs g 0 45 (d + 1) M_X2_differsBy [.ref (eA g 0), .ref (eA g k1), .int x2] σ K := by
  refine Runs.of (by decide) (Nat.le_of_ble_eq_true rfl) ?_
  show WP g 0 45 (d + 1) M_X2_differsBy 0 [(0, .ref (eA g 0)), (1, .ref (eA g k1)), (2, .int x2)] [] σ K
  refine wp_iconst (nI 0) dX2_differsBy_0 (by decide) ?_
  refine wp_istore_n (lv' := [(3, .int (nI 0)), (0, .ref (eA g 0)), (1, .ref (eA g k1)), (2, .int x2)]) dX2_differsBy_1 rfl (by decide) rfl ?_
  exact wp_sub [1, 2, 3, 0] rfl h
set_option maxRecDepth 100000 in
set_option maxHeartbeats 4000000 in
theorem R_X2_differsBy_2 (g : Ev) (d : Nat) (k1 : Nat) (x2 : Int32) (x3 : Int32) (σ : St) (K : Option Value → St → Prop) (h : (((sV σ 2) ≤ x3 → K (some (.int (nI 0))) σ) ∧ (¬ (sV σ 2) ≤ x3 → Runs g 0 45 d M_X0_fixedWord [.ref (eA g k1), .int x3, .int x2, .int (nI 1)] σ (fun r1 σ1 => ∃ v1 : Int64, r1 = some (.long v1) ∧ Runs g 0 45 d M_X0_fixedWord [.ref (eA g k1), .int x3, .int x2, .int (nI 0)] σ1 (fun r2 σ2 => ∃ v2 : Int64, r2 = some (.long v2) ∧ (((lg_cmp v1 v2) = nI 0 → WP g 0 45 (d + 1) M_X2_differsBy 2 [(0, .ref (eA g 0)), (1, .ref (eA g k1)), (2, .int x2), (3, .int (x3 + (nI 1)))] [] σ2 K) ∧ (¬ (lg_cmp v1 v2) = nI 0 → K (some (.int (nI 1))) σ2))))))) : WP g 0 45 (d + 1) M_X2_differsBy 2 [(0, .ref (eA g 0)), (1, .ref (eA g k1)), (2, .int x2), (3, .int x3)] [] σ K := by
  refine wp_iload_n 3 dX2_differsBy_2 rfl rfl ?_
  refine wp_aload_n 0 dX2_differsBy_3 rfl rfl ?_
  refine wp_get 0 1 8 (by decide) (by decide) rfl rfl inG2 (by decide) wf_X2_44 rfl dX2_differsBy_4 ?_
  refine wp_icmp_ge 36 dX2_differsBy_7 (by decide) (fun c => ?_) (fun c => ?_)
  · replace h := h.1 c
    refine wp_iconst (nI 0) dX2_differsBy_36 (by decide) ?_
    exact wp_zret rfl rfl dX2_differsBy_37 h
  · replace h := h.2 c
    refine wp_aload_n 1 dX2_differsBy_10 rfl rfl ?_
    refine wp_iload_n 3 dX2_differsBy_11 rfl rfl ?_
    refine wp_iload_n 2 dX2_differsBy_12 rfl rfl ?_
    refine wp_iconst (nI 1) dX2_differsBy_13 (by decide) ?_
    refine wp_callSN [.ref (eA g k1), .int x3, .int x2, .int (nI 1)] [] wc_X0_fixedWord wn_X2_83 ws_X0_fixedWord wi_X0 ok_X0_fixedWord (by decide) (Nat.le_of_ble_eq_true rfl) dX2_differsBy_14 rfl h ?_
    rintro r1 σ1 ⟨v1, rfl, h⟩
    show WP g 0 45 (d + 1) M_X2_differsBy 17 [(0, .ref (eA g 0)), (1, .ref (eA g k1)), (2, .int x2), (3, .int x3)] [.long v1] σ1 K
    refine wp_aload_n 1 dX2_differsBy_17 rfl rfl ?_
    refine wp_iload_n 3 dX2_differsBy_18 rfl rfl ?_
    refine wp_iload_n 2 dX2_differsBy_19 rfl rfl ?_
    refine wp_iconst (nI 0) dX2_differsBy_20 (by decide) ?_
    refine wp_callSN [.ref (eA g k1), .int x3, .int x2, .int (nI 0)] [.long v1] wc_X0_fixedWord wn_X2_83 ws_X0_fixedWord wi_X0 ok_X0_fixedWord (by decide) (Nat.le_of_ble_eq_true rfl) dX2_differsBy_21 rfl h ?_
    rintro r2 σ2 ⟨v2, rfl, h⟩
    show WP g 0 45 (d + 1) M_X2_differsBy 24 [(0, .ref (eA g 0)), (1, .ref (eA g k1)), (2, .int x2), (3, .int x3)] [.long v2, .long v1] σ2 K
    refine wp_lcmp dX2_differsBy_24 ?_
    refine wp_if_eq 30 dX2_differsBy_25 (by decide) (fun c => ?_) (fun c => ?_)
    · replace h := h.1 c
      refine wp_iinc 3 (nI 1) (lv' := [(3, .int (x3 + (nI 1))), (0, .ref (eA g 0)), (1, .ref (eA g k1)), (2, .int x2)]) dX2_differsBy_30 (by decide) rfl (by decide) rfl ?_
      refine wp_goto 2 dX2_differsBy_33 (by decide) ?_
      exact wp_sub [1, 2, 3, 0] rfl h
    · replace h := h.2 c
      refine wp_iconst (nI 1) dX2_differsBy_28 (by decide) ?_
      exact wp_zret rfl rfl dX2_differsBy_29 h
set_option maxRecDepth 100000 in
set_option maxHeartbeats 4000000 in
theorem E_X2_isAll (g : Ev) (d : Nat) (x1 : Int32) (l2 : Int64) (σ : St) (K : Option Value → St → Prop) (h : WP g 0 45 (d + 1) M_X2_isAll 3 [(0, .ref (eA g 0)), (1, .int x1), (2, .long l2), (4, .int (nI 0))] [] σ K) : Runs g 0 45 (d + 1) M_X2_isAll [.ref (eA g 0), .int x1, .long l2] σ K := by
  refine Runs.of (by decide) (Nat.le_of_ble_eq_true rfl) ?_
  show WP g 0 45 (d + 1) M_X2_isAll 0 [(0, .ref (eA g 0)), (1, .int x1), (2, .long l2)] [] σ K
  refine wp_iconst (nI 0) dX2_isAll_0 (by decide) ?_
  refine wp_istore (lv' := [(4, .int (nI 0)), (0, .ref (eA g 0)), (1, .int x1), (2, .long l2)]) dX2_isAll_1 (by decide) rfl ?_
  exact wp_sub [1, 2, 3, 0] rfl h
set_option maxRecDepth 100000 in
set_option maxHeartbeats 4000000 in
theorem R_X2_isAll_3 (g : Ev) (d : Nat) (x1 : Int32) (l2 : Int64) (x4 : Int32) (σ : St) (K : Option Value → St → Prop) (h : (((sV σ 2) ≤ x4 → K (some (.int (nI 1))) σ) ∧ (¬ (sV σ 2) ≤ x4 → vp_in x1 34 ∧ vp_in x4 (lenJ (11 + x1.toNatClampNeg)) ∧ (((lg_cmp (sL σ (11 + x1.toNatClampNeg) x4.toNatClampNeg) l2) = nI 0 → WP g 0 45 (d + 1) M_X2_isAll 3 [(0, .ref (eA g 0)), (1, .int x1), (2, .long l2), (4, .int (x4 + (nI 1)))] [] σ K) ∧ (¬ (lg_cmp (sL σ (11 + x1.toNatClampNeg) x4.toNatClampNeg) l2) = nI 0 → K (some (.int (nI 0))) σ))))) : WP g 0 45 (d + 1) M_X2_isAll 3 [(0, .ref (eA g 0)), (1, .int x1), (2, .long l2), (4, .int x4)] [] σ K := by
  refine wp_iload 3 dX2_isAll_3 rfl ?_
  refine wp_aload_n 0 dX2_isAll_5 rfl rfl ?_
  refine wp_get 0 1 8 (by decide) (by decide) rfl rfl inG2 (by decide) wf_X2_44 rfl dX2_isAll_6 ?_
  refine wp_icmp_ge 34 dX2_isAll_9 (by decide) (fun c => ?_) (fun c => ?_)
  · replace h := h.1 c
    refine wp_iconst (nI 1) dX2_isAll_34 (by decide) ?_
    exact wp_zret rfl rfl dX2_isAll_35 h
  · replace h := h.2 c
    refine wp_aload_n 0 dX2_isAll_12 rfl rfl ?_
    refine wp_get 0 1 0 (by decide) (by decide) rfl rfl inG2 (by decide) wf_X2_13 rfl dX2_isAll_13 ?_
    refine wp_iload_n 1 dX2_isAll_16 rfl rfl ?_
    refine wp_aald (by decide) (by decide) dX2_isAll_17 h.1 ?_
    replace h := h.2
    refine wp_iload 3 dX2_isAll_18 rfl ?_
    refine wp_lald (Nat.zero_le _) (lenJ_hi h.1) dX2_isAll_20 h.1 ?_
    replace h := h.2
    refine wp_lload_n 2 dX2_isAll_21 rfl rfl ?_
    refine wp_lcmp dX2_isAll_22 ?_
    refine wp_if_eq 28 dX2_isAll_23 (by decide) (fun c => ?_) (fun c => ?_)
    · replace h := h.1 c
      refine wp_iinc 3 (nI 1) (lv' := [(4, .int (x4 + (nI 1))), (0, .ref (eA g 0)), (1, .int x1), (2, .long l2)]) dX2_isAll_28 (by decide) rfl (by decide) rfl ?_
      refine wp_goto 3 dX2_isAll_31 (by decide) ?_
      exact wp_sub [1, 2, 3, 0] rfl h
    · replace h := h.2 c
      refine wp_iconst (nI 0) dX2_isAll_26 (by decide) ?_
      exact wp_zret rfl rfl dX2_isAll_27 h
set_option maxRecDepth 100000 in
set_option maxHeartbeats 4000000 in
theorem E_X2_unsettledRegisters (g : Ev) (d : Nat)  (σ : St) (K : Option Value → St → Prop) (h : WP g 0 45 (d + 1) M_X2_unsettledRegisters 4 [(0, .ref (eA g 0)), (1, .int (nI 0)), (2, .int (nI 0))] [] σ K) : Runs g 0 45 (d + 1) M_X2_unsettledRegisters [.ref (eA g 0)] σ K := by
  refine Runs.of (by decide) (Nat.le_of_ble_eq_true rfl) ?_
  show WP g 0 45 (d + 1) M_X2_unsettledRegisters 0 [(0, .ref (eA g 0))] [] σ K
  refine wp_iconst (nI 0) dX2_unsettledRegisters_0 (by decide) ?_
  refine wp_istore_n (lv' := [(1, .int (nI 0)), (0, .ref (eA g 0))]) dX2_unsettledRegisters_1 rfl (by decide) rfl ?_
  refine wp_iconst (nI 0) dX2_unsettledRegisters_2 (by decide) ?_
  refine wp_istore_n (lv' := [(2, .int (nI 0)), (1, .int (nI 0)), (0, .ref (eA g 0))]) dX2_unsettledRegisters_3 rfl (by decide) rfl ?_
  exact wp_sub [2, 1, 0] rfl h
set_option maxRecDepth 100000 in
set_option maxHeartbeats 4000000 in
theorem R_X2_unsettledRegisters_4 (g : Ev) (d : Nat) (x1 : Int32) (x2 : Int32) (σ : St) (K : Option Value → St → Prop) (h : (((nI 32) ≤ x2 → K (some (.int x1)) σ) ∧ (¬ (nI 32) ≤ x2 → Runs g 0 45 d M_X2_isAll [.ref (eA g 0), .int x2, .long 0] σ (fun r1 σ1 => ∃ v1 : Int32, r1 = some (.int v1) ∧ ((¬ v1 = nI 0 → WP g 0 45 (d + 1) M_X2_unsettledRegisters 4 [(0, .ref (eA g 0)), (1, .int x1), (2, .int (x2 + (nI 1)))] [] σ1 K) ∧ (v1 = nI 0 → Runs g 0 45 d M_X2_isAll [.ref (eA g 0), .int x2, .long (sW σ1)] σ1 (fun r2 σ2 => ∃ v2 : Int32, r2 = some (.int v2) ∧ ((¬ v2 = nI 0 → WP g 0 45 (d + 1) M_X2_unsettledRegisters 4 [(0, .ref (eA g 0)), (1, .int x1), (2, .int (x2 + (nI 1)))] [] σ2 K) ∧ (v2 = nI 0 → WP g 0 45 (d + 1) M_X2_unsettledRegisters 4 [(0, .ref (eA g 0)), (1, .int (x1 + (nI 1))), (2, .int (x2 + (nI 1)))] [] σ2 K))))))))) : WP g 0 45 (d + 1) M_X2_unsettledRegisters 4 [(0, .ref (eA g 0)), (1, .int x1), (2, .int x2)] [] σ K := by
  refine wp_iload_n 2 dX2_unsettledRegisters_4 rfl rfl ?_
  refine wp_bipush (nI 32) dX2_unsettledRegisters_5 (by decide) ?_
  refine wp_icmp_ge 40 dX2_unsettledRegisters_7 (by decide) (fun c => ?_) (fun c => ?_)
  · replace h := h.1 c
    refine wp_iload_n 1 dX2_unsettledRegisters_40 rfl rfl ?_
    exact wp_iret rfl dX2_unsettledRegisters_41 h
  · replace h := h.2 c
    refine wp_aload_n 0 dX2_unsettledRegisters_10 rfl rfl ?_
    refine wp_iload_n 2 dX2_unsettledRegisters_11 rfl rfl ?_
    refine wp_lconst 0 dX2_unsettledRegisters_12 (by decide) ?_
    refine wp_callV [.int x2, .long 0] [] 0 1 (by decide) (by decide) rfl rfl wc_X2_isAll wm_X2_105 ws_X2_isAll we_X2_isAll wi_X2 ok_X2_isAll (by decide) (Nat.le_of_ble_eq_true rfl) dX2_unsettledRegisters_13 rfl h ?_
    rintro r1 σ1 ⟨v1, rfl, h⟩
    show WP g 0 45 (d + 1) M_X2_unsettledRegisters 16 [(0, .ref (eA g 0)), (1, .int x1), (2, .int x2)] [.int v1] σ1 K
    refine wp_if_ne 34 dX2_unsettledRegisters_16 (by decide) (fun c => ?_) (fun c => ?_)
    · replace h := h.1 c
      refine wp_iinc 2 (nI 1) (lv' := [(2, .int (x2 + (nI 1))), (0, .ref (eA g 0)), (1, .int x1)]) dX2_unsettledRegisters_34 (by decide) rfl (by decide) rfl ?_
      refine wp_goto 4 dX2_unsettledRegisters_37 (by decide) ?_
      exact wp_sub [1, 2, 0] rfl h
    · replace h := h.2 c
      refine wp_aload_n 0 dX2_unsettledRegisters_19 rfl rfl ?_
      refine wp_iload_n 2 dX2_unsettledRegisters_20 rfl rfl ?_
      refine wp_aload_n 0 dX2_unsettledRegisters_21 rfl rfl ?_
      refine wp_get 0 1 9 (by decide) (by decide) rfl rfl inG2 (by decide) wf_X2_48 rfl dX2_unsettledRegisters_22 ?_
      refine wp_callV [.int x2, .long (sW σ1)] [] 0 1 (by decide) (by decide) rfl rfl wc_X2_isAll wm_X2_105 ws_X2_isAll we_X2_isAll wi_X2 ok_X2_isAll (by decide) (Nat.le_of_ble_eq_true rfl) dX2_unsettledRegisters_25 rfl h ?_
      rintro r2 σ2 ⟨v2, rfl, h⟩
      show WP g 0 45 (d + 1) M_X2_unsettledRegisters 28 [(0, .ref (eA g 0)), (1, .int x1), (2, .int x2)] [.int v2] σ2 K
      refine wp_if_ne 34 dX2_unsettledRegisters_28 (by decide) (fun c => ?_) (fun c => ?_)
      · replace h := h.1 c
        refine wp_iinc 2 (nI 1) (lv' := [(2, .int (x2 + (nI 1))), (0, .ref (eA g 0)), (1, .int x1)]) dX2_unsettledRegisters_34 (by decide) rfl (by decide) rfl ?_
        refine wp_goto 4 dX2_unsettledRegisters_37 (by decide) ?_
        exact wp_sub [1, 2, 0] rfl h
      · replace h := h.2 c
        refine wp_iinc 1 (nI 1) (lv' := [(1, .int (x1 + (nI 1))), (0, .ref (eA g 0)), (2, .int x2)]) dX2_unsettledRegisters_31 (by decide) rfl (by decide) rfl ?_
        refine wp_iinc 2 (nI 1) (lv' := [(2, .int (x2 + (nI 1))), (1, .int (x1 + (nI 1))), (0, .ref (eA g 0))]) dX2_unsettledRegisters_34 (by decide) rfl (by decide) rfl ?_
        refine wp_goto 4 dX2_unsettledRegisters_37 (by decide) ?_
        exact wp_sub [2, 1, 0] rfl h
set_option maxRecDepth 100000 in
set_option maxHeartbeats 4000000 in
theorem E_X2_restPointer (g : Ev) (d : Nat)  (σ : St) (K : Option Value → St → Prop) (h : Runs g 0 45 d M_X2_pointAt [.ref (eA g 0), .int (nI 33)] σ (fun r1 σ1 => r1 = none ∧ K none σ1)) : Runs g 0 45 (d + 1) M_X2_restPointer [.ref (eA g 0)] σ K := by
  refine Runs.of (by decide) (Nat.le_of_ble_eq_true rfl) ?_
  show WP g 0 45 (d + 1) M_X2_restPointer 0 [(0, .ref (eA g 0))] [] σ K
  refine wp_aload_n 0 dX2_restPointer_0 rfl rfl ?_
  refine wp_bipush (nI 33) dX2_restPointer_1 (by decide) ?_
  refine wp_callV [.int (nI 33)] [] 0 1 (by decide) (by decide) rfl rfl wc_X2_pointAt wm_X2_182 ws_X2_pointAt we_X2_pointAt wi_X2 ok_X2_pointAt (by decide) (Nat.le_of_ble_eq_true rfl) dX2_restPointer_3 rfl h ?_
  rintro r1 σ1 ⟨rfl, h⟩
  show WP g 0 45 (d + 1) M_X2_restPointer 6 [(0, .ref (eA g 0))] [] σ1 K
  exact wp_vret rfl dX2_restPointer_6 h
set_option maxRecDepth 100000 in
set_option maxHeartbeats 4000000 in
theorem E_X2_pointAt (g : Ev) (d : Nat) (x1 : Int32) (σ : St) (K : Option Value → St → Prop) (h : K none (uV (uV (uV σ 3 x1) 4 (nI 0)) 5 (nI 0))) : Runs g 0 45 (d + 1) M_X2_pointAt [.ref (eA g 0), .int x1] σ K := by
  refine Runs.of (by decide) (Nat.le_of_ble_eq_true rfl) ?_
  show WP g 0 45 (d + 1) M_X2_pointAt 0 [(0, .ref (eA g 0)), (1, .int x1)] [] σ K
  refine wp_aload_n 0 dX2_pointAt_0 rfl rfl ?_
  refine wp_iload_n 1 dX2_pointAt_1 rfl rfl ?_
  refine wp_put (ty := .int) 0 1 10 tyX2 tyX2_ok nmX2 (uV σ 3 x1) (by decide) (by decide) rfl rfl inG2 (by decide) wf_X2_197 rfl (by decide +kernel) rfl rfl (Nat.le_of_ble_eq_true rfl) dX2_pointAt_2 rfl (wcell_uV0 (by decide)) ?_
  refine wp_aload_n 0 dX2_pointAt_5 rfl rfl ?_
  refine wp_iconst (nI 0) dX2_pointAt_6 (by decide) ?_
  refine wp_put (ty := .int) 0 1 11 tyX2 tyX2_ok nmX2 (uV (uV σ 3 x1) 4 (nI 0)) (by decide) (by decide) rfl rfl inG2 (by decide) wf_X2_188 rfl (by decide +kernel) rfl rfl (Nat.le_of_ble_eq_true rfl) dX2_pointAt_7 rfl (wcell_uV0 (by decide)) ?_
  refine wp_aload_n 0 dX2_pointAt_10 rfl rfl ?_
  refine wp_iconst (nI 0) dX2_pointAt_11 (by decide) ?_
  refine wp_put (ty := .int) 0 1 12 tyX2 tyX2_ok nmX2 (uV (uV (uV σ 3 x1) 4 (nI 0)) 5 (nI 0)) (by decide) (by decide) rfl rfl inG2 (by decide) wf_X2_194 rfl (by decide +kernel) rfl rfl (Nat.le_of_ble_eq_true rfl) dX2_pointAt_12 rfl (wcell_uV0 (by decide)) ?_
  exact wp_vret rfl dX2_pointAt_15 h
set_option maxRecDepth 100000 in
set_option maxHeartbeats 4000000 in
theorem E_X2_pointerFork (g : Ev) (d : Nat)  (σ : St) (K : Option Value → St → Prop) (h : vp_in (sV σ 3) 34 ∧ WP g 0 45 (d + 1) M_X2_pointerFork 15 [(0, .ref (eA g 0)), (1, .ref (eA g (11 + (sV σ 3).toNatClampNeg))), (2, .int (sV σ 5))] [] σ K) : Runs g 0 45 (d + 1) M_X2_pointerFork [.ref (eA g 0)] σ K := by
  refine Runs.of (by decide) (Nat.le_of_ble_eq_true rfl) ?_
  show WP g 0 45 (d + 1) M_X2_pointerFork 0 [(0, .ref (eA g 0))] [] σ K
  refine wp_aload_n 0 dX2_pointerFork_0 rfl rfl ?_
  refine wp_get 0 1 0 (by decide) (by decide) rfl rfl inG2 (by decide) wf_X2_13 rfl dX2_pointerFork_1 ?_
  refine wp_aload_n 0 dX2_pointerFork_4 rfl rfl ?_
  refine wp_get 0 1 10 (by decide) (by decide) rfl rfl inG2 (by decide) wf_X2_197 rfl dX2_pointerFork_5 ?_
  refine wp_aald (by decide) (by decide) dX2_pointerFork_8 h.1 ?_
  replace h := h.2
  refine wp_astore_n (lv' := [(1, .ref (eA g (11 + (sV σ 3).toNatClampNeg))), (0, .ref (eA g 0))]) dX2_pointerFork_9 rfl (by decide) rfl ?_
  refine wp_aload_n 1 dX2_pointerFork_10 rfl rfl ?_
  refine wp_get 0 1 12 (by decide) (by decide) rfl rfl inG2 (by decide) wf_X2_194 rfl dX2_pointerFork_11 ?_
  refine wp_istore_n (lv' := [(2, .int (sV σ 5)), (1, .ref (eA g (11 + (sV σ 3).toNatClampNeg))), (0, .ref (eA g 0))]) dX2_pointerFork_14 rfl (by decide) rfl ?_
  exact wp_sub [2, 1, 0] rfl h
set_option maxRecDepth 100000 in
set_option maxHeartbeats 4000000 in
theorem R_X2_pointerFork_15 (g : Ev) (d : Nat) (k1 : Nat) (x2 : Int32) (σ : St) (K : Option Value → St → Prop) (h : (((sV σ 0) ≤ x2 → K (some (.int (sV σ 0))) σ) ∧ (¬ (sV σ 0) ≤ x2 → Runs g 0 45 d M_X2_placeAt [.ref (eA g 0), .int x2] σ (fun r1 σ1 => ∃ v1 : Int32, r1 = some (.int v1) ∧ Runs g 0 45 d M_X0_alike [.ref (eA g k1), .int (sV σ1 4), .ref (eA g k1), .int ((sV σ1 4) + (jshl (nI 1) v1)), .int (jshl (nI 1) v1)] σ1 (fun r2 σ2 => ∃ v2 : Int32, r2 = some (.int v2) ∧ ((¬ v2 = nI 0 → WP g 0 45 (d + 1) M_X2_pointerFork 15 [(0, .ref (eA g 0)), (1, .ref (eA g k1)), (2, .int (x2 + (nI 1)))] [] σ2 K) ∧ (v2 = nI 0 → K (some (.int x2)) σ2))))))) : WP g 0 45 (d + 1) M_X2_pointerFork 15 [(0, .ref (eA g 0)), (1, .ref (eA g k1)), (2, .int x2)] [] σ K := by
  refine wp_iload_n 2 dX2_pointerFork_15 rfl rfl ?_
  refine wp_aload_n 0 dX2_pointerFork_16 rfl rfl ?_
  refine wp_get 0 1 6 (by decide) (by decide) rfl rfl inG2 (by decide) wf_X2_94 rfl dX2_pointerFork_17 ?_
  refine wp_icmp_ge 58 dX2_pointerFork_20 (by decide) (fun c => ?_) (fun c => ?_)
  · replace h := h.1 c
    refine wp_aload_n 0 dX2_pointerFork_58 rfl rfl ?_
    refine wp_get 0 1 6 (by decide) (by decide) rfl rfl inG2 (by decide) wf_X2_94 rfl dX2_pointerFork_59 ?_
    exact wp_iret rfl dX2_pointerFork_62 h
  · replace h := h.2 c
    refine wp_iconst (nI 1) dX2_pointerFork_23 (by decide) ?_
    refine wp_aload_n 0 dX2_pointerFork_24 rfl rfl ?_
    refine wp_iload_n 2 dX2_pointerFork_25 rfl rfl ?_
    refine wp_callV [.int x2] [.int (nI 1)] 0 1 (by decide) (by decide) rfl rfl wc_X2_placeAt wm_X2_191 ws_X2_placeAt we_X2_placeAt wi_X2 ok_X2_placeAt (by decide) (Nat.le_of_ble_eq_true rfl) dX2_pointerFork_26 rfl h ?_
    rintro r1 σ1 ⟨v1, rfl, h⟩
    show WP g 0 45 (d + 1) M_X2_pointerFork 29 [(0, .ref (eA g 0)), (1, .ref (eA g k1)), (2, .int x2)] [.int v1, .int (nI 1)] σ1 K
    refine wp_ishl dX2_pointerFork_29 ?_
    refine wp_istore_n (lv' := [(3, .int (jshl (nI 1) v1)), (0, .ref (eA g 0)), (1, .ref (eA g k1)), (2, .int x2)]) dX2_pointerFork_30 rfl (by decide) rfl ?_
    refine wp_aload_n 2 dX2_pointerFork_31 rfl rfl ?_
    refine wp_aload_n 1 dX2_pointerFork_32 rfl rfl ?_
    refine wp_get 0 1 11 (by decide) (by decide) rfl rfl inG2 (by decide) wf_X2_188 rfl dX2_pointerFork_33 ?_
    refine wp_aload_n 2 dX2_pointerFork_36 rfl rfl ?_
    refine wp_aload_n 1 dX2_pointerFork_37 rfl rfl ?_
    refine wp_get 0 1 11 (by decide) (by decide) rfl rfl inG2 (by decide) wf_X2_188 rfl dX2_pointerFork_38 ?_
    refine wp_iload_n 0 dX2_pointerFork_41 rfl rfl ?_
    refine wp_iadd dX2_pointerFork_42 ?_
    refine wp_iload_n 0 dX2_pointerFork_43 rfl rfl ?_
    refine wp_callSN [.ref (eA g k1), .int (sV σ1 4), .ref (eA g k1), .int ((sV σ1 4) + (jshl (nI 1) v1)), .int (jshl (nI 1) v1)] [] wc_X0_alike wn_X2_147 ws_X0_alike wi_X0 ok_X0_alike (by decide) (Nat.le_of_ble_eq_true rfl) dX2_pointerFork_44 rfl h ?_
    rintro r2 σ2 ⟨v2, rfl, h⟩
    show WP g 0 45 (d + 1) M_X2_pointerFork 47 [(3, .int (jshl (nI 1) v1)), (0, .ref (eA g 0)), (1, .ref (eA g k1)), (2, .int x2)] [.int v2] σ2 K
    refine wp_if_ne 52 dX2_pointerFork_47 (by decide) (fun c => ?_) (fun c => ?_)
    · replace h := h.1 c
      refine wp_iinc 3 (nI 1) (lv' := [(2, .int (x2 + (nI 1))), (3, .int (jshl (nI 1) v1)), (0, .ref (eA g 0)), (1, .ref (eA g k1))]) dX2_pointerFork_52 (by decide) rfl (by decide) rfl ?_
      refine wp_goto 15 dX2_pointerFork_55 (by decide) ?_
      exact wp_sub [2, 3, 0] rfl h
    · replace h := h.2 c
      refine wp_iload_n 3 dX2_pointerFork_50 rfl rfl ?_
      exact wp_iret rfl dX2_pointerFork_51 h

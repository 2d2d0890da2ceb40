theorem IJ.le {σX σM : St} {q q' : Nat} (h : IJ σX σM q) (hq : q ≤ q') : IJ σX σM q' := by
  obtain ⟨N, cap, T, o, oi, c, P, hX, hM⟩ := h
  exact ⟨N, cap, T, o, oi, c, P, hX, hM.le hq⟩
theorem law_loop {g : Ev} {C S b L : Nat} {xs : Nat → Int32} (hL : L ≤ 2560) (hC : C ≤ 600000) (hSl : S ≤ 7302249) : ∀ n i, L + 5 - i ≤ n → i ≤ L + 5 → ∀ σX σM q, q ≤ 200 * i → IJ σX σM q → LW g C S b L xs 18 (LVx g b i) [] σX σM := by
  intro n
  induction n with
  | zero =>
    intro i h1 h2 σX σM q hq hJ
    refine lx_iload_n 3 dL_law_18 rfl rfl (lx_aload_n 0 dL_law_19 rfl rfl (lx_slen dL_law_20 (lx_iconst (nI 5) dL_law_21 rfl (lx_isub dL_law_22 (lx_icmp_gt 1164 dL_law_23 rfl (fun _ => lx_iconst (nI 1) dL_law_1164 rfl (lx_ret hC hSl dL_law_1165)) (fun hn => ?_))))))
    exfalso
    apply hn
    rw [Int32.lt_iff_toInt_lt, pk_sub_toInt (by omega) (by omega), nI_toInt (by omega)]
    omega
  | succ n ih =>
    intro i h1 h2 σX σM q hq hJ
    refine lx_iload_n 3 dL_law_18 rfl rfl (lx_aload_n 0 dL_law_19 rfl rfl (lx_slen dL_law_20 (lx_iconst (nI 5) dL_law_21 rfl (lx_isub dL_law_22 (lx_icmp_gt 1164 dL_law_23 rfl (fun _ => lx_iconst (nI 1) dL_law_1164 rfl (lx_ret hC hSl dL_law_1165)) (fun hn => ?_))))))
    have hle : i + 5 ≤ L := by
      rw [Int32.lt_iff_toInt_lt, pk_sub_toInt (by omega) (by omega), nI_toInt (by omega)] at hn
      omega
    refine lx_aload_n 0 dL_law_26 rfl rfl (lx_iload_n 3 dL_law_27 rfl rfl (lx_sld (by omega) (by omega) dL_law_28 (lx_bipush (nI 31) dL_law_29 rfl (lx_iand dL_law_31 ?_))))
    have next : ∀ σX' σM', IJ σX' σM' (q + 200) → LW g C S b L xs 1158 (LVx g b i) [] σX' σM' := fun σX' σM' hJ' => by
      refine lx_iinc 3 (nI 5) dL_law_1158 rfl rfl (by decide) rfl (lx_goto 18 dL_law_1161 rfl (lx_sub [1, 2, 3, 0] rfl ?_))
      rw [nI_add]
      exact ih (i + 5) (by omega) (by omega) σX' σM' (q + 200) (by omega) hJ'
    obtain ⟨j, hj, e⟩ := pk_andE (xs i) (m := nI 31) 5 (pk_tn (by omega))
    rw [e]
    have hj : j < 32 := hj
    rcases (show j = 0 ∨ j = 1 ∨ j = 2 ∨ j = 3 ∨ j = 4 ∨ j = 5 ∨ j = 6 ∨ j = 7 ∨ j = 8 ∨ j = 9 ∨ j = 10 ∨ j = 11 ∨ j = 12 ∨ j = 13 ∨ j = 14 ∨ j = 15 ∨ j = 16 ∨ j = 17 ∨ j = 18 ∨ j = 19 ∨ j = 20 ∨ j = 21 ∨ j = 22 ∨ j = 23 ∨ j = 24 ∨ j = 25 ∨ j = 26 ∨ j = 27 ∨ j = 28 ∨ j = 29 ∨ j = 30 ∨ j = 31 by omega) with rfl | rfl | rfl | rfl | rfl | rfl | rfl | rfl | rfl | rfl | rfl | rfl | rfl | rfl | rfl | rfl | rfl | rfl | rfl | rfl | rfl | rfl | rfl | rfl | rfl | rfl | rfl | rfl | rfl | rfl | rfl | rfl
    · exact lx_tableIn 160 dL_law_32 (by decide) (by decide) rfl rfl (LC_fresh hle hL hC hSl hJ (by omega) next)
    · exact lx_tableIn 193 dL_law_32 (by decide) (by decide) rfl rfl (LC_constant hle hL hC hSl hJ (by omega) next)
    · exact lx_tableIn 242 dL_law_32 (by decide) (by decide) rfl rfl (LC_letter hle hL hC hSl hJ (by omega) next)
    · exact lx_tableIn 275 dL_law_32 (by decide) (by decide) rfl rfl (LC_join hle hL hC hSl hJ (by omega) next)
    · exact lx_tableIn 328 dL_law_32 (by decide) (by decide) rfl rfl (LC_fork hle hL hC hSl hJ (by omega) next)
    · exact lx_tableIn 381 dL_law_32 (by decide) (by decide) rfl rfl (LC_fix hle hL hC hSl hJ (by omega) next)
    · exact lx_tableIn 450 dL_law_32 (by decide) (by decide) rfl rfl (LC_put hle hL hC hSl hJ (by omega) next)
    · exact lx_tableIn 503 dL_law_32 (by decide) (by decide) rfl rfl (LC_sum hle hL hC hSl hJ (by omega) next)
    · exact lx_tableIn 572 dL_law_32 (by decide) (by decide) rfl rfl (LC_trade hle hL hC hSl hJ (by omega) next)
    · exact lx_tableIn 625 dL_law_32 (by decide) (by decide) rfl rfl (LC_near hle hL hC hSl hJ (by omega) next)
    · exact lx_tableIn 668 dL_law_32 (by decide) (by decide) rfl rfl (LC_copy hle hL hC hSl hJ (by omega) next)
    · exact lx_tableIn 701 dL_law_32 (by decide) (by decide) rfl rfl (LC_swap hle hL hC hSl hJ (by omega) next)
    · exact lx_tableIn 724 dL_law_32 (by decide) (by decide) rfl rfl (LC_sift hle hL hC hSl hJ (by omega) next)
    · exact lx_tableIn 747 dL_law_32 (by decide) (by decide) rfl rfl (LC_cost hle hL hC hSl hJ (by omega) next)
    · exact lx_tableIn 780 dL_law_32 (by decide) (by decide) rfl rfl (LC_same hle hL hC hSl hJ (by omega) next)
    · exact lx_tableIn 813 dL_law_32 (by decide) (by decide) rfl rfl (LC_tells hle hL hC hSl hJ (by omega) next)
    · exact lx_tableIn 846 dL_law_32 (by decide) (by decide) rfl rfl (LC_many hle hL hC hSl hJ (by omega) next)
    · exact lx_tableIn 869 dL_law_32 (by decide) (by decide) rfl rfl (LC_pick hle hL hC hSl hJ (by omega) next)
    · exact lx_tableIn 902 dL_law_32 (by decide) (by decide) rfl rfl (LC_cheapest hle hL hC hSl hJ (by omega) next)
    · exact lx_tableIn 925 dL_law_32 (by decide) (by decide) rfl rfl (LC_dearest hle hL hC hSl hJ (by omega) next)
    · exact lx_tableIn 948 dL_law_32 (by decide) (by decide) rfl rfl (LC_letters hle hL hC hSl hJ (by omega) next)
    · exact lx_tableIn 971 dL_law_32 (by decide) (by decide) rfl rfl (LC_size hle hL hC hSl hJ (by omega) next)
    · exact lx_tableIn 994 dL_law_32 (by decide) (by decide) rfl rfl (LC_width hle hL hC hSl hJ (by omega) next)
    · exact lx_tableIn 1027 dL_law_32 (by decide) (by decide) rfl rfl (LC_point hle hL hC hSl hJ (by omega) next)
    · exact lx_tableIn 1050 dL_law_32 (by decide) (by decide) rfl rfl (LC_go hle hL hC hSl hJ (by omega) next)
    · exact lx_tableIn 1089 dL_law_32 (by decide) (by decide) rfl rfl (LC_at hle hL hC hSl hJ (by omega) next)
    · exact lx_tableIn 1102 dL_law_32 (by decide) (by decide) rfl rfl (LC_level hle hL hC hSl hJ (by omega) next)
    · exact lx_tableIn 1135 dL_law_32 (by decide) (by decide) rfl rfl (LC_count hle hL hC hSl hJ (by omega) next)
    · exact lx_tableOut 1158 dL_law_32 (by decide) rfl (next σX σM (hJ.le (by omega)))
    · exact lx_tableOut 1158 dL_law_32 (by decide) rfl (next σX σM (hJ.le (by omega)))
    · exact lx_tableOut 1158 dL_law_32 (by decide) rfl (next σX σM (hJ.le (by omega)))
    · exact lx_tableOut 1158 dL_law_32 (by decide) rfl (next σX σM (hJ.le (by omega)))

def M_X1_init : Mt := (yX1_init, cX1_init, 1, none)
def M_X2_init : Mt := (yX2_init, cX2_init, 1, none)
def M_X3_init : Mt := (yX3_init, cX3_init, 1, none)
theorem ok_X1_init : okM M_X1_init 0 := by decide +kernel
theorem ok_X2_init : okM M_X2_init 0 := by decide +kernel
theorem ok_X3_init : okM M_X3_init 0 := by decide +kernel
theorem wcl_X2_11 : Cond.classLink RX2 11 "[[J" ∈ lw_good := lw_gmem 64 (by decide +kernel) rfl
theorem wcl_X2_29 : Cond.classLink RX2 29 RX1 ∈ lw_good := lw_gmem 66 (by decide +kernel) rfl
theorem wna_X1 : Cond.instantiable RX1 6 ∈ lw_good := lw_gmem 67 (by decide +kernel) rfl
theorem wna_X2 : Cond.instantiable RX2 13 ∈ lw_good := lw_gmem 57 (by decide +kernel) rfl
theorem wna_X3 : Cond.instantiable RX3 18 ∈ lw_good := lw_gmem 457 (by decide +kernel) rfl
theorem wcl_law_7 : Cond.classLink R_law 7 RX2 ∈ lw_good := lw_gmem 56 (by decide +kernel) rfl
theorem wcl_law_10 : Cond.classLink R_law 10 RX3 ∈ lw_good := lw_gmem 456 (by decide +kernel) rfl
theorem war_int : Cond.arrayClass .int ∈ lw_good := lw_gmem 93 (by decide +kernel) rfl
theorem war_long : Cond.arrayClass .long ∈ lw_good := lw_gmem 92 (by decide +kernel) rfl
theorem war_bool : Cond.arrayClass .boolean ∈ lw_good := lw_gmem 526 (by decide +kernel) rfl
theorem woj_in : Cond.instanceMethod objectInit ∈ lw_good := lw_gmem 62 (by decide +kernel) rfl
theorem woj_co : Cond.code objectInit ⟨#[0xb1]⟩ 1 none ∈ lw_good := lw_gmem 63 (by decide +kernel) rfl
theorem woj_X2 : Cond.methodLink RX2 3 objectInit ∈ lw_good := lw_gmem 61 (by decide +kernel) rfl
theorem woj_X1 : Cond.methodLink RX1 5 objectInit ∈ lw_good := lw_gmem 71 (by decide +kernel) rfl
theorem woj_X3 : Cond.methodLink RX3 3 objectInit ∈ lw_good := lw_gmem 461 (by decide +kernel) rfl
theorem wms_X1_init : Cond.instanceMethod yX1_init ∈ lw_good := lw_gmem 69 (by decide +kernel) rfl
theorem wms_X2_init : Cond.instanceMethod yX2_init ∈ lw_good := lw_gmem 59 (by decide +kernel) rfl
theorem wms_X3_init : Cond.instanceMethod yX3_init ∈ lw_good := lw_gmem 459 (by decide +kernel) rfl
theorem wmn_X2_31 : Cond.methodLinkNest RX2 31 yX1_init "DecisionWeb" ∈ lw_nest := lw_nmem 68 (by decide +kernel) rfl
theorem wml_law_9 : Cond.methodLink R_law 9 yX2_init ∈ lw_good := lw_gmem 58 (by decide +kernel) rfl
theorem wml_law_12 : Cond.methodLink R_law 12 yX3_init ∈ lw_good := lw_gmem 458 (by decide +kernel) rfl
theorem wml_X3_51 : Cond.methodLink RX3 51 yX3_fresh ∈ lw_good := lw_gmem 463 (by decide +kernel) rfl
theorem wco_X3_9 : Cond.constant RX3 9 131072 ∈ lw_good := lw_gmem 462 (by decide +kernel) rfl
theorem wmc_X1_init : mW M_X1_init ∈ lw_good := lw_gmem 70 (by decide +kernel) rfl
theorem wmc_X2_init : mW M_X2_init ∈ lw_good := lw_gmem 60 (by decide +kernel) rfl
theorem wmc_X3_init : mW M_X3_init ∈ lw_good := lw_gmem 460 (by decide +kernel) rfl
def crX (k : Nat) : Nat := if k < 2 then k else if k < 11 then k + 34 else if k < 45 then k - 9 else k
def nmX (j : Nat) : Nat := if j < 2 then j else if j < 36 then j + 9 else if j < 45 then j - 34 else j
theorem nm_cr : ∀ k : Nat, k < 45 → nmX (crX k) = k ∧ crX k < 45 := by decide +kernel
theorem cr_nm : ∀ j : Nat, j < 45 → crX (nmX j) = j ∧ nmX j < 45 := by decide +kernel
theorem cr_hi {k : Nat} (hk : 45 ≤ k) : crX k = k := by
  unfold crX
  rw [if_neg (by omega), if_neg (by omega), if_neg (by omega)]
theorem cr_inj {i j : Nat} (e : crX i = crX j) : i = j := by
  rcases Nat.lt_or_ge i 45 with a | a <;> rcases Nat.lt_or_ge j 45 with b | b
  · have h1 := (nm_cr i a).1
    have h2 := (nm_cr j b).1
    rw [← h1, e, h2]
  · have h1 := (nm_cr i a).2
    rw [cr_hi b] at e
    omega
  · have h1 := (nm_cr j b).2
    rw [cr_hi a] at e
    omega
  · rw [cr_hi a, cr_hi b] at e
    exact e
/-- the environment of a run of the law: addresses from h on, in the order of the making -/
abbrev gE (l : Launch) (dC : Nat → ClassId) (dI : Nat → Nat → Nat) (h : Nat) (cs : Nat → ClassId) (ss : Nat → Nat) : Ev := (l, dC, dI, fun k => h + crX k, cs, ss)
def zS : St := (fun _ _ => 0, fun _ _ => 0, fun _ => 0, 0, fun k => if k = 0 then 8 else 9)
def cfX (g : Ev) (fs fs2 : List Value) (j : Nat) : va_E := if j = 0 then .inr (1, fs) else if j = 40 then .inr (0, fs2) else wcell g zS (nmX j)
theorem cfX_0 {g : Ev} {fs fs' fs2 : List Value} : va_up (cfX g fs fs2) 0 (.inr (1, fs')) = cfX g fs' fs2 := funext fun j => by
  unfold va_up cfX
  by_cases e : j = 0
  · rw [if_pos e, if_pos e]
  · rw [if_neg e, if_neg e, if_neg e]
theorem cfX_40 {g : Ev} {fs fs' fs2 : List Value} : va_up (cfX g fs fs2) 40 (.inr (0, fs')) = cfX g fs fs' := funext fun j => by
  unfold va_up cfX
  by_cases e : j = 40
  · rw [if_pos e, if_neg (by omega), if_pos e]
  · rw [if_neg e, if_neg e, if_neg e]
def cfM (g : Ev) (fs : List Value) (j : Nat) : va_E := if j = 0 then .inr (2, fs) else wcell g zS (45 + j)
theorem cfM_0 {g : Ev} {fs fs' : List Value} : va_up (cfM g fs) 0 (.inr (2, fs')) = cfM g fs' := funext fun j => by
  unfold va_up cfM
  by_cases e : j = 0
  · rw [if_pos e, if_pos e]
  · rw [if_neg e, if_neg e, if_neg e]
def fX (g : Ev) (σ : St) (j : Nat) : va_E := wcell g σ (nmX j)
def fM (g : Ev) (σ : St) (j : Nat) : va_E := wcell g σ (45 + j)
section CTORS
variable {l : Launch} {dC : Nat → ClassId} {dI : Nat → Nat → Nat} {h : Nat} {cs : Nat → ClassId} {ss : Nat → Nat}
theorem gE_inj : wInj (gE l dC dI h cs ss) 0 59 := fun i j _ _ _ _ e => cr_inj (by have e : h + crX i = h + crX j := e; omega)
theorem X_to {H : Heap} {f : Nat → va_E} {σ : St} (hf : ∀ j, j < 45 → f j = wcell (gE l dC dI h cs ss) σ (nmX j)) (hP : va_P (eD (gE l dC dI h cs ss)) vwCl (mkW h 45 f) H) : va_P (eD (gE l dC dI h cs ss)) vwCl (wd (gE l dC dI h cs ss) 0 45 σ) H := by
  intro k q hq
  obtain ⟨hk, rfl⟩ := wd_get hq
  rw [Nat.zero_add] at hk ⊢
  obtain ⟨e1, e2⟩ := nm_cr k hk
  have := hP (crX k) _ (mk_at e2)
  rw [hf _ e2, e1] at this
  exact this
theorem X_from {H : Heap} {σ : St} (hP : va_P (eD (gE l dC dI h cs ss)) vwCl (wd (gE l dC dI h cs ss) 0 45 σ) H) : va_P (eD (gE l dC dI h cs ss)) vwCl (mkW h 45 (fX (gE l dC dI h cs ss) σ)) H := by
  intro j q hq
  obtain ⟨hj, rfl⟩ := mk_get hq
  obtain ⟨e1, e2⟩ := cr_nm j hj
  have := hP (nmX j - 0) _ (wd_at (Nat.zero_le _) e2)
  have e3 : eA (gE l dC dI h cs ss) (nmX j) = h + j := by show h + crX (nmX j) = _; rw [e1]
  rw [e3] at this
  exact this
theorem M_to {H : Heap} {f : Nat → va_E} {σ : St} (hf : ∀ j, j < 14 → f j = wcell (gE l dC dI h cs ss) σ (45 + j)) (hP : va_P (eD (gE l dC dI h cs ss)) vwCl (mkW (h + 45) 14 f) H) : va_P (eD (gE l dC dI h cs ss)) vwCl (wd (gE l dC dI h cs ss) 45 59 σ) H := by
  intro k q hq
  obtain ⟨hk, rfl⟩ := wd_get hq
  have := hP k _ (mk_at (show k < 14 by omega))
  rw [hf k (by omega), Nat.add_assoc] at this
  have e3 : eA (gE l dC dI h cs ss) (45 + k) = h + (45 + k) := by show h + crX (45 + k) = _; rw [cr_hi (by omega)]
  rw [e3]
  exact this
theorem M_from {H : Heap} {σ : St} (hP : va_P (eD (gE l dC dI h cs ss)) vwCl (wd (gE l dC dI h cs ss) 45 59 σ) H) : va_P (eD (gE l dC dI h cs ss)) vwCl (mkW (h + 45) 14 (fM (gE l dC dI h cs ss) σ)) H := by
  intro j q hq
  obtain ⟨hj, rfl⟩ := mk_get hq
  have := hP (45 + j - 45) _ (wd_at (by omega) (by omega))
  have e3 : eA (gE l dC dI h cs ss) (45 + j) = h + 45 + j := by show h + crX (45 + j) = _; rw [cr_hi (by omega)]; omega
  rw [e3] at this
  exact this
set_option maxRecDepth 20000 in
theorem c_X1_init {fs : List Value} : cRuns (gE l dC dI h cs ss) h 41 7 4 32780 M_X1_init [.ref (h + 40)] (cfX (gE l dC dI h cs ss) fs [.null, .null, .null, .int 0, .null, .int 0]) (fun f => f = cfX (gE l dC dI h cs ss) fs [.ref (h + 41), .ref (h + 42), .ref (h + 43), .int 0, .ref (h + 44), .int 0]) := by
  refine cRuns.of (by decide +kernel) rfl rfl ?_
  refine cp_this dX1_init_0 ?_
  refine cp_obj woj_X1 woj_in woj_co dX1_init_1 (by decide) ?_
  refine cp_this dX1_init_4 ?_
  refine cp_bipush (nI 12) dX1_init_5 rfl ?_
  refine cp_newI war_int (L := 12) rfl (by decide) (by decide) (by decide) (by decide) (by decide) (by decide) dX1_init_7 ?_
  refine cp_putF (f' := cfX (gE l dC dI h cs ss) fs [.ref (h + 41), .null, .null, .int 0, .null, .int 0]) 40 0 0 (ty := tyX1 0) tyX1 tyX1_ok nmX1 (by decide) rfl rfl inG1 (by decide) wf_X1_11 rfl rfl (tyX1_ok 0 (by decide)) rfl rfl (Nat.le_of_ble_eq_true rfl) dX1_init_9 cfX_40 ?_
  refine cp_this dX1_init_12 ?_
  refine cp_sipush (nI 8192) dX1_init_13 rfl ?_
  refine cp_newI war_int (L := 8192) rfl (by decide) (by decide) (by decide) (by decide) (by decide) (by decide) dX1_init_16 ?_
  refine cp_put (f' := cfX (gE l dC dI h cs ss) fs [.ref (h + 41), .ref (h + 42), .null, .int 0, .null, .int 0]) 40 0 1 (ty := tyX1 1) tyX1 tyX1_ok nmX1 (by decide) rfl rfl inG1 (by decide) wf_X1_15 rfl (tyX1_ok 1 (by decide)) rfl rfl (Nat.le_of_ble_eq_true rfl) dX1_init_18 cfX_40 ?_
  refine cp_this dX1_init_21 ?_
  refine cp_sipush (nI 8192) dX1_init_22 rfl ?_
  refine cp_newI war_int (L := 8192) rfl (by decide) (by decide) (by decide) (by decide) (by decide) (by decide) dX1_init_25 ?_
  refine cp_put (f' := cfX (gE l dC dI h cs ss) fs [.ref (h + 41), .ref (h + 42), .ref (h + 43), .int 0, .null, .int 0]) 40 0 2 (ty := tyX1 2) tyX1 tyX1_ok nmX1 (by decide) rfl rfl inG1 (by decide) wf_X1_18 rfl (tyX1_ok 2 (by decide)) rfl rfl (Nat.le_of_ble_eq_true rfl) dX1_init_27 cfX_40 ?_
  refine cp_this dX1_init_30 ?_
  refine cp_sipush (nI 16384) dX1_init_31 rfl ?_
  refine cp_newI war_int (L := 16384) rfl (by decide) (by decide) (by decide) (by decide) (by decide) (by decide) dX1_init_34 ?_
  refine cp_putF (f' := cfX (gE l dC dI h cs ss) fs [.ref (h + 41), .ref (h + 42), .ref (h + 43), .int 0, .ref (h + 44), .int 0]) 40 0 4 (ty := tyX1 4) tyX1 tyX1_ok nmX1 (by decide) rfl rfl inG1 (by decide) wf_X1_21 rfl rfl (tyX1_ok 4 (by decide)) rfl rfl (Nat.le_of_ble_eq_true rfl) dX1_init_36 cfX_40 ?_
  exact cp_ret rfl rfl rfl dX1_init_39 rfl
theorem grid_out {fs fs2 : List Value} : cfX (gE l dC dI h cs ss) fs fs2 (1 + 0) = .inl (cs 3, 34, .inr (.inr (.inr (.inr (fun t => if t < 34 then some (h + (1 + 0) + 1 + t) else none))))) := by
  show (.inl (cs 3, 34, .inr (.inr (.inr (.inr (fun t => if t < 34 then some (h + crX (11 + t)) else none))))) : va_E) = _
  congr 7
  funext t
  by_cases l : t < 34
  · rw [if_pos l, if_pos l]
    unfold crX
    rw [if_neg (by omega), if_neg (by omega), if_pos (by omega)]
    congr 1
    omega
  · rw [if_neg l, if_neg l]
theorem grid_row {fs fs2 : List Value} (j : Nat) (hj : j < 34) : cfX (gE l dC dI h cs ss) fs fs2 (1 + 0 + 1 + j) = .inl (cs 1, 64, .inr (.inl (fun _ => 0))) := by
  unfold cfX
  rw [if_neg (by omega), if_neg (by omega)]
  have e : nmX (1 + 0 + 1 + j) = 11 + j := by
    unfold nmX
    rw [if_neg (by omega), if_pos (by omega)]
    omega
  rw [e]
  unfold wcell
  rw [if_neg (by omega), if_neg (by omega), if_neg (by omega), if_neg (by omega), if_pos (by omega)]
  rfl
def InvX0 (σ : St) : Prop := InvX σ 6 2000 (fun _ _ => false) (fun k => k) (fun k => k) (fun _ => 0) (fun _ => false)
def InvM0 (σ : St) : Prop := InvM σ 6 2000 (fun _ _ => false) (fun k => k) (fun k => k) (fun _ => 0) (fun _ => false) 0
set_option maxRecDepth 20000 in
theorem c_X2_init {fs2 : List Value} (hfs2 : fs2 = [.null, .null, .null, .int 0, .null, .int 0]) : cRuns (gE l dC dI h cs ss) h 1 8 44 51404 M_X2_init [.ref h] (cfX (gE l dC dI h cs ss) [.null, .null, .null, .null, .null, .null, .int 0, .int 0, .int 0, .long 0, .int 0, .int 0, .int 0] fs2) (fun f => ∃ σ, InvX0 σ ∧ f = fX (gE l dC dI h cs ss) σ) := by
  subst hfs2
  refine cRuns.of (by decide +kernel) rfl rfl ?_
  refine cp_this dX2_init_0 ?_
  refine cp_obj woj_X2 woj_in woj_co dX2_init_1 (by decide) ?_
  refine cp_this dX2_init_4 ?_
  refine cp_bipush (nI 34) dX2_init_5 rfl ?_
  refine cp_bipush (nI 64) dX2_init_7 rfl ?_
  refine cp_grid wcl_X2_11 grid_out (fun j hj => grid_row j hj) rfl rfl (by decide) (by decide) (by decide) dX2_init_9 ?_
  refine cp_putF (f' := cfX (gE l dC dI h cs ss) [.ref (h + 1), .null, .null, .null, .null, .null, .int 0, .int 0, .int 0, .long 0, .int 0, .int 0, .int 0] [.null, .null, .null, .int 0, .null, .int 0]) 0 1 0 (ty := tyX2 0) tyX2 tyX2_ok nmX2 (by decide) rfl rfl inG2 (by decide) wf_X2_13 rfl rfl (tyX2_ok 0 (by decide)) rfl rfl (Nat.le_of_ble_eq_true rfl) dX2_init_13 cfX_0 ?_
  refine cp_this dX2_init_16 ?_
  refine cp_bipush (nI 12) dX2_init_17 rfl ?_
  refine cp_newI war_int (L := 12) rfl (by decide) (by decide) (by decide) (by decide) (by decide) (by decide) dX2_init_19 ?_
  refine cp_putF (f' := cfX (gE l dC dI h cs ss) [.ref (h + 1), .ref (h + 36), .null, .null, .null, .null, .int 0, .int 0, .int 0, .long 0, .int 0, .int 0, .int 0] [.null, .null, .null, .int 0, .null, .int 0]) 0 1 1 (ty := tyX2 1) tyX2 tyX2_ok nmX2 (by decide) rfl rfl inG2 (by decide) wf_X2_16 rfl rfl (tyX2_ok 1 (by decide)) rfl rfl (Nat.le_of_ble_eq_true rfl) dX2_init_21 cfX_0 ?_
  refine cp_this dX2_init_24 ?_
  refine cp_bipush (nI 12) dX2_init_25 rfl ?_
  refine cp_newI war_int (L := 12) rfl (by decide) (by decide) (by decide) (by decide) (by decide) (by decide) dX2_init_27 ?_
  refine cp_putF (f' := cfX (gE l dC dI h cs ss) [.ref (h + 1), .ref (h + 36), .ref (h + 37), .null, .null, .null, .int 0, .int 0, .int 0, .long 0, .int 0, .int 0, .int 0] [.null, .null, .null, .int 0, .null, .int 0]) 0 1 2 (ty := tyX2 2) tyX2 tyX2_ok nmX2 (by decide) rfl rfl inG2 (by decide) wf_X2_20 rfl rfl (tyX2_ok 2 (by decide)) rfl rfl (Nat.le_of_ble_eq_true rfl) dX2_init_29 cfX_0 ?_
  refine cp_this dX2_init_32 ?_
  refine cp_sipush (nI 8192) dX2_init_33 rfl ?_
  refine cp_newI war_int (L := 8192) rfl (by decide) (by decide) (by decide) (by decide) (by decide) (by decide) dX2_init_36 ?_
  refine cp_putF (f' := cfX (gE l dC dI h cs ss) [.ref (h + 1), .ref (h + 36), .ref (h + 37), .ref (h + 38), .null, .null, .int 0, .int 0, .int 0, .long 0, .int 0, .int 0, .int 0] [.null, .null, .null, .int 0, .null, .int 0]) 0 1 3 (ty := tyX2 3) tyX2 tyX2_ok nmX2 (by decide) rfl rfl inG2 (by decide) wf_X2_23 rfl rfl (tyX2_ok 3 (by decide)) rfl rfl (Nat.le_of_ble_eq_true rfl) dX2_init_38 cfX_0 ?_
  refine cp_this dX2_init_41 ?_
  refine cp_sipush (nI 8192) dX2_init_42 rfl ?_
  refine cp_newI war_int (L := 8192) rfl (by decide) (by decide) (by decide) (by decide) (by decide) (by decide) dX2_init_45 ?_
  refine cp_putF (f' := cfX (gE l dC dI h cs ss) [.ref (h + 1), .ref (h + 36), .ref (h + 37), .ref (h + 38), .ref (h + 39), .null, .int 0, .int 0, .int 0, .long 0, .int 0, .int 0, .int 0] [.null, .null, .null, .int 0, .null, .int 0]) 0 1 4 (ty := tyX2 4) tyX2 tyX2_ok nmX2 (by decide) rfl rfl inG2 (by decide) wf_X2_26 rfl rfl (tyX2_ok 4 (by decide)) rfl rfl (Nat.le_of_ble_eq_true rfl) dX2_init_47 cfX_0 ?_
  refine cp_this dX2_init_50 ?_
  refine cp_newO 0 (fs := [.null, .null, .null, .int 0, .null, .int 0]) tyX1 tyX1_ok rfl inG1 wcl_X2_29 wna_X1 wi_X1 (fun j hj => by rcases (show j = 0 ∨ j = 1 ∨ j = 2 ∨ j = 3 ∨ j = 4 ∨ j = 5 by omega) with rfl | rfl | rfl | rfl | rfl | rfl <;> rfl) rfl (by decide) (by decide) (by decide) dX2_init_51 ?_
  refine cp_dup dX2_init_54 rfl ?_
  refine cp_callIN (C' := 4) (S' := 32780) (d' := 7) (host := "DecisionWeb") wmc_X1_init wmn_X2_31 wms_X1_init wi_X1 ok_X1_init rfl rfl (by decide) (Nat.le_of_ble_eq_true rfl) dX2_init_55 (by decide) (by decide) (by decide) (by decide) (c_X1_init (fs := [.ref (h + 1), .ref (h + 36), .ref (h + 37), .ref (h + 38), .ref (h + 39), .null, .int 0, .int 0, .int 0, .long 0, .int 0, .int 0, .int 0])) (fun f' hf' => ?_)
  subst hf'
  refine cp_putF (f' := cfX (gE l dC dI h cs ss) [.ref (h + 1), .ref (h + 36), .ref (h + 37), .ref (h + 38), .ref (h + 39), .ref (h + 40), .int 0, .int 0, .int 0, .long 0, .int 0, .int 0, .int 0] [.ref (h + 41), .ref (h + 42), .ref (h + 43), .int 0, .ref (h + 44), .int 0]) 0 1 5 (ty := tyX2 5) tyX2 tyX2_ok nmX2 (by decide) rfl rfl inG2 (by decide) wf_X2_32 rfl rfl (tyX2_ok 5 (by decide)) rfl rfl (Nat.le_of_ble_eq_true rfl) dX2_init_58 cfX_0 ?_
  refine cp_this dX2_init_61 ?_
  refine cp_bipush (nI 6) dX2_init_62 rfl ?_
  refine cp_sipush (nI 2000) dX2_init_64 rfl ?_
  have hto : ∀ H : Heap, va_P (eD (gE l dC dI h cs ss)) vwCl (mkW h (1 + 44) (cfX (gE l dC dI h cs ss) [.ref (h + 1), .ref (h + 36), .ref (h + 37), .ref (h + 38), .ref (h + 39), .ref (h + 40), .int 0, .int 0, .int 0, .long 0, .int 0, .int 0, .int 0] [.ref (h + 41), .ref (h + 42), .ref (h + 43), .int 0, .ref (h + 44), .int 0])) H → va_P (eD (gE l dC dI h cs ss)) vwCl (wd (gE l dC dI h cs ss) 0 45 zS) H := fun H hP => X_to (fun j hj => by
    by_cases e0 : j = 0
    · subst e0; rfl
    by_cases e1 : j = 40
    · subst e1; rfl
    unfold cfX
    rw [if_neg e0, if_neg e1]) hP
  refine cp_run (lo := 0) (hi := 45) (ko := 0) (ci := 1) (d' := 7) (σ := zS) (fX (gE l dC dI h cs ss)) [.int (nI 6), .int (nI 2000)] [] hto (fun σ' H hP => X_from hP) (fun q ⟨k, _, _, e⟩ => by rw [e]; exact Nat.le_add_right _ _) (gE_inj.sub (Nat.le_refl _) (by decide)) (by decide) (by decide) rfl rfl wc_X2_begin wm_X2_36 ws_X2_begin we_X2_begin wi_X2 ok_X2_begin (by decide) (by decide) dX2_init_67 (by decide) (by decide) (by decide) rfl (sp_begin (d := 4) (N := 6) (c0 := 2000) (K := fun r σ' => r = none ∧ InvX0 σ') (by decide) (by decide) (by decide) (Or.inl ⟨rfl, rfl⟩) (fun σ' hI => ⟨rfl, hI⟩)) (fun r σ' hF => ?_)
  obtain ⟨rfl, hI⟩ := hF
  exact cp_ret rfl rfl rfl dX2_init_70 ⟨σ', hI, rfl⟩
set_option maxRecDepth 20000 in
theorem c_X3_init : cRuns (gE l dC dI h cs ss) (h + 45) 1 8 13 925744 M_X3_init [.ref (h + 45)] (cfM (gE l dC dI h cs ss) [.int 0, .int 0, .int 0, .null, .null, .null, .null, .null, .null, .null, .null, .null, .null, .null, .null, .null, .int 0, .int 0]) (fun f => ∃ σ, InvM0 σ ∧ f = fM (gE l dC dI h cs ss) σ) := by
  refine cRuns.of (by decide +kernel) rfl rfl ?_
  refine cp_this dX3_init_0 ?_
  refine cp_obj woj_X3 woj_in woj_co dX3_init_1 (by decide) ?_
  refine cp_this dX3_init_4 ?_
  refine cp_ldc wco_X3_9 dX3_init_5 ?_
  refine cp_newZ war_bool (L := 131072) rfl (by decide) (by decide) (by decide) (by decide) (by decide) (by decide) dX3_init_7 ?_
  refine cp_putF (f' := cfM (gE l dC dI h cs ss) [.int 0, .int 0, .int 0, .ref (h + 45 + 1), .null, .null, .null, .null, .null, .null, .null, .null, .null, .null, .null, .null, .int 0, .int 0]) 0 2 3 (ty := tyX3 3) tyX3 tyX3_ok nmX3 (by decide) rfl rfl inG3 (by decide) wf_X3_10 rfl rfl (tyX3_ok 3 (by decide)) rfl rfl (Nat.le_of_ble_eq_true rfl) dX3_init_9 cfM_0 ?_
  refine cp_this dX3_init_12 ?_
  refine cp_sipush (nI 4096) dX3_init_13 rfl ?_
  refine cp_newZ war_bool (L := 4096) rfl (by decide) (by decide) (by decide) (by decide) (by decide) (by decide) dX3_init_16 ?_
  refine cp_putF (f' := cfM (gE l dC dI h cs ss) [.int 0, .int 0, .int 0, .ref (h + 45 + 1), .ref (h + 45 + 2), .null, .null, .null, .null, .null, .null, .null, .null, .null, .null, .null, .int 0, .int 0]) 0 2 4 (ty := tyX3 4) tyX3 tyX3_ok nmX3 (by decide) rfl rfl inG3 (by decide) wf_X3_14 rfl rfl (tyX3_ok 4 (by decide)) rfl rfl (Nat.le_of_ble_eq_true rfl) dX3_init_18 cfM_0 ?_
  refine cp_this dX3_init_21 ?_
  refine cp_sipush (nI 4096) dX3_init_22 rfl ?_
  refine cp_newZ war_bool (L := 4096) rfl (by decide) (by decide) (by decide) (by decide) (by decide) (by decide) dX3_init_25 ?_
  refine cp_putF (f' := cfM (gE l dC dI h cs ss) [.int 0, .int 0, .int 0, .ref (h + 45 + 1), .ref (h + 45 + 2), .ref (h + 45 + 3), .null, .null, .null, .null, .null, .null, .null, .null, .null, .null, .int 0, .int 0]) 0 2 5 (ty := tyX3 5) tyX3 tyX3_ok nmX3 (by decide) rfl rfl inG3 (by decide) wf_X3_17 rfl rfl (tyX3_ok 5 (by decide)) rfl rfl (Nat.le_of_ble_eq_true rfl) dX3_init_27 cfM_0 ?_
  refine cp_this dX3_init_30 ?_
  refine cp_bipush (nI 12) dX3_init_31 rfl ?_
  refine cp_newI war_int (L := 12) rfl (by decide) (by decide) (by decide) (by decide) (by decide) (by decide) dX3_init_33 ?_
  refine cp_putF (f' := cfM (gE l dC dI h cs ss) [.int 0, .int 0, .int 0, .ref (h + 45 + 1), .ref (h + 45 + 2), .ref (h + 45 + 3), .ref (h + 45 + 4), .null, .null, .null, .null, .null, .null, .null, .null, .null, .int 0, .int 0]) 0 2 6 (ty := tyX3 6) tyX3 tyX3_ok nmX3 (by decide) rfl rfl inG3 (by decide) wf_X3_20 rfl rfl (tyX3_ok 6 (by decide)) rfl rfl (Nat.le_of_ble_eq_true rfl) dX3_init_35 cfM_0 ?_
  refine cp_this dX3_init_38 ?_
  refine cp_bipush (nI 12) dX3_init_39 rfl ?_
  refine cp_newI war_int (L := 12) rfl (by decide) (by decide) (by decide) (by decide) (by decide) (by decide) dX3_init_41 ?_
  refine cp_putF (f' := cfM (gE l dC dI h cs ss) [.int 0, .int 0, .int 0, .ref (h + 45 + 1), .ref (h + 45 + 2), .ref (h + 45 + 3), .ref (h + 45 + 4), .ref (h + 45 + 5), .null, .null, .null, .null, .null, .null, .null, .null, .int 0, .int 0]) 0 2 7 (ty := tyX3 7) tyX3 tyX3_ok nmX3 (by decide) rfl rfl inG3 (by decide) wf_X3_24 rfl rfl (tyX3_ok 7 (by decide)) rfl rfl (Nat.le_of_ble_eq_true rfl) dX3_init_43 cfM_0 ?_
  refine cp_this dX3_init_46 ?_
  refine cp_bipush (nI 12) dX3_init_47 rfl ?_
  refine cp_newI war_int (L := 12) rfl (by decide) (by decide) (by decide) (by decide) (by decide) (by decide) dX3_init_49 ?_
  refine cp_putF (f' := cfM (gE l dC dI h cs ss) [.int 0, .int 0, .int 0, .ref (h + 45 + 1), .ref (h + 45 + 2), .ref (h + 45 + 3), .ref (h + 45 + 4), .ref (h + 45 + 5), .ref (h + 45 + 6), .null, .null, .null, .null, .null, .null, .null, .int 0, .int 0]) 0 2 8 (ty := tyX3 8) tyX3 tyX3_ok nmX3 (by decide) rfl rfl inG3 (by decide) wf_X3_27 rfl rfl (tyX3_ok 8 (by decide)) rfl rfl (Nat.le_of_ble_eq_true rfl) dX3_init_51 cfM_0 ?_
  refine cp_this dX3_init_54 ?_
  refine cp_ldc wco_X3_9 dX3_init_55 ?_
  refine cp_newI war_int (L := 131072) rfl (by decide) (by decide) (by decide) (by decide) (by decide) (by decide) dX3_init_57 ?_
  refine cp_putF (f' := cfM (gE l dC dI h cs ss) [.int 0, .int 0, .int 0, .ref (h + 45 + 1), .ref (h + 45 + 2), .ref (h + 45 + 3), .ref (h + 45 + 4), .ref (h + 45 + 5), .ref (h + 45 + 6), .ref (h + 45 + 7), .null, .null, .null, .null, .null, .null, .int 0, .int 0]) 0 2 9 (ty := tyX3 9) tyX3 tyX3_ok nmX3 (by decide) rfl rfl inG3 (by decide) wf_X3_30 rfl rfl (tyX3_ok 9 (by decide)) rfl rfl (Nat.le_of_ble_eq_true rfl) dX3_init_59 cfM_0 ?_
  refine cp_this dX3_init_62 ?_
  refine cp_ldc wco_X3_9 dX3_init_63 ?_
  refine cp_newI war_int (L := 131072) rfl (by decide) (by decide) (by decide) (by decide) (by decide) (by decide) dX3_init_65 ?_
  refine cp_putF (f' := cfM (gE l dC dI h cs ss) [.int 0, .int 0, .int 0, .ref (h + 45 + 1), .ref (h + 45 + 2), .ref (h + 45 + 3), .ref (h + 45 + 4), .ref (h + 45 + 5), .ref (h + 45 + 6), .ref (h + 45 + 7), .ref (h + 45 + 8), .null, .null, .null, .null, .null, .int 0, .int 0]) 0 2 10 (ty := tyX3 10) tyX3 tyX3_ok nmX3 (by decide) rfl rfl inG3 (by decide) wf_X3_33 rfl rfl (tyX3_ok 10 (by decide)) rfl rfl (Nat.le_of_ble_eq_true rfl) dX3_init_67 cfM_0 ?_
  refine cp_this dX3_init_70 ?_
  refine cp_bipush (nI 12) dX3_init_71 rfl ?_
  refine cp_newI war_int (L := 12) rfl (by decide) (by decide) (by decide) (by decide) (by decide) (by decide) dX3_init_73 ?_
  refine cp_putF (f' := cfM (gE l dC dI h cs ss) [.int 0, .int 0, .int 0, .ref (h + 45 + 1), .ref (h + 45 + 2), .ref (h + 45 + 3), .ref (h + 45 + 4), .ref (h + 45 + 5), .ref (h + 45 + 6), .ref (h + 45 + 7), .ref (h + 45 + 8), .ref (h + 45 + 9), .null, .null, .null, .null, .int 0, .int 0]) 0 2 11 (ty := tyX3 11) tyX3 tyX3_ok nmX3 (by decide) rfl rfl inG3 (by decide) wf_X3_36 rfl rfl (tyX3_ok 11 (by decide)) rfl rfl (Nat.le_of_ble_eq_true rfl) dX3_init_75 cfM_0 ?_
  refine cp_this dX3_init_78 ?_
  refine cp_ldc wco_X3_9 dX3_init_79 ?_
  refine cp_newI war_int (L := 131072) rfl (by decide) (by decide) (by decide) (by decide) (by decide) (by decide) dX3_init_81 ?_
  refine cp_putF (f' := cfM (gE l dC dI h cs ss) [.int 0, .int 0, .int 0, .ref (h + 45 + 1), .ref (h + 45 + 2), .ref (h + 45 + 3), .ref (h + 45 + 4), .ref (h + 45 + 5), .ref (h + 45 + 6), .ref (h + 45 + 7), .ref (h + 45 + 8), .ref (h + 45 + 9), .ref (h + 45 + 10), .null, .null, .null, .int 0, .int 0]) 0 2 12 (ty := tyX3 12) tyX3 tyX3_ok nmX3 (by decide) rfl rfl inG3 (by decide) wf_X3_39 rfl rfl (tyX3_ok 12 (by decide)) rfl rfl (Nat.le_of_ble_eq_true rfl) dX3_init_83 cfM_0 ?_
  refine cp_this dX3_init_86 ?_
  refine cp_ldc wco_X3_9 dX3_init_87 ?_
  refine cp_newI war_int (L := 131072) rfl (by decide) (by decide) (by decide) (by decide) (by decide) (by decide) dX3_init_89 ?_
  refine cp_putF (f' := cfM (gE l dC dI h cs ss) [.int 0, .int 0, .int 0, .ref (h + 45 + 1), .ref (h + 45 + 2), .ref (h + 45 + 3), .ref (h + 45 + 4), .ref (h + 45 + 5), .ref (h + 45 + 6), .ref (h + 45 + 7), .ref (h + 45 + 8), .ref (h + 45 + 9), .ref (h + 45 + 10), .ref (h + 45 + 11), .null, .null, .int 0, .int 0]) 0 2 13 (ty := tyX3 13) tyX3 tyX3_ok nmX3 (by decide) rfl rfl inG3 (by decide) wf_X3_42 rfl rfl (tyX3_ok 13 (by decide)) rfl rfl (Nat.le_of_ble_eq_true rfl) dX3_init_91 cfM_0 ?_
  refine cp_this dX3_init_94 ?_
  refine cp_ldc wco_X3_9 dX3_init_95 ?_
  refine cp_newI war_int (L := 131072) rfl (by decide) (by decide) (by decide) (by decide) (by decide) (by decide) dX3_init_97 ?_
  refine cp_putF (f' := cfM (gE l dC dI h cs ss) [.int 0, .int 0, .int 0, .ref (h + 45 + 1), .ref (h + 45 + 2), .ref (h + 45 + 3), .ref (h + 45 + 4), .ref (h + 45 + 5), .ref (h + 45 + 6), .ref (h + 45 + 7), .ref (h + 45 + 8), .ref (h + 45 + 9), .ref (h + 45 + 10), .ref (h + 45 + 11), .ref (h + 45 + 12), .null, .int 0, .int 0]) 0 2 14 (ty := tyX3 14) tyX3 tyX3_ok nmX3 (by decide) rfl rfl inG3 (by decide) wf_X3_45 rfl rfl (tyX3_ok 14 (by decide)) rfl rfl (Nat.le_of_ble_eq_true rfl) dX3_init_99 cfM_0 ?_
  refine cp_this dX3_init_102 ?_
  refine cp_ldc wco_X3_9 dX3_init_103 ?_
  refine cp_newI war_int (L := 131072) rfl (by decide) (by decide) (by decide) (by decide) (by decide) (by decide) dX3_init_105 ?_
  refine cp_putF (f' := cfM (gE l dC dI h cs ss) [.int 0, .int 0, .int 0, .ref (h + 45 + 1), .ref (h + 45 + 2), .ref (h + 45 + 3), .ref (h + 45 + 4), .ref (h + 45 + 5), .ref (h + 45 + 6), .ref (h + 45 + 7), .ref (h + 45 + 8), .ref (h + 45 + 9), .ref (h + 45 + 10), .ref (h + 45 + 11), .ref (h + 45 + 12), .ref (h + 45 + 13), .int 0, .int 0]) 0 2 15 (ty := tyX3 15) tyX3 tyX3_ok nmX3 (by decide) rfl rfl inG3 (by decide) wf_X3_48 rfl rfl (tyX3_ok 15 (by decide)) rfl rfl (Nat.le_of_ble_eq_true rfl) dX3_init_107 cfM_0 ?_
  refine cp_this dX3_init_110 ?_
  refine cp_bipush (nI 6) dX3_init_111 rfl ?_
  refine cp_sipush (nI 2000) dX3_init_113 rfl ?_
  have hto : ∀ H : Heap, va_P (eD (gE l dC dI h cs ss)) vwCl (mkW (h + 45) (1 + 13) (cfM (gE l dC dI h cs ss) [.int 0, .int 0, .int 0, .ref (h + 45 + 1), .ref (h + 45 + 2), .ref (h + 45 + 3), .ref (h + 45 + 4), .ref (h + 45 + 5), .ref (h + 45 + 6), .ref (h + 45 + 7), .ref (h + 45 + 8), .ref (h + 45 + 9), .ref (h + 45 + 10), .ref (h + 45 + 11), .ref (h + 45 + 12), .ref (h + 45 + 13), .int 0, .int 0])) H → va_P (eD (gE l dC dI h cs ss)) vwCl (wd (gE l dC dI h cs ss) 45 59 zS) H := fun H hP => M_to (fun j hj => by
    by_cases e0 : j = 0
    · subst e0; rfl
    unfold cfM
    rw [if_neg e0]) hP
  refine cp_run (lo := 45) (hi := 59) (ko := 45) (ci := 2) (d' := 7) (σ := zS) (fM (gE l dC dI h cs ss)) [.int (nI 6), .int (nI 2000)] [] hto (fun σ' H hP => M_from hP) (fun q ⟨k, a1, _, e⟩ => by rw [e]; show h + 45 ≤ h + crX k; rw [cr_hi a1]; omega) (gE_inj.sub (by decide) (Nat.le_refl _)) (by decide) (by decide) rfl rfl lqm_X3_fresh wml_X3_51 lqi_X3_fresh lqs_X3_fresh lqn_X3 ok_X3_fresh (by decide) (by decide) dX3_init_116 (by decide) (by decide) (by decide) rfl (M_fresh (d := 3) (q := 0) (K := fun r σ' => r = some (.int (nI 1)) ∧ InvM0 σ') ⟨0, Nat.le_refl _, nI_0.symm, fun a _ => ⟨0, Nat.le_refl _, nI_0.symm⟩⟩ (fun hb => absurd ⟨⟨6, by decide, by decide, rfl⟩, 2000, by decide, rfl⟩ hb) (fun n q a1 a2 a3 e1 e2 σ' hI => ?_)) (fun r σ' hF => ?_)
  · have z1 : 6 = n := nI_inj (by decide) (by omega) e1
    have z2 : 2000 = q := nI_inj (by decide) (by omega) e2
    subst z1 z2
    exact ⟨rfl, hI⟩
  · obtain ⟨rfl, hI⟩ := hF
    exact cp_pop dX3_init_119 rfl (cp_ret rfl rfl rfl dX3_init_120 ⟨σ', hI, rfl⟩)
end CTORS

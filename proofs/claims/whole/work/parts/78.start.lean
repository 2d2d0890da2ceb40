/-! THE LAW'S START: what the Statement gives, the two constructors, then the loop -/
theorem over_long {args : Array Value} {s : State} (h : (Cond.arrayOver (.array .long)).before args s = true) : ∃ (cJ cJJ : ClassId) (k : Class), s.vm.findClass "[J" = some cJ ∧ s.vm.findClass "[[J" = some cJJ ∧ s.vm.classes[cJJ]? = some k ∧ k.kind = .array cJ (.array .long) := by
  simp only [Cond.before, Cond.holds, Cond.value, beq_iff_eq] at h
  cases hc : s.vm.findClass (FieldType.array .long).toString with
  | none => simp [hc] at h
  | some cJ =>
    simp only [hc, Option.bind_some, Option.bind_eq_some_iff, Option.map_eq_some_iff] at h
    obtain ⟨cJJ, h1, k, h2, h3⟩ := h
    obtain ⟨hlt, hp, -⟩ := Array.findIdx?_eq_some_iff_getElem.mp h1
    rw [(Array.getElem?_eq_some_iff.mp h2).2] at hp
    cases hk : k.kind with
    | array co ty =>
      rw [hk] at h3 hp
      simp at h3 hp
      exact ⟨cJ, cJJ, k, hc, h3.2, h2, by rw [hk, hp, h3.1]⟩
    | _ => rw [hk] at h3; simp at h3
theorem arr_of {s : State} {c k1 : ClassId} {k : Class} {ty : FieldType} (h2 : s.vm.classes[c]? = some k) (h3 : k.kind = .array k1 ty) : ArrOfT s c ty := fun n z => ⟨fun k h => (by cases h), k, h2, k1, h3⟩
theorem st_ONE {b : Nat} {s : State} {A : Nat → Prop} (h : (Jvm.Cond.and given_1 narrow_1).before #[Value.ref b] s = true) (hA : ∀ a : Nat, a < s.heap.size → ¬ A a) : ∃ t : Nat, (Term.static "DecisionWeb$Bits" "ONE_AT" "[J").eval #[Value.ref b] s none [] s = some (.ref t) ∧ va_T .long t 6 (fun j => .long (fONE j)) A s s.heap := by
  have hs := flat_of_before _ h
  refine va_Tof (by decide) (hs _ (by decide +kernel)) (va_eqt (hs _ (by decide +kernel))) (fun j hj => ?_) hA
  rcases (show j = 0 ∨ j = 1 ∨ j = 2 ∨ j = 3 ∨ j = 4 ∨ j = 5 by omega) with rfl | rfl | rfl | rfl | rfl | rfl <;> exact va_eqtl (hs _ (by decide +kernel))
theorem st_MF {b : Nat} {s : State} {A : Nat → Prop} (h : (Jvm.Cond.and given_1 narrow_1).before #[Value.ref b] s = true) (hA : ∀ a : Nat, a < s.heap.size → ¬ A a) : ∃ t : Nat, (Term.static "DecisionWeb" "MOST_FORKS" "[I").eval #[Value.ref b] s none [] s = some (.ref t) ∧ va_T .int t 13 (fun j => .int (fMF j)) A s s.heap := by
  have hs := flat_of_before _ h
  refine va_Tof (by decide) (hs _ (by decide +kernel)) (va_eqt (hs _ (by decide +kernel))) (fun j hj => ?_) hA
  rcases (show j = 0 ∨ j = 1 ∨ j = 2 ∨ j = 3 ∨ j = 4 ∨ j = 5 ∨ j = 6 ∨ j = 7 ∨ j = 8 ∨ j = 9 ∨ j = 10 ∨ j = 11 ∨ j = 12 by omega) with rfl | rfl | rfl | rfl | rfl | rfl | rfl | rfl | rfl | rfl | rfl | rfl | rfl <;> exact va_eqt (hs _ (by decide +kernel))
theorem law_ctor {g : Ev} {hh d' C' S' k sl idx pc b L : Nat} {M' : Mt} {f : Nat → va_E} {K' : (Nat → va_E) → Prop} {rest : List Value} {xs : Nat → Int32} {p : Program} {e : Env} {s : State} {m : MethodId} {below : List Frame} {meth : Method} {c : Code} {H : Heap} {locs : List Loc} {ls : Array Slot} {lv : List (Nat × Value)} {Q : State → Prop} (F : lw_At p s m meth c b L xs) (fK : va_K (eD g) vwCl (wTy g) s) (fS : wSt g (newA s) s) (fN : wNs s) (fG : wGr g s) (hge : s.heap.size ≤ hh) (hP : va_P (eD g) vwCl (mkW hh 1 f) H) (hH : H.size = hh + 1) (hS : va_S (newA s) s.heap H locs) (hl : lv_has ls 4 lv)
    (hM : mW M' ∈ lw_good) (hlk : Cond.methodLink R_law idx (mY M') ∈ lw_good) (hs : Cond.instanceMethod (mY M') ∈ lw_good) (hn : Cond.initialized (mY M').cls ∈ lw_good) (hdd : okM M' 0) (hnm : (mY M').name = "<init>") (hmr : mR M' = none) (hmx : mN M' = 1) (hrest : (rest.map fun v => v.category).sum ≤ 8) (hd : decode cL_law pc = .ok (.invokespecial idx, 3)) (hd' : d' ≤ 8) (hC : k + C' ≤ 600000) (hSl : sl + S' ≤ 7302249) (hR : cRuns g hh 1 d' C' S' M' [.ref hh] f K')
    (kk : ∀ f' H1 locs1, K' f' → va_P (eD g) vwCl (mkW hh (1 + C') f') H1 → (∀ q : Nat, q < hh → H1[q]? = H[q]?) → va_S (newA s) s.heap H1 locs1 → W p (eL g) e room_1 s m #[Value.ref b] below meth c H1 locs1 (k + C') (sl + S') Q (F0 m (pc + 3) ls rest)) :
    W p (eL g) e room_1 s m #[Value.ref b] below meth c H locs k sl Q (F0 m pc ls (.ref hh :: rest)) := by
  obtain ⟨fx, fb, fr, fm, fo, ft, fX, fl, fk, fg⟩ := F
  have hg : ∀ w ∈ lw_good, w.before #[Value.ref b] s = true := fun w hw => ft w (List.mem_filter.mp hw).1
  have hsub : ∀ q, geA hh q → newA s q := fun q z => Nat.le_trans hge z
  have hpre : PreS s H (va_Pc [.ref hh] (cU g hh 1 f)) [.ref hh] := ⟨cU_blind, fun U hU hW => ⟨rfl, by rw [hU]; exact hH, by rw [hU]; exact hP, va_K.moved hW.alike fK, (wSt_moved fS hW.alike hS hU).anti hsub, wNs_warm hW fN, fG.moved hW.alike⟩⟩
  have hcw := cwI (R := room_1) (rm := rmC d' C' S') (Ts := lw_good) (ws' := lw_good) (y := mY M') (bytes := mC M') (maxL := mN M') (mc := C') (ms := S') (own := R_law) (index := idx) 0 hg (lw_goodIn hM) (by rw [← hmr]) rfl rfl (hg _ hn) (hg _ hlk) (hg _ hs) hnm hdd ⟨by show d' + 1 ≤ 9; omega, by show 8 + (mN M' + 11) + 40 * d' ≤ 372; omega⟩
  have hr := va_runI (As := []) (rest := rest) (e := e) (below := below) (meth := meth) (locs := locs) (cells := k) (slots := sl) (R := room_1) (l := eL g) (g := F0 m pc ls (.ref hh :: rest)) ⟨fx, fb, fm, fo, hg⟩ hR hcw hpre rfl rfl hl.1 rfl (lv_room hrest) hd ⟨hC, hSl⟩
  intro T hT X
  obtain ⟨v, st₀, t, T', L', h0, X', hL, e1, e2, ⟨⟨f', hv, hp, hb'⟩, hz', hk'⟩, stp⟩ := hr T hT X
  cases hv
  rw [h0] at hz' hk'
  obtain ⟨t2, a1, b1⟩ := kk f' T'.heap (locs ++ L') hp (by rw [e1]; exact hb') (fun q hq => by rw [e1]; exact hk' q (by omega) (fun z => absurd z (Nat.not_le.mpr hq)))
    ⟨Nat.le_trans hS.1 (by rw [e1]; exact hz'), fun q h1 h2 => by rw [e1, hk' q (Nat.lt_of_lt_of_le h1 hS.1) (fun z => h2 (hsub q z))]; exact hS.2.1 q h1 h2, fun q hq => by
      rcases List.mem_append.mp hq with h | h
      · exact hS.2.2 q h
      · exact hsub _ (hL q h)⟩ T' rfl X'
  exact ⟨t2, stp t2 a1, b1⟩
set_option maxRecDepth 20000 in
theorem whole_start {p : Program} {e : Env} {s : State} {m : MethodId} {below : List Frame} {meth : Method} {c : Code} (l : Launch) {b L : Nat} {xs : Nat → Int32} (hL : L ≤ 2560) (C0 : lw_At p s m meth c b L xs) : W p l e room_1 s m #[Value.ref b] below meth c s.heap [] 0 0 (lw_Z below #[Value.ref b] s) (entryFrame m ([Value.ref b] : List Value).toArray 4) := by
  obtain ⟨hx, hb, hr, hml, hown, hts, hX, hbl, hlocks, hgv⟩ := id C0
  have hg : ∀ w ∈ lw_good, w.before #[Value.ref b] s = true := fun w hw => hts w (List.mem_filter.mp hw).1
  have hnA : ∀ a : Nat, a < s.heap.size → ¬ newA s a := fun a h1 h2 => absurd h2 (Nat.not_le.mpr h1)
  obtain ⟨c0, i0, k0⟩ := u_known (C := RX1) (T := TX1) (N := 6) (n := 6) hg inG1 (hg _ wna_X1)
  obtain ⟨c1, i1, k1⟩ := u_known (C := RX2) (T := TX2) (N := 13) (n := 13) hg inG2 (hg _ wna_X2)
  obtain ⟨c2, i2, k2⟩ := u_known (C := RX3) (T := TX3) (N := 18) (n := 18) hg inG3 (hg _ wna_X3)
  obtain ⟨aI, kI, oI, nI1, nI2, nI3⟩ := Cond.arrayClass_spec (hg _ war_int)
  obtain ⟨aJ, kJ, oJ, nJ1, nJ2, nJ3⟩ := Cond.arrayClass_spec (hg _ war_long)
  obtain ⟨aZ, kZ, oZ, nZ1, nZ2, nZ3⟩ := Cond.arrayClass_spec (hg _ war_bool)
  obtain ⟨aJ', aG, kG, nG0, nG1, nG2, nG3⟩ := over_long (hts (.arrayOver (.array .long)) (List.mem_of_getElem? (i := 65) (by decide +kernel)))
  have eJ : aJ' = aJ := Option.some.inj (nG0.symm.trans nJ1)
  subst eJ
  obtain ⟨t0, ht0, hT0⟩ := st_ONE hgv hnA
  obtain ⟨t1, ht1, hT1⟩ := st_MF hgv hnA
  obtain ⟨g, hgd⟩ : ∃ g : Ev, g = gE l (fun k => if k = 0 then c0 else if k = 1 then c1 else c2) (fun k => if k = 0 then i0 else if k = 1 then i1 else i2) s.heap.size (fun k => if k = 0 then aI else if k = 1 then aJ' else if k = 2 then aZ else aG) (fun k => if k = 0 then t0 else t1) := ⟨_, rfl⟩
  have hK : va_K (eD g) vwCl (wTy g) s := by
    rw [hgd]
    refine ⟨fun k q hq => ?_, fun k q hq => ?_⟩
    · match k, hq with
      | 0, hq => cases hq; exact k0
      | 1, hq => cases hq; exact k1
      | 2, hq => cases hq; exact k2
      | k + 3, hq => simp [vwCl] at hq
    · match k, hq with
      | 0, hq => cases hq; exact ⟨arr_of nI2 nI3, nI1⟩
      | 1, hq => cases hq; exact ⟨arr_of nJ2 nJ3, nJ1⟩
      | 2, hq => cases hq; exact ⟨arr_of nZ2 nZ3, nZ1⟩
      | 3, hq => cases hq; exact ⟨arr_of nG2 nG3, nG1⟩
      | k + 4, hq => simp [wTy] at hq
  have hSt : wSt g (newA s) s := by
    rw [hgd]
    exact ⟨va_Zof (hts (.laysStatic "DecisionWeb$Bits" "ONE_AT" "[J") (List.mem_of_getElem? (i := 197) (by decide +kernel))) (hg _ wi_X0) ht0 hnA, hT0, va_Zof (hts (.laysStatic "DecisionWeb" "MOST_FORKS" "[I") (List.mem_of_getElem? (i := 203) (by decide +kernel))) (hg _ wi_X2) ht1 hnA, hT1⟩
  have hNs : wNs s := fun w hw => by
    have h1 := hts w (List.mem_filter.mp hw).1
    have h2 := (List.mem_filter.mp hw).2
    cases w <;> first | (cases h2; done) | exact va_Nw.of rfl h1
  have hGr : wGr g s := by
    rw [hgd]
    exact ⟨kG, nG2, nG3⟩
  have hgl : eL g = l := by rw [hgd]
  have hS : va_S (newA s) s.heap s.heap [] := va_S.rf
  have hl := lv_entry ([.ref b]) (n := 4) (Nat.le_of_ble_eq_true rfl)
  rw [lg_entry_eq]
  generalize (lg_sl ([.ref b]) ++ List.replicate (4 - (lg_sl ([.ref b])).length) Slot.unset).toArray = ls at hl ⊢
  have hl : lv_has ls 4 [(0, .ref b)] := hl
  rw [← hgl]
  refine w_newO (D := eD g) (ci := 1) (fs := [.null, .null, .null, .null, .null, .null, .int 0, .int 0, .int 0, .long 0, .int 0, .int 0, .int 0]) hx hb hg inG2 tyX2 tyX2_ok hown (hg _ wcl_law_7) (hg _ wna_X2) (hg _ lqn_X2) hK rfl (fun j hj => by rcases (show j = 0 ∨ j = 1 ∨ j = 2 ∨ j = 3 ∨ j = 4 ∨ j = 5 ∨ j = 6 ∨ j = 7 ∨ j = 8 ∨ j = 9 ∨ j = 10 ∨ j = 11 ∨ j = 12 by omega) with rfl | rfl | rfl | rfl | rfl | rfl | rfl | rfl | rfl | rfl | rfl | rfl | rfl <;> rfl) (by decide) (by decide) dL_law_0 rfl (fun H1 e1 z1 o1 => ?_)
  refine lv_dup hx hb dL_law_3 rfl ?_
  have hP1 : va_P (eD g) vwCl (mkW s.heap.size 1 (cfX g [.null, .null, .null, .null, .null, .null, .int 0, .int 0, .int 0, .long 0, .int 0, .int 0, .int 0] [.null, .null, .null, .int 0, .null, .int 0])) H1 := by
    intro k q hq
    obtain ⟨hk, rfl⟩ := mk_get hq
    have e0 : k = 0 := by omega
    subst e0
    exact e1
  have hS1 : va_S (newA s) s.heap H1 [] := ⟨by omega, fun q h1 _ => o1 q h1, fun _ h => by cases h⟩
  refine law_ctor (C' := 44) (S' := 51404) (d' := 8) C0 hK hSt hNs hGr (Nat.le_refl _) hP1 z1 hS1 hl wmc_X2_init wml_law_9 wms_X2_init lqn_X2 ok_X2_init rfl rfl rfl (Nat.le_of_ble_eq_true rfl) dL_law_4 (by decide) (by decide) (by decide) (K' := fun f => ∃ σ, InvX0 σ ∧ f = fX g σ) (by rw [hgd]; exact c_X2_init rfl) (fun f' H2 locs2 hK2 hP2 _ hS2 => ?_)
  obtain ⟨σX, hIX, rfl⟩ := hK2
  refine lv_astore_n (lv' := [(1, .ref s.heap.size), (0, .ref b)]) hx hb dL_law_7 rfl hl (by decide) rfl (fun ls hl => ?_)
  refine w_sized (n0 := 0) (k := 0 + 1 + 44) rfl (by decide) hP2 (fun hH2 => ?_)
  refine w_newO (D := eD g) (ci := 2) (fs := [.int 0, .int 0, .int 0, .null, .null, .null, .null, .null, .null, .null, .null, .null, .null, .null, .null, .null, .int 0, .int 0]) hx hb hg inG3 tyX3 tyX3_ok hown (hg _ wcl_law_10) (hg _ wna_X3) (hg _ lqn_X3) hK rfl (fun j hj => by rcases (show j = 0 ∨ j = 1 ∨ j = 2 ∨ j = 3 ∨ j = 4 ∨ j = 5 ∨ j = 6 ∨ j = 7 ∨ j = 8 ∨ j = 9 ∨ j = 10 ∨ j = 11 ∨ j = 12 ∨ j = 13 ∨ j = 14 ∨ j = 15 ∨ j = 16 ∨ j = 17 by omega) with rfl | rfl | rfl | rfl | rfl | rfl | rfl | rfl | rfl | rfl | rfl | rfl | rfl | rfl | rfl | rfl | rfl | rfl <;> rfl) (by decide) (by decide) dL_law_8 hH2 (fun H3 e3 z3 o3 => ?_)
  refine lv_dup hx hb dL_law_11 rfl ?_
  have hP3 : va_P (eD g) vwCl (mkW (s.heap.size + 45) 1 (cfM g [.int 0, .int 0, .int 0, .null, .null, .null, .null, .null, .null, .null, .null, .null, .null, .null, .null, .null, .int 0, .int 0])) H3 := by
    intro k q hq
    obtain ⟨hk, rfl⟩ := mk_get hq
    have e0 : k = 0 := by omega
    subst e0
    exact e3
  have hH2' : H2.size = s.heap.size + 45 := hH2
  have o3' : ∀ q : Nat, q < s.heap.size + 45 → H3[q]? = H2[q]? := o3
  have z3' : H3.size = s.heap.size + 45 + 1 := z3
  have hS3 : va_S (newA s) s.heap H3 locs2 := ⟨by omega, fun q h1 h2 => (o3' q (by omega)).trans (hS2.2.1 q h1 h2), hS2.2.2⟩
  refine law_ctor (hh := s.heap.size + 45) (C' := 13) (S' := 925744) (d' := 8) C0 hK hSt hNs hGr (by omega) hP3 z3' hS3 hl wmc_X3_init wml_law_12 wms_X3_init lqn_X3 ok_X3_init rfl rfl rfl (Nat.le_of_ble_eq_true rfl) dL_law_12 (by decide) (by decide) (by decide) (K' := fun f => ∃ σ, InvM0 σ ∧ f = fM g σ) (by rw [hgd]; exact c_X3_init) (fun f' H4 locs4 hK4 hP4 o4 hS4 => ?_)
  obtain ⟨σM, hIM, rfl⟩ := hK4
  refine lv_astore_n (lv' := [(2, .ref (s.heap.size + 45)), (1, .ref s.heap.size), (0, .ref b)]) hx hb dL_law_15 rfl hl (by decide) rfl (fun ls hl => ?_)
  refine lv_iconst (v := nI 0) hx hb dL_law_16 rfl ?_
  refine lv_istore_n (lv' := [(3, .int (nI 0)), (2, .ref (s.heap.size + 45)), (1, .ref s.heap.size), (0, .ref b)]) hx hb dL_law_17 rfl hl (by decide) rfl (fun ls hl => ?_)
  have hP5 : va_P (eD g) vwCl (mkW s.heap.size 45 (fX g σX)) H4 := by
    refine va_P.kept (H := H2) hP2 fun k q hq => ?_
    obtain ⟨hk, rfl⟩ := mk_get hq
    have hk : k < 45 := hk
    show H4[s.heap.size + k]? = H2[s.heap.size + k]?
    rw [o4 _ (by omega), o3' _ (by omega)]
  have hXw : va_P (eD g) vwCl (wd g 0 45 σX) H4 := by
    rw [hgd] at hP5 ⊢
    exact X_to (fun j _ => rfl) hP5
  have hMw : va_P (eD g) vwCl (wd g 45 59 σM) H4 := by
    rw [hgd] at hP4 ⊢
    exact M_to (fun j _ => rfl) hP4
  have hLF : LF g p s m meth c b L xs := by
    refine ⟨C0, hK, hSt, hNs, ?_, ?_⟩
    · rw [hgd]; exact gE_inj
    · intro k _
      rw [hgd]
      exact Nat.le_add_right _ _
  have hLV : LVx g b 0 = [(0, .ref b), (1, .ref s.heap.size), (2, .ref (s.heap.size + 45)), (3, .int (nI 0))] := by
    rw [hgd]
    rfl
  refine law_loop (g := g) hL (by decide) (by decide) (L + 5) 0 (by omega) (by omega) σX σM 0 (by omega) ⟨6, 2000, _, _, _, _, _, hIX, hIM⟩ p e s m below meth c hLF H4 locs4 ls hXw hMw hS4 ?_
  rw [hLV]
  exact lv_sub hl [3, 2, 1, 0] rfl

section CPR
variable {g : Ev} {h n0 d C S : Nat} {M : Mt} {K : (Nat → va_E) → Prop} {pc a : Nat} {st : List Value} {k sl : Nat} {f : Nat → va_E}
theorem cp_this (hd : decode (mC M) pc = .ok (.aload_n 0, 1)) (kk : CP g h n0 d C S M K (pc + 1) a (.ref a :: st) k sl f) : CP g h n0 d C S M K pc a st k sl f :=
  fun p e s m args below meth c F hz H locs ls hP hS hl => lv_aload_n F.1 F.2.1 hd rfl (lv_at hl 0 rfl) (kk p e s m args below meth c F hz H locs ls hP hS hl)
theorem cp_bipush {n : Int} (v : Int32) (hd : decode (mC M) pc = .ok (.bipush n, 2)) (hv : (Int8.ofInt n).toInt32 = v) (kk : CP g h n0 d C S M K (pc + 2) a (.int v :: st) k sl f) : CP g h n0 d C S M K pc a st k sl f :=
  fun p e s m args below meth c F hz H locs ls hP hS hl => lv_bipush F.1 F.2.1 hd hv (kk p e s m args below meth c F hz H locs ls hP hS hl)
theorem cp_sipush {n : Int} (v : Int32) (hd : decode (mC M) pc = .ok (.sipush n, 3)) (hv : (Int16.ofInt n).toInt32 = v) (kk : CP g h n0 d C S M K (pc + 3) a (.int v :: st) k sl f) : CP g h n0 d C S M K pc a st k sl f :=
  fun p e s m args below meth c F hz H locs ls hP hS hl => lv_sipush F.1 F.2.1 hd hv (kk p e s m args below meth c F hz H locs ls hP hS hl)
theorem cp_ldc {i : Nat} {v : Int32} (hw : Cond.constant (mY M).cls i v ∈ lw_good) (hd : decode (mC M) pc = .ok (.ldc i, 2)) (kk : CP g h n0 d C S M K (pc + 2) a (.int v :: st) k sl f) : CP g h n0 d C S M K pc a st k sl f :=
  fun p e s m args below meth c F hz H locs ls hP hS hl => lv_ldc F.1 F.2.1 F.2.2.2.2.1 (F.2.2.2.2.2.1 _ hw) hd (kk p e s m args below meth c F hz H locs ls hP hS hl)
theorem cp_dup {v : Value} (hd : decode (mC M) pc = .ok (.dup, 1)) (hv : v.category = 1) (kk : CP g h n0 d C S M K (pc + 1) a (v :: v :: st) k sl f) : CP g h n0 d C S M K pc a (v :: st) k sl f :=
  fun p e s m args below meth c F hz H locs ls hP hS hl => lv_dup F.1 F.2.1 hd hv (kk p e s m args below meth c F hz H locs ls hP hS hl)
theorem cp_pop {v : Value} (hd : decode (mC M) pc = .ok (.pop, 1)) (hv : v.category = 1) (kk : CP g h n0 d C S M K (pc + 1) a st k sl f) : CP g h n0 d C S M K pc a (v :: st) k sl f :=
  fun p e s m args below meth c F hz H locs ls hP hS hl => lv_pop F.1 F.2.1 hd hv (kk p e s m args below meth c F hz H locs ls hP hS hl)
theorem cp_obj {idx b : Nat} (hlk : Cond.methodLink (mY M).cls idx objectInit ∈ lw_good) (hin : Cond.instanceMethod objectInit ∈ lw_good) (hco : Cond.code objectInit ⟨#[0xb1]⟩ 1 none ∈ lw_good) (hd : decode (mC M) pc = .ok (.invokespecial idx, 3)) (h1 : 1 ≤ d) (kk : CP g h n0 d C S M K (pc + 3) a [] k sl f) : CP g h n0 d C S M K pc a [.ref b] k sl f :=
  fun p e s m args below meth c F hz H locs ls hP hS hl => W.objInit F.1 F.2.1 F.2.2.2.2.1 (F.2.2.2.2.2.1 _ hlk) (F.2.2.2.2.2.1 _ hin) (F.2.2.2.2.2.1 _ hco) (g := F0 m pc ls [.ref b]) rfl (hl.1.trans F.2.2.2.1.symm) rfl hd h1 (by show 2 * 0 + 0 + 12 ≤ 40 * d; omega) (kk p e s m args below meth c F hz H locs ls hP hS hl)
theorem cp_newI {x : Int32} {L : Nat} (harr : Cond.arrayClass .int ∈ lw_good) (hf : f (n0 + k) = .inl (eC g 0, L, .inl (fun _ => 0))) (hx0 : ¬ x < 0) (hx : x.toNatClampNeg = L) (hb : L * 4 ≤ 536870912) (hn : 0 < n0 + k) (hc : k + 1 ≤ C) (hs : sl + L ≤ S) (hd : decode (mC M) pc = .ok (.newarray .int, 2)) (kk : CP g h n0 d C S M K (pc + 2) a (.ref (h + (n0 + k)) :: st) (k + 1) (sl + L) f) : CP g h n0 d C S M K pc a (.int x :: st) k sl f := by
  intro p e s m args below meth c F hz H locs ls hP hS hl
  refine w_sized hz hn hP fun hH => va_newaK F.1 F.2.1 (atype := .int) (F.2.2.2.2.2.1 _ harr) rfl hd rfl hx0 hx hb hc hs hH fun H1 cA e1 z1 o1 _ hnm => ?_
  have hcA : cA = eC g 0 := Option.some.inj (hnm.symm.trans (F.2.2.2.2.2.2.2.1.2 0 _ rfl).2)
  subst hcA
  refine kk p e s m args below meth c F hz H1 locs ls (mk_push hP o1 ?_) ⟨Nat.le_trans hS.1 (by omega), fun q h1 h2 => (o1 q (by have := hS.1; omega)).trans (hS.2.1 q h1 h2), hS.2.2⟩ hl
  show va_at (eD g) vwCl (h + (n0 + k), f (n0 + k)) H1
  rw [hf]
  exact e1
theorem cp_newZ {x : Int32} {L : Nat} (harr : Cond.arrayClass .boolean ∈ lw_good) (hf : f (n0 + k) = .inl (eC g 2, L, .inl (fun _ => 0))) (hx0 : ¬ x < 0) (hx : x.toNatClampNeg = L) (hb : L * 1 ≤ 536870912) (hn : 0 < n0 + k) (hc : k + 1 ≤ C) (hs : sl + L ≤ S) (hd : decode (mC M) pc = .ok (.newarray .boolean, 2)) (kk : CP g h n0 d C S M K (pc + 2) a (.ref (h + (n0 + k)) :: st) (k + 1) (sl + L) f) : CP g h n0 d C S M K pc a (.int x :: st) k sl f := by
  intro p e s m args below meth c F hz H locs ls hP hS hl
  refine w_sized hz hn hP fun hH => va_newaK F.1 F.2.1 (atype := .boolean) (F.2.2.2.2.2.1 _ harr) rfl hd rfl hx0 hx hb hc hs hH fun H1 cA e1 z1 o1 _ hnm => ?_
  have hcA : cA = eC g 2 := Option.some.inj (hnm.symm.trans (F.2.2.2.2.2.2.2.1.2 2 _ rfl).2)
  subst hcA
  refine kk p e s m args below meth c F hz H1 locs ls (mk_push hP o1 ?_) ⟨Nat.le_trans hS.1 (by omega), fun q h1 h2 => (o1 q (by have := hS.1; omega)).trans (hS.2.1 q h1 h2), hS.2.2⟩ hl
  show va_at (eD g) vwCl (h + (n0 + k), f (n0 + k)) H1
  rw [hf]
  exact e1
theorem cp_grid {idx : Nat} {x y : Int32} (hlk : Cond.classLink (mY M).cls idx "[[J" ∈ lw_good) (hf : f (n0 + k) = .inl (eC g 3, 34, .inr (.inr (.inr (.inr (fun t => if t < 34 then some (h + (n0 + k) + 1 + t) else none)))))) (hf2 : ∀ j, j < 34 → f (n0 + k + 1 + j) = .inl (eC g 1, 64, .inr (.inl (fun _ => 0)))) (hx : x = nI 34) (hy : y = nI 64) (hn : 0 < n0 + k) (hc : k + 35 ≤ C) (hs : sl + 2210 ≤ S) (hd : decode (mC M) pc = .ok (.multianewarray idx 2, 4)) (kk : CP g h n0 d C S M K (pc + 4) a (.ref (h + (n0 + k)) :: st) (k + 35) (sl + 2210) f) : CP g h n0 d C S M K pc a (.int y :: .int x :: st) k sl f := by
  intro p e s m args below meth c F hz H locs ls hP hS hl
  obtain ⟨kA, hkA, hA⟩ := F.2.2.2.2.2.2.2.2.2.2.1
  obtain ⟨-, kB, hkB, c0, hB⟩ := (F.2.2.2.2.2.2.2.1.2 1 _ rfl).1 0 (fun _ => .null)
  refine w_sized hz hn hP fun hH => w_grid (cA := eC g 3) (cB := eC g 1) (N := 34) (K := 64) F.1 F.2.1 F.2.2.2.2.1 (F.2.2.2.2.2.1 _ hlk) (F.2.2.2.2.2.2.2.1.2 3 _ rfl).2 hkA hA hkB hB hd (by rw [hx]; decide) (by rw [hy]; decide) (by rw [hx]; decide) (by rw [hy]; decide) (by omega) (by omega) hc hs fun H1 z1 e1 e2 o1 => ?_
  rw [hH] at z1 e1 e2 o1 ⊢
  refine kk p e s m args below meth c F hz H1 locs ls ?_ ⟨Nat.le_trans hS.1 (by omega), fun q h1 h2 => (o1 q (by have := hS.1; omega)).trans (hS.2.1 q h1 h2), hS.2.2⟩ hl
  intro i q hq
  obtain ⟨hi, rfl⟩ := mk_get hq
  rcases (show i < n0 + k ∨ i = n0 + k ∨ n0 + k < i by omega) with l | rfl | l
  · exact (hP i _ (mk_at l)).kept (o1 _ (by show h + i < _; omega))
  · show va_at _ _ (_, f (n0 + k)) _
    rw [hf]
    show H1[h + (n0 + k)]? = some (vp_cell _ _)
    rw [e1, vp_cell_q]
    congr 2
    funext j
    by_cases l : j < 34
    · rw [if_pos l, if_pos l]
      rfl
    · rw [if_neg l, if_neg l]
      rfl
  · obtain ⟨j, rfl⟩ : ∃ j, i = n0 + k + 1 + j := ⟨i - (n0 + k + 1), by omega⟩
    show va_at _ _ (_, f (n0 + k + 1 + j)) _
    rw [hf2 j (by omega)]
    show H1[h + (n0 + k + 1 + j)]? = some (vp_cell _ _)
    rw [show h + (n0 + k + 1 + j) = h + (n0 + k) + 1 + j by omega, e2 j (by omega)]
    rfl
theorem cp_put (i ci fl : Nat) {f' : Nat → va_E} {C' : String} {T : u_T} {N idx : Nat} {fs : List Value} {v : Value} {ty : FieldType} (ty0 : Nat → FieldType) (hty : ∀ k, k < N → parseFieldDescriptor (T k).2.2.1 = some (ty0 k)) (hnm : ∀ a, a < N → ∀ b, b < N → a ≠ b → (T a).2.1 ≠ (T b).2.1) (hi : i < n0 + k) (hc : f i = .inr (ci, fs)) (hcl : vwCl[ci]? = some (C', T, N)) (hin : ∀ w ∈ u_ws C' T N, w ∈ lw_good) (hf : fl < N) (hw : Cond.fieldLink (mY M).cls idx (T fl).1 (T fl).2.1 (T fl).2.2.1 ∈ lw_good) (hfin : (T fl).2.2.2 = false) (hdd : parseFieldDescriptor (T fl).2.2.1 = some ty) (hn : narrow ty v = v) (hfit : fits ty v = true) (hl0 : fl < fs.length) (hd : decode (mC M) pc = .ok (.putfield idx, 3))
    (he : va_up f i (.inr (ci, fs.set fl v)) = f') (kk : CP g h n0 d C S M K (pc + 3) a st k sl f') : CP g h n0 d C S M K pc a (v :: .ref (h + i) :: st) k sl f :=
  fun p e s m args below meth c F hz H locs ls hP hS hl => va_put (D := eD g) (ci := ci) (v := v) (ty := ty) (C := C') (T := T) (N := N) F.1 F.2.1 F.2.2.2.2.2.1 hin ty0 hty hnm F.2.2.2.2.1 F.2.2.2.2.2.2.2.1 hP mk_D hS i (by rw [mk_at hi, hc]) hcl fl hf (F.2.2.2.2.2.1 _ hw) (fun _ h9 => h9) hfin hdd hn hfit hl0 hd
    (fun H1 locs1 hP1 _ hS1 => kk p e s m args below meth c F hz H1 locs1 ls (by rw [mk_set hi, he] at hP1; exact hP1) hS1 hl)
theorem cp_putF (i ci fl : Nat) {f' : Nat → va_E} {C' : String} {T : u_T} {N idx : Nat} {fs : List Value} {v : Value} {ty : FieldType} (ty0 : Nat → FieldType) (hty : ∀ k, k < N → parseFieldDescriptor (T k).2.2.1 = some (ty0 k)) (hnm : ∀ a, a < N → ∀ b, b < N → a ≠ b → (T a).2.1 ≠ (T b).2.1) (hi : i < n0 + k) (hc : f i = .inr (ci, fs)) (hcl : vwCl[ci]? = some (C', T, N)) (hin : ∀ w ∈ u_ws C' T N, w ∈ lw_good) (hf : fl < N) (hw : Cond.fieldLink (mY M).cls idx (T fl).1 (T fl).2.1 (T fl).2.2.1 ∈ lw_good) (hfin : (T fl).2.2.2 = true) (hdecl : (T fl).1 = (mY M).cls) (hdd : parseFieldDescriptor (T fl).2.2.1 = some ty) (hn : narrow ty v = v) (hfit : fits ty v = true) (hl0 : fl < fs.length) (hd : decode (mC M) pc = .ok (.putfield idx, 3))
    (he : va_up f i (.inr (ci, fs.set fl v)) = f') (kk : CP g h n0 d C S M K (pc + 3) a st k sl f') : CP g h n0 d C S M K pc a (v :: .ref (h + i) :: st) k sl f :=
  fun p e s m args below meth c F hz H locs ls hP hS hl => va_putF (D := eD g) (ci := ci) (v := v) (ty := ty) (C := C') (T := T) (N := N) F.1 F.2.1 F.2.2.2.2.2.1 hin ty0 hty hnm F.2.2.2.2.1 F.2.2.2.2.2.2.2.1 hP mk_D hS i (by rw [mk_at hi, hc]) hcl fl hf (F.2.2.2.2.2.1 _ hw) (fun _ h9 => h9) hfin F.2.2.2.2.2.2.2.2.2.2.2 hdecl hdd hn hfit hl0 hd
    (fun H1 locs1 hP1 _ hS1 => kk p e s m args below meth c F hz H1 locs1 ls (by rw [mk_set hi, he] at hP1; exact hP1) hS1 hl)
theorem cp_newO (ci : Nat) {C' : String} {T : u_T} {N idx : Nat} {fs : List Value} (ty : Nat → FieldType) (hty : ∀ k, k < N → parseFieldDescriptor (T k).2.2.1 = some (ty k)) (hcl : vwCl[ci]? = some (C', T, N)) (hin : ∀ w ∈ u_ws C' T N, w ∈ lw_good) (hlk : Cond.classLink (mY M).cls idx C' ∈ lw_good) (hinst : Cond.instantiable C' N ∈ lw_good) (hini : Cond.initialized C' ∈ lw_good) (hfs : ∀ j, j < N → defaultValue (ty j) = vp_V fs j) (hf : f (n0 + k) = .inr (ci, fs)) (hn : 0 < n0 + k) (hc : k + 1 ≤ C) (hs : sl + N ≤ S) (hd : decode (mC M) pc = .ok (.new idx, 3)) (kk : CP g h n0 d C S M K (pc + 3) a (.ref (h + (n0 + k)) :: st) (k + 1) (sl + N) f) : CP g h n0 d C S M K pc a st k sl f := by
  intro p e s m args below meth c F hz H locs ls hP hS hl
  refine w_sized hz hn hP fun hH => w_newO (D := eD g) (ci := ci) F.1 F.2.1 F.2.2.2.2.2.1 hin ty hty F.2.2.2.2.1 (F.2.2.2.2.2.1 _ hlk) (F.2.2.2.2.2.1 _ hinst) (F.2.2.2.2.2.1 _ hini) F.2.2.2.2.2.2.2.1 hcl hfs hc hs hd hH fun H1 e1 z1 o1 => ?_
  refine kk p e s m args below meth c F hz H1 locs ls (mk_push hP o1 ?_) ⟨Nat.le_trans hS.1 (by omega), fun q h1 h2 => (o1 q (by have := hS.1; omega)).trans (hS.2.1 q h1 h2), hS.2.2⟩ hl
  show va_at (eD g) vwCl (h + (n0 + k), f (n0 + k)) H1
  rw [hf]
  exact e1
theorem cp_ret (hr : mR M = none) (hk : k = C) (hs : sl = S) (hd : decode (mC M) pc = .ok (.return_, 1)) (hK : K f) : CP g h n0 d C S M K pc a [] k sl f := by
  subst hk hs
  exact fun p e s m args below meth c F hz H locs ls hP hS hl => W.vret F.1 F.2.1 (F.2.2.1.trans hr) (fun t ht hW => ⟨⟨f, rfl, hK, by rw [ht]; exact hP⟩, hS.F ht⟩) hS.2.2 hd F.2.2.2.2.2.2.1
/-- a constructor called by a constructor (a nest mate's) -/
theorem cp_callIN {idx b C' S' d' : Nat} {M' : Mt} {host : String} {K' : (Nat → va_E) → Prop} {rest : List Value} (hM : mW M' ∈ lw_good) (hlk : Cond.methodLinkNest (mY M).cls idx (mY M') host ∈ lw_nest) (hs : Cond.instanceMethod (mY M') ∈ lw_good) (hn : Cond.initialized (mY M').cls ∈ lw_good) (hdd : okM M' 0) (hnm : (mY M').name = "<init>") (hmr : mR M' = none) (hmx : mN M' ≤ 21) (hrest : (rest.map fun v => v.category).sum ≤ 8) (hd : decode (mC M) pc = .ok (.invokespecial idx, 3)) (hd' : d' + 1 ≤ d) (h0 : 0 < n0 + k) (hC : k + C' ≤ C) (hS' : sl + S' ≤ S) (hR : cRuns g h (n0 + k) d' C' S' M' [.ref b] f K') (kk : ∀ f', K' f' → CP g h n0 d C S M K (pc + 3) a rest (k + C') (sl + S') f') : CP g h n0 d C S M K pc a (.ref b :: rest) k sl f := by
  intro p e s m args below meth c F hz H locs ls hP hS hl
  refine w_sized hz h0 hP fun hH => ?_
  have hg := F.2.2.2.2.2.1
  have hpre : PreS s H (va_Pc [.ref b] (cU g h (n0 + k) f)) [.ref b] := ⟨cU_blind, fun U hU hW => ⟨rfl, by rw [hU]; exact hH, by rw [hU]; exact hP, va_K.moved hW.alike F.2.2.2.2.2.2.2.1, wSt_moved F.2.2.2.2.2.2.2.2.1 hW.alike hS hU, wNs_warm hW F.2.2.2.2.2.2.2.2.2.1, F.2.2.2.2.2.2.2.2.2.2.1.moved hW.alike⟩⟩
  have hcn := va_cnB (R := rmC d C S) (rm := rmC d' C' S') (maxL := mN M') (mc := C') (ms := S') (bytes := mC M') (ret := none) (y := mY M') (index := idx) (ws' := lw_good) 0 hg (lw_goodIn hM) (by rw [← hmr]) rfl rfl (F.2.2.2.2.2.2.2.2.2.1 _ hlk) (hg _ hn) hdd ⟨hd', by show 8 + (mN M' + 11) + 40 * d' ≤ 40 * d; omega⟩
  have hr := va_runIN (As := []) (rest := rest) (e := e) (below := below) (meth := meth) (locs := locs) (cells := k) (slots := sl) (R := rmC d C S) (l := eL g) (g := F0 m pc ls (.ref b :: rest)) ⟨F.1, F.2.1, F.2.2.2.1, F.2.2.2.2.1, hg⟩ hR ⟨hcn, hnm, hg _ hs⟩ hpre rfl rfl hl.1 rfl (lv_room hrest) hd ⟨hC, hS'⟩
  intro T hT X
  obtain ⟨v, st₀, t, T', L', h0', X', hL, e1, e2, ⟨⟨f', hv, hp, hb'⟩, hz', hk'⟩, stp⟩ := hr T hT X
  cases hv
  rw [h0'] at hz' hk'
  obtain ⟨t2, a1, b1⟩ := kk f' hp p e s m args below meth c F hz T'.heap (locs ++ L') ls (by rw [e1, ← Nat.add_assoc]; exact hb')
    ⟨Nat.le_trans hS.1 (by rw [e1]; exact hz'), fun q h1 h2 => by rw [e1, hk' q (Nat.lt_of_lt_of_le h1 hS.1) h2]; exact hS.2.1 q h1 h2, fun q hq => by
      rcases List.mem_append.mp hq with h | h
      · exact hS.2.2 q h
      · exact hL q h⟩ hl T' rfl X'
  exact ⟨t2, stp t2 a1, b1⟩
/-- a method of the layer below, called by a constructor -/
theorem cp_run {lo hi ko ci idx d' : Nat} {M' : Mt} {F' : Option Value → St → Prop} {σ : St} (fw : St → Nat → va_E) (As rest : List Value) {T : u_T} {N : Nat} {fs : List Value} (hto : ∀ H, va_P (eD g) vwCl (mkW h (n0 + k) f) H → va_P (eD g) vwCl (wd g lo hi σ) H) (hfrom : ∀ σ' H, va_P (eD g) vwCl (wd g lo hi σ') H → va_P (eD g) vwCl (mkW h (n0 + k) (fw σ')) H) (hsub : ∀ q, wA g lo hi q → geA h q) (hI : wInj g lo hi)
    (h1 : lo ≤ ko) (h2 : ko < hi) (hc : wcell g σ ko = .inr (ci, fs)) (hcl : vwCl[ci]? = some ((mY M').cls, T, N)) (hM : mW M' ∈ lw_good) (hlk : Cond.methodLink (mY M).cls idx (mY M') ∈ lw_good) (hs : Cond.instanceMethod (mY M') ∈ lw_good) (hsel : Cond.selects (mY M').cls (mY M') (mY M') ∈ lw_good) (hn : Cond.initialized (mY M').cls ∈ lw_good) (hdd : okM M' As.length) (hmx : mN M' ≤ 21) (hrest : (rest.map fun v => v.category).sum ≤ 8) (hd : decode (mC M) pc = .ok (.invokevirtual idx, 3)) (hd' : d' + 1 ≤ d) (hC : k ≤ C) (hSl : sl ≤ S) (hst : As.reverse ++ .ref (eA g ko) :: rest = st) (hR : Runs g lo hi d' M' (.ref (eA g ko) :: As) σ F')
    (kk : ∀ r σ', F' r σ' → CP g h n0 d C S M K (pc + 3) a (r.toList ++ rest) k sl (fw σ')) : CP g h n0 d C S M K pc a st k sl f := by
  subst hst
  intro p e s m args below meth c F hz H locs ls hP hS hl
  have hg := F.2.2.2.2.2.1
  have hP' := hto H hP
  have hpre : PreV s H (mY M').cls (eA g ko) (va_Pc (.ref (eA g ko) :: As) (wU g lo hi σ)) As := ⟨wU_blind, va_recv F.2.2.2.2.2.2.2.1 hP' hcl (q0 := ko - lo) (by rw [wd_at h1 h2, hc]), fun U hU hW => ⟨rfl, by rw [hU]; exact hP', va_K.moved hW.alike F.2.2.2.2.2.2.2.1, (wSt_moved F.2.2.2.2.2.2.2.2.1 hW.alike hS hU).anti hsub, wNs_warm hW F.2.2.2.2.2.2.2.2.2.1, hI⟩⟩
  have hr := va_runV (As := As) (rest := rest) (e := e) (below := below) (meth := meth) (locs := locs) (cells := k) (slots := sl) (R := rmC d C S) (l := eL g) (g := F0 m pc ls (As.reverse ++ .ref (eA g ko) :: rest)) ⟨F.1, F.2.1, F.2.2.2.1, F.2.2.2.2.1, hg⟩ hR ⟨callB_of As.length hg (lw_goodIn hM) rfl rfl rfl (hg _ hn) (hg _ hlk) hdd ⟨hd', by show 8 + (mN M' + 11) + 40 * d' ≤ 40 * d; omega⟩, hg _ hs, hg _ hsel⟩ hpre rfl rfl hl.1 rfl (lv_room hrest) hd ⟨hC, hSl⟩
  intro T hT X
  obtain ⟨v, st₀, t, T', L', h0, X', hL, e1, e2, ⟨⟨r, σ', hv, hp, hb'⟩, hz', hk'⟩, stp⟩ := hr T hT X
  cases hv
  rw [h0] at hz' hk'
  obtain ⟨t2, a1, b1⟩ := kk v σ' hp p e s m args below meth c F hz T'.heap (locs ++ L') ls (by rw [e1]; exact hfrom σ' _ hb')
    ⟨Nat.le_trans hS.1 (by rw [e1]; exact hz'), fun q h1 h2 => by rw [e1, hk' q (Nat.lt_of_lt_of_le h1 hS.1) (fun z => h2 (hsub q z))]; exact hS.2.1 q h1 h2, fun q hq => by
      rcases List.mem_append.mp hq with h | h
      · exact hS.2.2 q h
      · exact hsub _ (hL q h)⟩ hl T' rfl X'
  exact ⟨t2, stp t2 a1, b1⟩
end CPR

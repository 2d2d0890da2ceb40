/-! THE CLAIM OUT OF ONE WALK OF THE LAW'S BODY. Your part is whole_start (and what it stands on); all else here is the same for every law, but numbers. -/
def R_law : String := "DecisionWebLaw"
def lw_P (b : Addr) (xs : List Int32) (args : Array Value) (s : State) : Prop := args = #[.ref b] ∧ s.IntsAt b xs ∧ xs.length ≤ 2560 ∧ (Jvm.Cond.and given_1 narrow_1).before args s = true
def lw_Q (_ : Array Value) (s : State) (o : Outcome) (t : State) : Prop := o = .returned (some (.int 1)) ∧ Framed s o t [] 600000 7302249
def lw_Z (below : List Frame) (a : Array Value) (s : State) : State → Prop := fun t => ∃ o, t.status = .running ∧ Ended t below o ∧ lw_Q a s o t
/-- the law's own end, with 1 on the stack, nothing written that was there before, its room as the claim has it -/
theorem lw_ret {p : Program} {l : Launch} {e : Env} {s : State} {m : MethodId} {below : List Frame} {meth : Method} {c : Code} {b : Nat} (hx : p.tables.exec = Jvm.exec) (hb : c.code = code) (hr : meth.sig.returnType = ret) (hlocks : meth.locks = false) {pc : Nat} {H : Heap} {ls : Array Slot} (hdg : decode code pc = .ok (.ireturn, 1)) : W p l e room_1 s m #[Value.ref b] below meth c H [] 600000 7302249 (lw_Z below #[Value.ref b] s) (F0 m pc ls [.int 1]) := by
  intro T hT X
  obtain ⟨fs, hret, hrun, hended, hW, hframe⟩ := X.leave (v := some (.int 1)) (hlocks := hlocks) (fun h => by rw [hr] at h; cases h)
  have hmeth' : T.vm.method? m = some meth := X.method'
  refine ⟨T.setFrames fs, ?_, .returned (some (.int 1)), hrun, hended, rfl, ⟨_, rfl⟩, hW, hframe⟩
  jvm_step X.here [X.here.top, hx, hb, hdg, hmeth', hr, ret, narrow_b1]
  (try refine ⟨rfl, ?_⟩); (try refine ⟨rfl, ?_⟩)
  first | (intro acts; rw [hret _ acts rfl rfl rfl]) | rw [hret _ _ rfl rfl rfl]
  exact Steps.refl _
/-- what holds at the law's entry: the machine, the code, the tables' words (any of lw_tbl by 'hts w (by decide +kernel)'), the script of L ints xs at the cell b, what the Statement gives of the start (any of its parts by flat_of_before) -/
def lw_At (p : Program) (s : State) (m : MethodId) (meth : Method) (c : Code) (b L : Nat) (xs : Nat → Int32) : Prop :=
  p.tables.exec = Jvm.exec ∧ c.code = code ∧ meth.sig.returnType = ret ∧ c.maxLocals = 4 ∧ s.vm.findClass R_law = some m.cls ∧ (∀ w ∈ lw_tbl, w.before #[Value.ref b] s = true) ∧ va_X b L xs s s.heap ∧ b < s.heap.size ∧ meth.locks = false ∧ (Jvm.Cond.and given_1 narrow_1).before #[Value.ref b] s = true
/-! THE LAW'S LAYER: two worlds beside each other -/
theorem wSt.anti {g : Ev} {A A' : Nat → Prop} {U : State} (h : wSt g A U) (hA : ∀ q, A' q → A q) : wSt g A' U := by
  obtain ⟨⟨a1, a2, a3, a4, a5, a6, a7, a8, a9, a10, a11, a12, a13, a14⟩, ⟨b1, b2, b3, b4, b5, b6, b7, b8⟩, ⟨c1, c2, c3, c4, c5, c6, c7, c8, c9, c10, c11, c12, c13, c14⟩, ⟨d1, d2, d3, d4, d5, d6, d7, d8⟩⟩ := h
  exact ⟨⟨a1, a2, a3, a4, a5, a6, a7, a8, a9, a10, a11, a12, a13, fun q => a14 (hA _ q)⟩, ⟨b1, b2, b3, b4, b5, b6, b7, fun q => b8 (hA _ q)⟩, ⟨c1, c2, c3, c4, c5, c6, c7, c8, c9, c10, c11, c12, c13, fun q => c14 (hA _ q)⟩, ⟨d1, d2, d3, d4, d5, d6, d7, fun q => d8 (hA _ q)⟩⟩
theorem wInj.sub {g : Ev} {lo hi lo' hi' : Nat} (h : wInj g lo hi) (h1 : lo ≤ lo') (h2 : hi' ≤ hi) : wInj g lo' hi' := fun i j a b c d e => h i j (by omega) (by omega) (by omega) (by omega) e
def newA (s : State) : Nat → Prop := fun q => s.heap.size ≤ q
def LF (g : Ev) (p : Program) (s : State) (m : MethodId) (meth : Method) (c : Code) (b L : Nat) (xs : Nat → Int32) : Prop :=
  lw_At p s m meth c b L xs ∧ va_K (eD g) vwCl (wTy g) s ∧ wSt g (newA s) s ∧ wNs s ∧ wInj g 0 59 ∧ ∀ k, k < 59 → newA s (eA g k)
def LW (g : Ev) (C S b L : Nat) (xs : Nat → Int32) (pc : Nat) (lv : List (Nat × Value)) (st : List Value) (σX σM : St) : Prop :=
  ∀ (p : Program) (e : Env) (s : State) (m : MethodId) (below : List Frame) (meth : Method) (c : Code), LF g p s m meth c b L xs →
    ∀ (H : Heap) (locs : List Loc) (ls : Array Slot), va_P (eD g) vwCl (wd g 0 45 σX) H → va_P (eD g) vwCl (wd g 45 59 σM) H → va_S (newA s) s.heap H locs → lv_has ls 4 lv →
      W p (eL g) e room_1 s m #[Value.ref b] below meth c H locs C S (lw_Z below #[Value.ref b] s) (F0 m pc ls st)
theorem wd_kept {g : Ev} {lo hi lo' hi' : Nat} {σ : St} {H H1 : Heap} (hI : wInj g 0 59) (hP : va_P (eD g) vwCl (wd g lo hi σ) H) (h59 : hi ≤ 59) (h59' : hi' ≤ 59) (hd : hi ≤ lo' ∨ hi' ≤ lo) (hk : ∀ q : Nat, q < H.size → ¬ wA g lo' hi' q → H1[q]? = H[q]?) : va_P (eD g) vwCl (wd g lo hi σ) H1 := by
  refine hP.kept fun k q hq => ?_
  have hlt := (hP k q hq).lt
  obtain ⟨h1, rfl⟩ := wd_get hq
  refine hk _ hlt fun ⟨k', a1, a2, e⟩ => ?_
  have := hI _ _ (Nat.zero_le _) (by omega) (Nat.zero_le _) (by omega) e
  omega
section LAW
variable {g : Ev} {C S b L : Nat} {xs : Nat → Int32} {pc : Nat} {lv lv' : List (Nat × Value)} {st : List Value} {σX σM : St}
theorem lx_aload_n (q : Nat) {n : Fin 4} {i : Nat} {x : Nat} (hd : decode cL_law pc = .ok (.aload_n n, 1)) (hi' : (n : Nat) = i) (hq : lv[q]? = some (i, .ref x)) (k : LW g C S b L xs (pc + 1) lv (.ref x :: st) σX σM) : LW g C S b L xs pc lv st σX σM :=
  fun p e s m below meth c F H locs ls hX hM hS h => lv_aload_n F.1.1 F.1.2.1 hd hi' (lv_at h q hq) (k p e s m below meth c F H locs ls hX hM hS h)
theorem lx_iload_n (q : Nat) {n : Fin 4} {i : Nat} {x : Int32} (hd : decode cL_law pc = .ok (.iload_n n, 1)) (hi' : (n : Nat) = i) (hq : lv[q]? = some (i, .int x)) (k : LW g C S b L xs (pc + 1) lv (.int x :: st) σX σM) : LW g C S b L xs pc lv st σX σM :=
  fun p e s m below meth c F H locs ls hX hM hS h => lv_iload_n F.1.1 F.1.2.1 hd hi' (lv_at h q hq) (k p e s m below meth c F H locs ls hX hM hS h)
theorem lx_iconst {n : Int} (v : Int32) (hd : decode cL_law pc = .ok (.iconst n, 1)) (hv : Int32.ofInt n = v) (k : LW g C S b L xs (pc + 1) lv (.int v :: st) σX σM) : LW g C S b L xs pc lv st σX σM :=
  fun p e s m below meth c F H locs ls hX hM hS h => lv_iconst F.1.1 F.1.2.1 hd hv (k p e s m below meth c F H locs ls hX hM hS h)
theorem lx_bipush {n : Int} (v : Int32) (hd : decode cL_law pc = .ok (.bipush n, 2)) (hv : (Int8.ofInt n).toInt32 = v) (k : LW g C S b L xs (pc + 2) lv (.int v :: st) σX σM) : LW g C S b L xs pc lv st σX σM :=
  fun p e s m below meth c F H locs ls hX hM hS h => lv_bipush F.1.1 F.1.2.1 hd hv (k p e s m below meth c F H locs ls hX hM hS h)
theorem lx_iadd {x y : Int32} (hd : decode cL_law pc = .ok (.iadd, 1)) (k : LW g C S b L xs (pc + 1) lv (.int (x + y) :: st) σX σM) : LW g C S b L xs pc lv (.int y :: .int x :: st) σX σM :=
  fun p e s m below meth c F H locs ls hX hM hS h => lv_iadd F.1.1 F.1.2.1 hd (k p e s m below meth c F H locs ls hX hM hS h)
theorem lx_isub {x y : Int32} (hd : decode cL_law pc = .ok (.isub, 1)) (k : LW g C S b L xs (pc + 1) lv (.int (x - y) :: st) σX σM) : LW g C S b L xs pc lv (.int y :: .int x :: st) σX σM :=
  fun p e s m below meth c F H locs ls hX hM hS h => lv_isub F.1.1 F.1.2.1 hd (k p e s m below meth c F H locs ls hX hM hS h)
theorem lx_iand {x y : Int32} (hd : decode cL_law pc = .ok (.iand, 1)) (k : LW g C S b L xs (pc + 1) lv (.int (x &&& y) :: st) σX σM) : LW g C S b L xs pc lv (.int y :: .int x :: st) σX σM :=
  fun p e s m below meth c F H locs ls hX hM hS h => lv_iand F.1.1 F.1.2.1 hd (k p e s m below meth c F H locs ls hX hM hS h)
theorem lx_goto {off : Int} (t : Nat) (hd : decode cL_law pc = .ok (.goto off, 3)) (ht : (pc : Int) + off = (t : Int)) (k : LW g C S b L xs t lv st σX σM) : LW g C S b L xs pc lv st σX σM :=
  fun p e s m below meth c F H locs ls hX hM hS h => lv_goto F.1.1 F.1.2.1 hd ht (k p e s m below meth c F H locs ls hX hM hS h)
theorem lx_if_eq {x : Int32} {off : Int} (t : Nat) (hd : decode cL_law pc = .ok (.ifCond .eq off, 3)) (ht : (pc : Int) + off = (t : Int)) (kt : x = nI 0 → LW g C S b L xs t lv st σX σM) (kf : ¬ x = nI 0 → LW g C S b L xs (pc + 3) lv st σX σM) : LW g C S b L xs pc lv (.int x :: st) σX σM :=
  fun p e s m below meth c F H locs ls hX hM hS h => lv_if_eq F.1.1 F.1.2.1 hd ht (fun q => kt q p e s m below meth c F H locs ls hX hM hS h) (fun q => kf q p e s m below meth c F H locs ls hX hM hS h)
theorem lx_icmp_eq {x y : Int32} {off : Int} (t : Nat) (hd : decode cL_law pc = .ok (.if_icmp .eq off, 3)) (ht : (pc : Int) + off = (t : Int)) (kt : x = y → LW g C S b L xs t lv st σX σM) (kf : ¬ x = y → LW g C S b L xs (pc + 3) lv st σX σM) : LW g C S b L xs pc lv (.int y :: .int x :: st) σX σM :=
  fun p e s m below meth c F H locs ls hX hM hS h => lv_icmp_eq F.1.1 F.1.2.1 hd ht (fun q => kt q p e s m below meth c F H locs ls hX hM hS h) (fun q => kf q p e s m below meth c F H locs ls hX hM hS h)
theorem lx_icmp_gt {x y : Int32} {off : Int} (t : Nat) (hd : decode cL_law pc = .ok (.if_icmp .gt off, 3)) (ht : (pc : Int) + off = (t : Int)) (kt : y < x → LW g C S b L xs t lv st σX σM) (kf : ¬ y < x → LW g C S b L xs (pc + 3) lv st σX σM) : LW g C S b L xs pc lv (.int y :: .int x :: st) σX σM :=
  fun p e s m below meth c F H locs ls hX hM hS h => lv_icmp_gt F.1.1 F.1.2.1 hd ht (fun q => kt q p e s m below meth c F H locs ls hX hM hS h) (fun q => kf q p e s m below meth c F H locs ls hX hM hS h)
theorem lx_iinc (q : Nat) {i : Nat} {n : Int} {x : Int32} (v : Int32) (hd : decode cL_law pc = .ok (.iinc i n, 3)) (hb : Int32.ofInt n = v) (hq : lv[q]? = some (i, .int x)) (hn : i < 4) (hl : st1 lv i (.int (x + v)) = lv') (k : LW g C S b L xs (pc + 3) lv' st σX σM) : LW g C S b L xs pc lv st σX σM :=
  fun p e s m below meth c F H locs ls hX hM hS h => lv_iinc F.1.1 F.1.2.1 hd h hq (by rw [hb]) hn hl (fun ls h => k p e s m below meth c F H locs ls hX hM hS h)
theorem lx_sub (ks : List Nat) (hl : lv_pick lv ks = lv') (k : LW g C S b L xs pc lv' st σX σM) : LW g C S b L xs pc lv st σX σM :=
  fun p e s m below meth c F H locs ls hX hM hS h => k p e s m below meth c F H locs ls hX hM hS (lv_sub h ks hl)
theorem lx_tableIn {dflt l0 h0 : Int} {offs : Array Int} {len : Nat} {x : Int32} {off : Int} (t : Nat) (hd : decode cL_law pc = .ok (.tableswitch dflt l0 h0 offs, len)) (h1 : ¬ x.toInt < l0) (h2 : ¬ h0 < x.toInt) (ho : offs[(x.toInt - l0).toNat]? = some off) (ht : (pc : Int) + off = (t : Int)) (k : LW g C S b L xs t lv st σX σM) : LW g C S b L xs pc lv (.int x :: st) σX σM :=
  fun p e s m below meth c F H locs ls hX hM hS h => lv_tableIn F.1.1 F.1.2.1 hd h1 h2 ho ht (k p e s m below meth c F H locs ls hX hM hS h)
theorem lx_tableOut {dflt l0 h0 : Int} {offs : Array Int} {len : Nat} {x : Int32} (t : Nat) (hd : decode cL_law pc = .ok (.tableswitch dflt l0 h0 offs, len)) (h1 : x.toInt < l0 ∨ h0 < x.toInt) (ht : (pc : Int) + dflt = (t : Int)) (k : LW g C S b L xs t lv st σX σM) : LW g C S b L xs pc lv (.int x :: st) σX σM :=
  fun p e s m below meth c F H locs ls hX hM hS h => lv_tableOut F.1.1 F.1.2.1 hd h1 ht (k p e s m below meth c F H locs ls hX hM hS h)
theorem lx_sld {i : Nat} (hi : i < L) (hL : L < 2 ^ 31) (hd : decode cL_law pc = .ok (.iaload, 1)) (k : LW g C S b L xs (pc + 1) lv (.int (xs i) :: st) σX σM) : LW g C S b L xs pc lv (.int (nI i) :: .ref b :: st) σX σM :=
  fun p e s m below meth c F H locs ls hX hM hS h => va_sld F.1.1 F.1.2.1 F.1.2.2.2.2.2.2.1 F.1.2.2.2.2.2.2.2.1 (fun q => absurd F.1.2.2.2.2.2.2.2.1 (Nat.not_lt.mpr q)) hS ((vp_iff (by omega)).mpr hi) hd (by rw [nI_clamp (by omega)]; exact k p e s m below meth c F H locs ls hX hM hS h)
theorem lx_slen (hd : decode cL_law pc = .ok (.arraylength, 1)) (k : LW g C S b L xs (pc + 1) lv (.int (nI L) :: st) σX σM) : LW g C S b L xs pc lv (.ref b :: st) σX σM :=
  fun p e s m below meth c F H locs ls hX hM hS h => va_slen F.1.1 F.1.2.1 F.1.2.2.2.2.2.2.1 F.1.2.2.2.2.2.2.2.1 (fun q => absurd F.1.2.2.2.2.2.2.2.1 (Nat.not_lt.mpr q)) hS hd (k p e s m below meth c F H locs ls hX hM hS h)
theorem lx_ret (h1 : C ≤ 600000) (h2 : S ≤ 7302249) (hd : decode cL_law pc = .ok (.ireturn, 1)) : LW g C S b L xs pc lv [.int 1] σX σM :=
  fun p e s m below meth c F H locs ls hX hM hS h => va_forget hS.2.2 (W.widen h1 h2 (lw_ret F.1.1 F.1.2.1 F.1.2.2.1 F.1.2.2.2.2.2.2.2.2.1 hd))
theorem law_call {lo hi ko ci idx : Nat} {M' : Mt} {F' : Option Value → St → Prop} {σ : St} (As rest : List Value) {T : u_T} {N : Nat} {fs : List Value} {wo : va_W} {p : Program} {e : Env} {s : State} {m : MethodId} {below : List Frame} {meth : Method} {c : Code} {H : Heap} {locs : List Loc} {ls : Array Slot} (F : LF g p s m meth c b L xs) (hP : va_P (eD g) vwCl (wd g lo hi σ) H) (h59 : hi ≤ 59) (hS : va_S (newA s) s.heap H locs) (hl : lv_has ls 4 lv)
    (h1 : lo ≤ ko) (h2 : ko < hi) (hc : wcell g σ ko = .inr (ci, fs)) (hcl : vwCl[ci]? = some ((mY M').cls, T, N)) (hM : mW M' ∈ lw_good) (hlk : Cond.methodLink R_law idx (mY M') ∈ lw_good) (hs : Cond.instanceMethod (mY M') ∈ lw_good) (hsel : Cond.selects (mY M').cls (mY M') (mY M') ∈ lw_good) (hn : Cond.initialized (mY M').cls ∈ lw_good) (hdd : okM M' As.length) (hmx : mN M' ≤ 21) (hrest : (rest.map fun v => v.category).sum ≤ 8) (hd : decode cL_law pc = .ok (.invokevirtual idx, 3)) (hC : C ≤ 600000) (hSl : S ≤ 7302249) (hR : Runs g lo hi 8 M' (.ref (eA g ko) :: As) σ F')
    (k : ∀ r σ' H1 locs1, F' r σ' → va_P (eD g) vwCl (wd g lo hi σ') H1 → (∀ q : Nat, q < H.size → ¬ wA g lo hi q → H1[q]? = H[q]?) → va_S (newA s) s.heap H1 locs1 → W p (eL g) e room_1 s m #[Value.ref b] below meth c H1 locs1 C S (lw_Z below #[Value.ref b] s) (F0 m (pc + 3) ls (r.toList ++ rest))) :
    W p (eL g) e room_1 s m #[Value.ref b] below meth c H locs C S (lw_Z below #[Value.ref b] s) (F0 m pc ls (As.reverse ++ .ref (eA g ko) :: rest)) := by
  obtain ⟨⟨fx, fb, fr, fm, fo, ft, fX, fl, fk, fg⟩, fK, fS, fN, fI, fA⟩ := F
  have hsub : ∀ q, wA g lo hi q → newA s q := fun q ⟨k, a1, a2, e⟩ => by rw [e]; exact fA k (by omega)
  have hg : ∀ w ∈ lw_good, w.before #[Value.ref b] s = true := fun w hw => ft w (List.mem_filter.mp hw).1
  have hpre : PreV s H (mY M').cls (eA g ko) (va_Pc (.ref (eA g ko) :: As) (wU g lo hi σ)) As := ⟨wU_blind, va_recv fK hP hcl (q0 := ko - lo) (by rw [wd_at h1 h2, hc]), fun U hU hW => ⟨rfl, by rw [hU]; exact hP, va_K.moved hW.alike fK, (wSt_moved fS hW.alike hS hU).anti hsub, wNs_warm hW fN, fI.sub (Nat.zero_le _) h59⟩⟩
  have hr := va_runV (As := As) (rest := rest) (e := e) (below := below) (meth := meth) (locs := locs) (cells := C) (slots := S) (R := room_1) (l := eL g) (g := F0 m pc ls (As.reverse ++ .ref (eA g ko) :: rest)) ⟨fx, fb, fm, fo, hg⟩ hR ⟨callB_of As.length hg (lw_goodIn hM) rfl rfl rfl (hg _ hn) (hg _ hlk) hdd ⟨by decide, by show 8 + (mN M' + 11) + 320 ≤ 372; omega⟩, hg _ hs, hg _ hsel⟩ hpre rfl rfl hl.1 rfl (lv_room hrest) hd ⟨by show C + 0 ≤ 600000; omega, by show S + 0 ≤ 7302249; omega⟩
  intro T hT X
  obtain ⟨v, st₀, t, T', L', h0, X', hL, e1, e2, ⟨⟨r, σ', hv, hp, hb'⟩, hz, hk⟩, st⟩ := hr T hT X
  cases hv
  rw [h0] at hz hk
  obtain ⟨t2, a1, b1⟩ := k v σ' T'.heap (locs ++ L') hp (by rw [e1]; exact hb') (fun q h1 h2 => by rw [e1]; exact hk q h1 h2)
    ⟨Nat.le_trans hS.1 (by rw [e1]; exact hz), fun q h1 h2 => by rw [e1, hk q (Nat.lt_of_lt_of_le h1 hS.1) (fun z => h2 (hsub q z))]; exact hS.2.1 q h1 h2, fun q hq => by
      rcases List.mem_append.mp hq with h | h
      · exact hS.2.2 q h
      · exact hsub _ (hL q h)⟩ T' rfl X'
  exact ⟨t2, st t2 a1, b1⟩
theorem lx_callX {idx : Nat} {M' : Mt} {F' : Option Value → St → Prop} (As rest : List Value) {T : u_T} {N : Nat} (hcl : vwCl[1]? = some ((mY M').cls, T, N)) (hM : mW M' ∈ lw_good) (hlk : Cond.methodLink R_law idx (mY M') ∈ lw_good) (hs : Cond.instanceMethod (mY M') ∈ lw_good) (hsel : Cond.selects (mY M').cls (mY M') (mY M') ∈ lw_good) (hn : Cond.initialized (mY M').cls ∈ lw_good) (hdd : okM M' As.length) (hmx : mN M' ≤ 21) (hrest : (rest.map fun v => v.category).sum ≤ 8) (hd : decode cL_law pc = .ok (.invokevirtual idx, 3)) (hC : C ≤ 600000) (hSl : S ≤ 7302249) (hst : As.reverse ++ .ref (eA g 0) :: rest = st) (hR : Runs g 0 45 8 M' (.ref (eA g 0) :: As) σX F') (k : ∀ r σ', F' r σ' → LW g C S b L xs (pc + 3) lv (r.toList ++ rest) σ' σM) : LW g C S b L xs pc lv st σX σM := by
  subst hst
  intro p e s m below meth c F H locs ls hX hM' hS h
  exact law_call (ko := 0) (wo := []) As rest F hX (by omega) hS h (by omega) (by omega) rfl hcl hM hlk hs hsel hn hdd hmx hrest hd hC hSl hR (fun r σ' H1 locs1 hF hP1 hk hS1 => k r σ' hF p e s m below meth c F H1 locs1 ls hP1 (wd_kept F.2.2.2.2.1 hM' (by omega) (by omega) (by omega) hk) hS1 h)
theorem lx_callM {idx : Nat} {M' : Mt} {F' : Option Value → St → Prop} (As rest : List Value) {T : u_T} {N : Nat} (hcl : vwCl[2]? = some ((mY M').cls, T, N)) (hM : mW M' ∈ lw_good) (hlk : Cond.methodLink R_law idx (mY M') ∈ lw_good) (hs : Cond.instanceMethod (mY M') ∈ lw_good) (hsel : Cond.selects (mY M').cls (mY M') (mY M') ∈ lw_good) (hn : Cond.initialized (mY M').cls ∈ lw_good) (hdd : okM M' As.length) (hmx : mN M' ≤ 21) (hrest : (rest.map fun v => v.category).sum ≤ 8) (hd : decode cL_law pc = .ok (.invokevirtual idx, 3)) (hC : C ≤ 600000) (hSl : S ≤ 7302249) (hst : As.reverse ++ .ref (eA g 45) :: rest = st) (hR : Runs g 45 59 8 M' (.ref (eA g 45) :: As) σM F') (k : ∀ r σ', F' r σ' → LW g C S b L xs (pc + 3) lv (r.toList ++ rest) σX σ') : LW g C S b L xs pc lv st σX σM := by
  subst hst
  intro p e s m below meth c F H locs ls hX hM' hS h
  exact law_call (ko := 45) (wo := []) As rest F hM' (by omega) hS h (by omega) (by omega) rfl hcl hM hlk hs hsel hn hdd hmx hrest hd hC hSl hR (fun r σ' H1 locs1 hF hP1 hk hS1 => k r σ' hF p e s m below meth c F H1 locs1 ls (wd_kept F.2.2.2.2.1 hX (by omega) (by omega) (by omega) hk) hP1 hS1 h)
/-- the law's locals in its loop -/
abbrev LVx (g : Ev) (b i : Nat) : List (Nat × Value) := [(0, .ref b), (1, .ref (eA g 0)), (2, .ref (eA g 45)), (3, .int (nI i))]
theorem lx_arg {i j : Nat} {n : Int} (hi : i + j < L) (hL : L < 2 ^ 31) (h0 : decode cL_law pc = .ok (.aload_n 0, 1)) (h1 : decode cL_law (pc + 1) = .ok (.iload_n 3, 1)) (h2 : decode cL_law (pc + 1 + 1) = .ok (.iconst n, 1)) (hn : Int32.ofInt n = nI j) (h3 : decode cL_law (pc + 1 + 1 + 1) = .ok (.iadd, 1)) (h4 : decode cL_law (pc + 1 + 1 + 1 + 1) = .ok (.iaload, 1)) (k : LW g C S b L xs (pc + 1 + 1 + 1 + 1 + 1) (LVx g b i) (.int (xs (i + j)) :: st) σX σM) : LW g C S b L xs pc (LVx g b i) st σX σM := by
  refine lx_aload_n 0 h0 rfl rfl (lx_iload_n 3 h1 rfl rfl (lx_iconst (nI j) h2 hn (lx_iadd h3 ?_)))
  rw [nI_add]
  exact lx_sld hi hL h4 k
theorem lx_zb {x : Int32} {o1 o2 : Int} (t1 t2 : Nat) (h0 : decode cL_law pc = .ok (.ifCond .eq o1, 3)) (ht1 : (pc : Int) + o1 = (t1 : Int)) (h1 : decode cL_law (pc + 3) = .ok (.iconst 1, 1)) (h2 : decode cL_law (pc + 3 + 1) = .ok (.goto o2, 3)) (ht2 : ((pc + 3 + 1 : Nat) : Int) + o2 = (t2 : Int)) (h3 : decode cL_law t1 = .ok (.iconst 0, 1)) (ht3 : t1 + 1 = t2) (k : LW g C S b L xs t2 lv (.int (bI (!decide (x = nI 0))) :: st) σX σM) : LW g C S b L xs pc lv (.int x :: st) σX σM := by
  refine lx_if_eq t1 h0 ht1 (fun e => ?_) (fun e => ?_)
  · rw [decide_eq_true e] at k
    refine lx_iconst (nI 0) h3 rfl ?_
    rw [ht3]
    exact k
  · rw [decide_eq_false e] at k
    exact lx_iconst (nI 1) h1 rfl (lx_goto t2 h2 ht2 k)
end LAW

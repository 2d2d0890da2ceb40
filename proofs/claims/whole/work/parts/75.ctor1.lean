/-! THE CONSTRUCTORS' LAYER: cells are made one behind another from the address h on; the j-th is at h + j -/
def mkW (h n : Nat) (f : Nat → va_E) : va_W := (List.range n).map (fun j => (h + j, f j))
theorem mk_at {h n k : Nat} {f : Nat → va_E} (hk : k < n) : (mkW h n f)[k]? = some (h + k, f k) := by
  unfold mkW
  rw [List.getElem?_map, List.getElem?_range hk]
  rfl
theorem mk_get {h n k : Nat} {f : Nat → va_E} {q : Nat × va_E} (hq : (mkW h n f)[k]? = some q) : k < n ∧ q = (h + k, f k) := by
  by_cases hk : k < n
  · rw [mk_at hk] at hq
    exact ⟨hk, (Option.some.inj hq).symm⟩
  · unfold mkW at hq
    rw [List.getElem?_map, List.getElem?_eq_none (by rw [List.length_range]; omega)] at hq
    cases hq
def geA (h : Nat) : Nat → Prop := fun q => h ≤ q
theorem mk_D {h n : Nat} {f : Nat → va_E} : va_D (geA h) (mkW h n f) := by
  refine ⟨fun i j p q hp hq e => ?_, fun k q hq => ?_⟩
  · obtain ⟨_, rfl⟩ := mk_get hp
    obtain ⟨_, rfl⟩ := mk_get hq
    have e : h + i = h + j := e
    omega
  · obtain ⟨_, rfl⟩ := mk_get hq
    exact Nat.le_add_right h k
theorem mk_set {h n k : Nat} {f : Nat → va_E} {e : va_E} (hk : k < n) : (mkW h n f).set k (h + k, e) = mkW h n (va_up f k e) := by
  apply List.ext_getElem?
  intro i
  rw [List.getElem?_set]
  have hlen : (mkW h n f).length = n := by unfold mkW; rw [List.length_map, List.length_range]
  by_cases hi : k = i
  · subst hi
    rw [if_pos rfl, if_pos (by rw [hlen]; exact hk), mk_at hk, up_eq]
  · rw [if_neg hi]
    by_cases hn : i < n
    · rw [mk_at hn, mk_at hn, up_ne (Ne.symm hi)]
    · unfold mkW
      rw [List.getElem?_map, List.getElem?_map, List.getElem?_eq_none (by rw [List.length_range]; omega)]
      rfl
theorem mk_push {D : va_G} {h n : Nat} {f : Nat → va_E} {H H1 : Heap} (hP : va_P D vwCl (mkW h n f) H) (o : ∀ q : Nat, q < h + n → H1[q]? = H[q]?) (e : va_at D vwCl (h + n, f n) H1) : va_P D vwCl (mkW h (n + 1) f) H1 := by
  intro k q hq
  obtain ⟨hk, rfl⟩ := mk_get hq
  rcases (show k < n ∨ k = n by omega) with l | rfl
  · exact (hP k _ (mk_at l)).kept (o _ (by show h + k < h + n; omega))
  · exact e
def wGr (g : Ev) (U : State) : Prop := ∃ kA : Class, U.vm.classes[eC g 3]? = some kA ∧ kA.kind = .array (eC g 1) (.array .long)
theorem wGr.moved {g : Ev} {u U : State} (hvm : u.vm.Alike U.vm) (h : wGr g u) : wGr g U := by
  obtain ⟨kA, h1, h2⟩ := h
  obtain ⟨kA', h3, e⟩ := hvm.2.2 _ _ h1
  exact ⟨kA', h3, by rw [e]; exact h2⟩
def cFr (g : Ev) (h : Nat) (M : Mt) (p : Program) (s : State) (m : MethodId) (args : Array Value) (meth : Method) (c : Code) : Prop :=
  p.tables.exec = Jvm.exec ∧ c.code = mC M ∧ meth.sig.returnType = mR M ∧ c.maxLocals = mN M ∧ s.vm.findClass (mY M).cls = some m.cls ∧ (∀ w ∈ lw_good, w.before args s = true) ∧ meth.locks = false ∧ va_K (eD g) vwCl (wTy g) s ∧ wSt g (geA h) s ∧ wNs s ∧ wGr g s ∧ meth.name = "<init>"
def cU (g : Ev) (h n : Nat) (f : Nat → va_E) (U : State) : Prop := U.heap.size = h + n ∧ va_P (eD g) vwCl (mkW h n f) U.heap ∧ va_K (eD g) vwCl (wTy g) U ∧ wSt g (geA h) U ∧ wNs U ∧ wGr g U
def cQ (g : Ev) (h n : Nat) (K : (Nat → va_E) → Prop) : Array Value → State → Outcome → State → Prop := fun _ st oc t => (∃ f, oc = .returned none ∧ K f ∧ va_P (eD g) vwCl (mkW h n f) t.heap) ∧ va_F (geA h) st t
abbrev rmC (d C S : Nat) : Room := { frames := d, cells := C, slots := S, locals := 40 * d }
def cRuns (g : Ev) (h n d C S : Nat) (M : Mt) (As : List Value) (f : Nat → va_E) (K : (Nat → va_E) → Prop) : Prop :=
  Met (eL g) (mY M) (mW M :: lw_good) (rmC d C S) (va_Pc As (cU g h n f)) (cQ g h (n + C) K) C S (geA h)
def CP (g : Ev) (h n0 d C S : Nat) (M : Mt) (K : (Nat → va_E) → Prop) (pc a : Nat) (st : List Value) (k sl : Nat) (f : Nat → va_E) : Prop :=
  ∀ (p : Program) (e : Env) (s : State) (m : MethodId) (args : Array Value) (below : List Frame) (meth : Method) (c : Code), cFr g h M p s m args meth c → s.heap.size = h + n0 →
    ∀ (H : Heap) (locs : List Loc) (ls : Array Slot), va_P (eD g) vwCl (mkW h (n0 + k) f) H → va_S (geA h) s.heap H locs → lv_has ls (mN M) [(0, .ref a)] →
      W p (eL g) e (rmC d C S) s m args below meth c H locs k sl (MQ below (cQ g h (n0 + C) K) args s C S (geA h)) (F0 m pc ls st)
theorem cU_blind {g : Ev} {h n : Nat} {f : Nat → va_E} {As : List Value} : FrameBlind (va_Pc As (cU g h n f)) := by
  intro a U gf mk hh
  obtain ⟨h0, h1, h2, h3, h4, h5, h6⟩ := hh
  refine ⟨h0, h1, h2, va_K.moved (u := U) (U := U.calling gf mk a) (Vm.Alike.refl U.vm) h3, ?_, wNs_same (s := U) (U := U.calling gf mk a) rfl h5, h6⟩
  exact wSt_moved (H := U.heap) (locs := []) h4 (Vm.Alike.refl U.vm) va_S.rf rfl
theorem cRuns.of {g : Ev} {h n0 d C S a : Nat} {M : Mt} {f : Nat → va_E} {K : (Nat → va_E) → Prop} (hy : plainName (mY M).cls = true) (hi : (mY M).name = "<init>") (hn : mN M = 1) (hh : CP g h n0 d C S M K 0 a [] 0 0 f) : cRuns g h n0 d C S M [.ref a] f K := by
  refine Met.ofW (cc := mC M) (maxL := mN M) (ret := mR M) hy rfl ?_
  intro p e s m args below meth c s₁ B hml hv
  obtain ⟨rfl, hz, hP, hK, hSt, hNs, hG⟩ := hv
  have hts := atoms_spec (ws := mW M :: lw_good) B.pre
  have hl := lv_entry [.ref a] (n := mN M) (by rw [hn]; exact Nat.le_of_ble_eq_true rfl)
  rw [lg_entry_eq]
  exact hh p e s m _ below meth c ⟨B.exec, B.bytes, B.returns, hml, findClass_of_methodNamed B.named, fun w hw => hts w (List.mem_cons_of_mem _ hw), B.notSynchronized, hK, hSt, hNs, hG, (name_of_methodNamed B.named B.method).1.trans hi⟩ hz s.heap [] _ hP va_S.rf hl
section SZ
variable {p : Program} {l : Launch} {e : Env} {R : Room} {s : State} {m : MethodId} {args : Array Value} {below : List Frame} {meth : Method} {c : Code} {H : Heap} {locs : List Loc} {k sl : Nat} {Q : State → Prop}
/-- how long the heap is: no longer than what has been made, by the walk's own count; no shorter than the last cell -/
theorem w_sized {D : va_G} {h n0 : Nat} {f : Nat → va_E} {g' : JFrame} (hz : s.heap.size = h + n0) (hn : 0 < n0 + k) (hP : va_P D vwCl (mkW h (n0 + k) f) H) (kk : H.size = h + (n0 + k) → W p l e R s m args below meth c H locs k sl Q g') : W p l e R s m args below meth c H locs k sl Q g' := by
  intro T hT X
  refine kk ?_ T hT X
  have h1 : T.heap.size ≤ s.heap.size + k := X.same.2.2.1
  have h2 := (hP (n0 + k - 1) _ (mk_at (by omega))).lt
  have h3 : h + (n0 + k - 1) < H.size := h2
  rw [hT] at h1
  omega
/-- a new object at the next address -/
theorem w_newO {cc : ByteArray} {pc idx ci hh N : Nat} {ls : Array Slot} {st : List Value} {D : va_G} {tys : List (ClassId × FieldType)} {Ts : List Cond} {own C : String} {T : u_T} {fs : List Value} (hexec : p.tables.exec = Jvm.exec) (hb : c.code = cc) (hts : ∀ w ∈ Ts, w.before args s = true) (hin : ∀ w ∈ u_ws C T N, w ∈ Ts) (ty : Nat → FieldType) (hty : ∀ k, k < N → parseFieldDescriptor (T k).2.2.1 = some (ty k)) (hown : s.vm.findClass own = some m.cls) (hcl : (Cond.classLink own idx C).before args s = true) (hinst : (Cond.instantiable C N).before args s = true) (hini : (Cond.initialized C).before args s = true) (hK : va_K D vwCl tys s) (hc : vwCl[ci]? = some (C, T, N)) (hfs : ∀ j, j < N → defaultValue (ty j) = vp_V fs j) (hcells : k + 1 ≤ R.cells) (hslots : sl + N ≤ R.slots) (hdg : decode cc pc = .ok (.new idx, 3)) (hH : H.size = hh)
    (kk : ∀ H1 : Heap, va_at D vwCl (hh, .inr (ci, fs)) H1 → H1.size = hh + 1 → (∀ q : Nat, q < hh → H1[q]? = H[q]?) → W p l e R s m args below meth c H1 locs (k + 1) (sl + N) Q (F0 m (pc + 3) ls (.ref hh :: st))) : W p l e R s m args below meth c H locs k sl Q (F0 m pc ls st) := by
  have hKn := hK.1 ci _ hc
  refine W.newcK hexec hb hown hcl hinst hini rfl hdg hcells hslots hKn.2.1 hH fun H1 kC hkC e1 z1 o1 => ?_
  exact kk H1 ⟨_, hc, (u_born ty hts hin hKn hkC e1 hty).to hfs⟩ z1 o1
end SZ

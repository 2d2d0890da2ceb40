/-! MULTIANEWARRAY OF TWO DIMENSIONS (the table of tables): a row of my own, over the machine -/
/-- the state when i rows of the grid have been made and laid into it -/
def gU (T : State) (cA cB : ClassId) (N K : Nat) : Nat → State
  | 0 => T.pushCell (arrV cA N (fun _ => .null))
  | i + 1 => ((gU T cA cB N K i).pushCell (arrV cB K (fun _ => .long 0))).setCell T.heap.size (arrV cA N (fun j => if j < i + 1 then .ref (T.heap.size + 1 + j) else .null))
section GRID
variable {p : Program} {l : Launch} {e : Env} {R : Room} {s : State} {m : MethodId} {args : Array Value} {below : List Frame} {meth : Method} {c : Code} {T : State} {locs : List Loc} {cells slots : Nat} {cA cB : ClassId} {N K : Nat}
theorem gU_top (f : JFrame) : ∀ i, gU (T.setTop f) cA cB N K i = (gU T cA cB N K i).setTop f
  | 0 => rfl
  | i + 1 => by
    simp only [gU, gU_top f i, State.heap_setTop, State.pushCell_setTop, State.setCell_setTop]
theorem grid_store {i : Nat} {h : Nat} : (arrV cA N (fun j => if j < i then .ref (h + j) else .null)).setSlot i (.ref (h + i)) = arrV cA N (fun j => if j < i + 1 then .ref (h + j) else .null) := by
  rw [arrV_store]
  congr 1
  funext j
  unfold updV
  by_cases e : j = i
  · subst e
    rw [if_pos rfl, if_pos (Nat.lt_succ_self _)]
  · rw [if_neg e]
    show (if j < i then Value.ref (h + j) else Value.null) = _
    by_cases l : j < i
    · rw [if_pos l, if_pos (by omega)]
    · rw [if_neg l, if_neg (by omega)]
theorem gU_ok (X : Stand p l e R s m args below meth c T locs cells slots) : ∀ i, Stand p l e R s m args below meth c (gU T cA cB N K i) locs (cells + (1 + i)) (slots + (N + i * K)) ∧ (gU T cA cB N K i).vm = T.vm ∧ (gU T cA cB N K i).heap.size = T.heap.size + 1 + i ∧ (gU T cA cB N K i).heap[T.heap.size]? = some (arrV cA N (fun j => if j < i then .ref (T.heap.size + 1 + j) else .null)) ∧ (∀ j, j < i → (gU T cA cB N K i).heap[T.heap.size + 1 + j]? = some (arrV cB K (fun _ => .long 0))) ∧ ∀ q : Nat, q < T.heap.size → (gU T cA cB N K i).heap[q]? = T.heap[q]?
  | 0 => by
    have h := X.pushed (arrV cA N (fun _ => .null))
    rw [arrV_size] at h
    refine ⟨by rw [Nat.zero_mul]; exact h, rfl, by simp [gU], ?_, fun j hj => absurd hj (Nat.not_lt_zero _), fun q hq => State.heap_pushCell_of_lt _ _ hq⟩
    show (T.pushCell _).heap[T.heap.size]? = _
    rw [State.heap_pushCell_size]
    rfl
  | i + 1 => by
    obtain ⟨a1, a2, a3, a4, a5, a6⟩ := gU_ok X i
    have hz : T.heap.size < (gU T cA cB N K i).heap.size := by rw [a3]; omega
    have hc : ((gU T cA cB N K i).pushCell (arrV cB K (fun _ => .long 0))).heap[T.heap.size]? = some (arrV cA N (fun j => if j < i then .ref (T.heap.size + 1 + j) else .null)) := by
      rw [State.heap_pushCell_of_lt (h := hz)]
      exact a4
    have h := (a1.pushed (arrV cB K (fun _ => .long 0))).stored hc i (.ref (T.heap.size + 1 + i))
    rw [grid_store, arrV_size] at h
    have h2 := Stand.dropFresh (J := [⟨T.heap.size, i⟩]) h (fun x hx => by rw [List.mem_singleton.mp hx]; exact X.heapGrown)
    refine ⟨?_, ?_, ?_, ?_, fun j hj => ?_, fun q hq => ?_⟩
    · have e1 : cells + (1 + (i + 1)) = cells + (1 + i) + 1 := by omega
      have e2 : slots + (N + (i + 1) * K) = slots + (N + i * K) + K := by rw [Nat.succ_mul]; omega
      rw [e1, e2]
      exact h2
    · show (((gU T cA cB N K i).pushCell _).setCell _ _).vm = _
      exact a2
    · show (((gU T cA cB N K i).pushCell _).setCell _ _).heap.size = _
      simp [State.setCell, a3]
      omega
    · exact State.heap_setCell_self hc
    · show (((gU T cA cB N K i).pushCell _).setCell _ _).heap[_]? = _
      rw [State.heap_setCell_other (show T.heap.size ≠ T.heap.size + 1 + j by omega)]
      rcases Nat.lt_or_ge j i with hj' | hj'
      · have hlt : T.heap.size + 1 + j < (gU T cA cB N K i).heap.size := by rw [a3]; omega
        rw [State.heap_pushCell_of_lt (h := hlt)]
        exact a5 j hj'
      · rw [show T.heap.size + 1 + j = (gU T cA cB N K i).heap.size by rw [a3]; omega]
        exact State.heap_pushCell_size _ _
    · show (((gU T cA cB N K i).pushCell _).setCell _ _).heap[_]? = _
      have hlt : q < (gU T cA cB N K i).heap.size := by rw [a3]; omega
      rw [State.heap_setCell_other (Nat.ne_of_gt hq), State.heap_pushCell_of_lt (h := hlt)]
      exact a6 q hq
end GRID
section GRIDW
variable {E : CtlPost} {e : Env} {d : Bool} {acts : List Action} {t : State}
theorem grid_new {cX comp : ClassId} {k : Class} {ty : FieldType} {len : Nat} {v : Value} (hk : t.vm.classes[cX]? = some k) (hkind : k.kind = .array comp ty) (h1 : ¬ len > e.platform.arrayLengthLimit) (h2 : ¬ len * componentBytes ty > e.platform.maxHeapBytes) (hv : fits ty v = true) (hd : v.isDefault = true) (h3 : t.heap.size < e.platform.maxCells) (h4 : t.slotsUsed + len ≤ e.platform.maxSlots) {Q : Addr → Pre} (hq : Q t.heap.size d acts (t.pushCell (arrV cX len (fun _ => v)))) : wp (Jvm.newArray cX len v) Q E e d acts t := by
  have f1 : ∀ i w, (Array.replicate len v)[i]? = some w → t.fitsSlot cX .none i w = true := by
    intro i w hw
    obtain ⟨hlt, rfl⟩ := Array.getElem?_eq_some_iff.mp hw
    simp [State.fitsSlot, State.slotType?, hk, hkind, hv]
  have f2 : allocActs (Array.replicate len v) t.heap.size acts = acts := by
    unfold allocActs
    rw [if_pos]
    rw [Array.all_replicate]
    split
    · rfl
    · exact hd
  simp only [Jvm.newArray, Jvm.arrayFits, wp_bind', W.ask, W.ite, h1, if_false, wp_pure', W.theClass, hk, hkind, h2, W.alloc, W.stop, Option.some.injEq, exists_eq_left', Array.size_replicate, f2]
  rw [if_neg (by omega)]
  exact ⟨h3, h4, f1, by rw [arrV_new]; exact hq⟩
end GRIDW
section GRIDM
variable {p : Program} {l : Launch} {e : Env} {R : Room} {s : State} {m : MethodId} {args : Array Value} {below : List Frame} {meth : Method} {c : Code} {T : State} {locs : List Loc} {cells slots : Nat} {cA cB : ClassId} {N K : Nat} {E : CtlPost} {d : Bool} {acts : List Action}
theorem grid_make (X : Stand p l e R s m args below meth c T locs cells slots) {kA kB : Class} {cc : ClassId} {n k : Int32} (hA : T.vm.classes[cA]? = some kA) (hkA : kA.kind = .array cB (.array .long)) (hB : T.vm.classes[cB]? = some kB) (hkB : kB.kind = .array cc .long) (hn : ¬ n < 0) (hk : ¬ k < 0) (hN : n.toNatClampNeg = N) (hK : k.toNatClampNeg = K) (hN2 : N ≤ 1000) (hK2 : K ≤ 1000) (hcells : cells + (1 + N) ≤ R.cells) (hslots : slots + (N + N * K) ≤ R.slots) {f : JFrame} {Q : Addr → Pre} (hq : ∀ d' acts', Q T.heap.size d' acts' ((gU T cA cB N K N).setTop f)) : wp (multianewarray.make cA [n, k]) Q E e d acts (T.setTop f) := by
  have lim : e.platform.arrayLengthLimit = 2147483645 := Launch.admits_arrayLengthLimit X.admits
  have hbm : e.platform.maxHeapBytes = 536870912 := Launch.admits_maxHeapBytes X.admits
  have c8 : componentBytes (.array .long) ≤ 8 := by decide
  have c9 : componentBytes .long ≤ 8 := by decide
  have m1 : N * componentBytes (.array .long) ≤ 1000 * 8 := Nat.mul_le_mul hN2 c8
  have m2 : K * componentBytes .long ≤ 1000 * 8 := Nat.mul_le_mul hK2 c9
  have hfind : ([k].find? (· < 0)) = none := by simp [hk]
  rw [multianewarray.make]
  simp only [wp_bind', W.ite, hn, if_false, wp_pure', W.theClass]
  refine ⟨kA, hA, ?_⟩
  simp only [hkA]
  rw [wp_bind', hN]
  obtain ⟨r1, r2⟩ := X.roomAbove (a := 1) (b := N) (by omega) (by omega)
  refine grid_new (t := T.setTop f) (k := kA) (comp := cB) (ty := .array .long) (v := .null) hA hkA (by rw [lim]; omega) (by rw [hbm]; omega) rfl rfl r1 r2 ?_
  simp only [hfind]
  rw [ite_self, wp_bind', Std.Legacy.Range.forIn_eq_forIn_range', show ([:N] : Std.Legacy.Range).size = N by simp [Std.Legacy.Range.size]]
  show wp (forIn (List.range' 0 N 1) PUnit.unit _) _ E e d acts _
  refine wp_forIn_inv (fun rest s' => ∃ i, i ≤ N ∧ rest = List.range' i (N - i) ∧ s' = (gU T cA cB N K i).setTop f) _ _ ⟨0, Nat.zero_le _, rfl, rfl⟩ ?_ ?_
  · rintro x rest s' d' acts' Q' ⟨i, hi, hl, rfl⟩ hnext
    rcases Nat.lt_or_ge i N with hlt | hge
    · rw [show N - i = (N - (i + 1)) + 1 by omega, List.range'_succ] at hl
      obtain ⟨rfl, hr⟩ := List.cons.inj hl
      obtain ⟨a1, a2, a3, a4, a5, a6⟩ := gU_ok (cA := cA) (cB := cB) (N := N) (K := K) X x
      have hmul : x * K + K ≤ N * K := by rw [← Nat.succ_mul]; exact Nat.mul_le_mul_right K hlt
      obtain ⟨b1, b2⟩ := a1.roomAbove (a := 1) (b := K) (by omega) (by omega)
      have hB' : ((gU T cA cB N K x).setTop f).vm.classes[cB]? = some kB := by
        show (gU T cA cB N K x).vm.classes[cB]? = _
        rw [a2]; exact hB
      simp only [wp_bind']
      rw [multianewarray.make]
      simp only [wp_bind', W.ite, hk, if_false, wp_pure', W.theClass]
      refine ⟨kB, hB', ?_⟩
      simp only [hkB]
      rw [hK]
      refine grid_new (t := (gU T cA cB N K x).setTop f) (k := kB) (comp := cc) (ty := .long) (v := .long 0) hB' hkB (by rw [lim]; omega) (by rw [hbm]; omega) rfl rfl b1 b2 ?_
      simp only [wp_bind', W.writeLoc, wp_pure']
      have hz : T.heap.size < (gU T cA cB N K x).heap.size := by rw [a3]; omega
      refine ⟨arrV cA N (fun j => if j < x then .ref (T.heap.size + 1 + j) else .null), (State.heap_pushCell_of_lt (s := (gU T cA cB N K x).setTop f) _ (h := hz)).trans a4, by simp [arrV], by show x < (arrV _ _ _).slots.size; rw [arrV_size]; exact hlt, ?_, hnext _ _ _ ⟨x + 1, hlt, by rw [hr], ?_⟩⟩
      · show (((gU T cA cB N K x).setTop f).pushCell _).fitsSlot cA .none x _ = true
        have hA' : (gU T cA cB N K x).vm.classes[cA]? = some kA := by rw [a2]; exact hA
        simp [State.fitsSlot, State.slotType?, hA', hkA, fits]
      · show (((gU T cA cB N K x).setTop f).pushCell (arrV cB K fun _ => .long 0)).setCell T.heap.size ((arrV cA N _).setSlot x (.ref ((gU T cA cB N K x).setTop f).heap.size)) = _
        rw [show ((gU T cA cB N K x).setTop f).heap.size = T.heap.size + 1 + x from a3, grid_store]
        rfl
    · rw [show N - i = 0 by omega] at hl
      simp at hl
  · rintro s' d' acts' ⟨i, hi, hl, rfl⟩
    have hiN : i = N := by
      rcases Nat.lt_or_ge i N with h | h
      · rw [show N - i = (N - (i + 1)) + 1 by omega, List.range'_succ] at hl
        cases hl
      · omega
    subst hiN
    simp only [wp_pure']
    exact hq _ _
end GRIDM
section GRIDR
variable {p : Program} {l : Launch} {e : Env} {R : Room} {s : State} {m : MethodId} {args : Array Value} {below : List Frame} {meth : Method} {c : Code} {H : Heap} {locs : List Loc} {cells slots : Nat} {Q : State → Prop}
/-- the row: a grid of N rows of K longs -/
theorem w_grid {cc : ByteArray} {pc : Nat} {ls : Array Slot} {rest : List Value} {cA cB : ClassId} {N K : Nat} (hexec : p.tables.exec = Jvm.exec) (hb : c.code = cc) {own : String} {idx : Nat} (hown : s.vm.findClass own = some m.cls) (hcl : (Cond.classLink own idx "[[J").before args s = true) (hcA : s.vm.findClass "[[J" = some cA) {kA kB : Class} {c0 : ClassId} (hA : s.vm.classes[cA]? = some kA) (hkA : kA.kind = .array cB (.array .long)) (hB : s.vm.classes[cB]? = some kB) (hkB : kB.kind = .array c0 .long) (hdg : decode cc pc = .ok (.multianewarray idx 2, 4)) {n k : Int32} (hn : ¬ n < 0) (hk : ¬ k < 0) (hN : n.toNatClampNeg = N) (hK : k.toNatClampNeg = K) (hN2 : N ≤ 1000) (hK2 : K ≤ 1000) (hcells : cells + (1 + N) ≤ R.cells) (hslots : slots + (N + N * K) ≤ R.slots)
    (kk : ∀ H1 : Heap, H1.size = H.size + 1 + N → H1[H.size]? = some (arrV cA N (fun j => if j < N then .ref (H.size + 1 + j) else .null)) → (∀ j, j < N → H1[H.size + 1 + j]? = some (arrV cB K (fun _ => .long 0))) → (∀ q : Nat, q < H.size → H1[q]? = H[q]?) → W p l e R s m args below meth c H1 locs (cells + (1 + N)) (slots + (N + N * K)) Q (F0 m (pc + 4) ls (.ref H.size :: rest))) :
    W p l e R s m args below meth c H locs cells slots Q (F0 m pc ls (.int k :: .int n :: rest)) := by
  intro T hT X
  subst hb
  subst hT
  have hpl : e.platform.magicAccessors = ({} : Platform).magicAccessors := by rw [X.admits.platform]
  obtain ⟨c1, hc1, hlk⟩ := Cond.classLink_spec hown hcl e.platform hpl
  cases hcA.symm.trans hc1
  obtain ⟨hgv, hwm, -⟩ := State.classEntry (e := e) X.warmed hlk
  generalize T.vm.noted m.cls idx (.cls cA) = vm1 at hgv hwm
  have X1 := X.noted hwm
  obtain ⟨kA', hA', eA'⟩ := hwm.alike.2.2 _ _ hA
  obtain ⟨kB', hB', eB'⟩ := hwm.alike.2.2 _ _ hB
  obtain ⟨a1, a2, a3, a4, a5, a6⟩ := gU_ok (cA := cA) (cB := cB) (N := N) (K := K) X1 N
  obtain ⟨t, st, q⟩ := kk (gU (T.setVm vm1) cA cB N K N).heap a3 a4 a5 a6 _ rfl a1
  refine ⟨t, ?_, q⟩
  jvm_step X.here [hexec, hdg]
  simp only [multianewarray.sem, wp_bind', W.resolveClassAt_links (State.method?_setTop (F0 m pc ls (.int k :: .int n :: rest)) X.here.top) hgv]
  rw [W.popN, if_neg (by decide)]
  refine ⟨_, State.topJava?_setTop' (s := T.setVm vm1) (F0 m pc ls (.int k :: .int n :: rest)) X.here.top, [.int n, .int k], rest, rfl, rfl, ?_⟩
  simp only [List.mapM_cons, List.mapM_nil, wp_bind', wp_pure']
  have eS : ((T.setTop (F0 m pc ls (.int k :: .int n :: rest))).setVm vm1).setTop (F0 m pc ls rest) = (T.setVm vm1).setTop (F0 m pc ls rest) := by
    show ((T.setVm vm1).setTop (F0 m pc ls (.int k :: .int n :: rest))).setTop _ = _
    rw [State.setTop_setTop]
  rw [show ({ F0 m pc ls (.int k :: .int n :: rest) with stack := rest } : JFrame) = F0 m pc ls rest from rfl, eS]
  refine grid_make (kA := kA') (kB := kB') (cc := c0) X1 hA' (by rw [eA']; exact hkA) hB' (by rw [eB']; exact hkB) hn hk hN hK hN2 hK2 hcells hslots (fun d' acts' => ?_)
  simp only [wp_bind', W.mark, W.pushRef, State.topJava?_setTop' _ a1.here.top, Option.some.injEq, exists_eq_left', State.setTop_setTop, State.heap_setTop]
  intro acts
  simp [jvm, a1.here.top]
  exact st
end GRIDR

/-! ===== BEGIN words of one list among another's, by their places ===== -/
theorem goodIn_r {big : List Cond} (ws : List Cond) (ps : List Nat) (hp : ws = ps.filterMap (fun i => big[i]?)) (h : ws.all goodWord = true) : GoodIn big ws := by
  intro w hw
  have h1 := List.all_eq_true.mp h w hw
  rw [hp] at hw
  obtain ⟨i, -, hi⟩ := List.mem_filterMap.mp hw
  have hm : w ∈ big := by first | exact List.mem_of_getElem? hi | exact List.getElem?_mem hi
  exact ⟨hm, good_of_word h1⟩
theorem goodIn_app {big a b : List Cond} (ha : GoodIn big a) (hb : GoodIn big b) : GoodIn big (a ++ b) := fun w h => (List.mem_append.mp h).elim (ha w) (hb w)
theorem goodIn_ca {big a b : List Cond} {c : Cond} (ha : GoodIn big (c :: a)) (hb : GoodIn big b) : GoodIn big (c :: (a ++ b)) := fun w h => (List.mem_cons.mp h).elim (fun e => ha w (List.mem_cons.mpr (Or.inl e))) (fun h => (List.mem_append.mp h).elim (fun h => ha w (List.mem_cons.mpr (Or.inr h))) (hb w))
theorem goodIn_sub {big ws : List Cond} (hm : ∀ w ∈ ws, w ∈ big) (h : ws.all goodWord = true) : GoodIn big ws := fun w hw => ⟨hm w hw, good_of_word (List.all_eq_true.mp h w hw)⟩
/-! ===== END ===== -/

/-! ===== BEGIN new T[n][m]: the outer array a place, the inner ones among the pooled ===== -/
/-- f, but v at every address of l -/
def vr_up {α : Type} (f : Nat → α) (l : List Nat) (v : α) : Nat → α := fun a => if a ∈ l then v else f a
theorem vr_up_in {α : Type} {f : Nat → α} {l : List Nat} {v : α} {a : Nat} (h : a ∈ l) : vr_up f l v a = v := if_pos h
theorem vr_up_ne {α : Type} {f : Nat → α} {l : List Nat} {v : α} {a : Nat} (h : a ∉ l) : vr_up f l v a = f a := if_neg h
theorem vr_rows {L l : List Nat} {f : Nat → va_E} {e : va_E} (h : ∀ a, a ∈ l → a ∉ L) : va_pl L f ++ l.map (fun a => (a, e)) = va_pl (L ++ l) (vr_up f l e) := by
  unfold va_pl
  rw [List.map_append]
  congr 1
  · apply List.map_congr_left
    intro a ha
    rw [vr_up_ne (fun q => h a q ha)]
  · apply List.map_congr_left
    intro a ha
    rw [vr_up_in ha]
theorem vr_lay {X rows : va_W} {x : Nat × va_E} {pl : va_W} {D : va_G} {cl : List vw_C} {H : Heap} (hP : va_P D cl (((X ++ pl) ++ [x]) ++ rows) H) : va_P D cl ((X ++ [x]) ++ (pl ++ rows)) H := by
  rw [List.append_assoc (X ++ pl)] at hP
  have h := va_P.swap hP
  rw [← List.append_assoc X] at h
  have h2 := va_P.swap h
  rw [List.append_assoc (X ++ [x])] at h2
  exact h2
theorem vr_layD {X rows : va_W} {x : Nat × va_E} {pl : va_W} {A : Nat → Prop} (hD : va_D A (((X ++ pl) ++ [x]) ++ rows)) : va_D A ((X ++ [x]) ++ (pl ++ rows)) := by
  rw [List.append_assoc (X ++ pl)] at hD
  have h := va_D.swap hD
  rw [← List.append_assoc X] at h
  have h2 := va_D.swap h
  rw [List.append_assoc (X ++ [x])] at h2
  exact h2
theorem vr_outer (c : ClassId) (N h0 : Nat) : ∀ i : Nat, Jvm.Free.Multi.outerC c N h0 i = arrV c N (fun j => va_rf (if j < i then some (h0 + 1 + j) else none))
  | 0 => by
    show ({ cls := c, slots := Array.replicate N .null, vm := .none } : Cell) = _
    rw [arrV_new]
    refine congrArg (arrV c N) (funext fun j => ?_)
    simp [va_rf]
  | i + 1 => by
    show (Jvm.Free.Multi.outerC c N h0 i).setSlot i (.ref (h0 + 1 + i)) = _
    rw [vr_outer c N h0 i, arrV_store]
    refine congrArg (arrV c N) (funext fun j => ?_)
    by_cases e : j = i
    · subst e
      simp [updV, va_rf]
    · by_cases h : j < i
      · simp [updV, e, h, Nat.lt_succ_of_lt h]
      · simp [updV, e, h, show ¬ j < i + 1 by omega]
section VGM
variable {p : Program} {l : Launch} {e : Env} {R : Room} {s : State} {m : MethodId} {args : Array Value} {below : List Frame} {meth : Method} {c : Code} {H : Heap} {locs : List Loc} {cells slots : Nat} {Q : State → Prop}
variable {cc : ByteArray} {pc : Nat} {ls : Array Slot} {rest : List Value} {D : va_G} {cl : List vw_C} {A : Nat → Prop} {a : Nat} {tys : List (ClassId × FieldType)} {ws : va_W} {H0 : Heap}
theorem va_mna {X : va_W} {L : List Nat} {f : Nat → va_E} {cc : ByteArray} (hexec : p.tables.exec = Jvm.exec) (hb : c.code = cc) {own : String} {index : Nat} {ty : FieldType} {cy : ClassId} (hown : s.vm.findClass own = some m.cls) (hclink : (Cond.classLink own index ("[" ++ (FieldType.array ty).toString)).before args s = true) (hover : (Cond.arrayOver (.array ty)).before args s = true) (harr : (Cond.arrayClass ty).before args s = true) (hcy : s.vm.findClass (FieldType.array ty).toString = some cy)
    (hK : va_K D cl tys s) (hP : va_P D cl (X ++ va_pl L f) H) (hD : va_D A (X ++ va_pl L f)) (hS : va_S A H0 H locs) (hA : ∀ q, H0.size ≤ q → A q) {n k : Int32} {N' K' : Nat} {z : vp_A} (hn : ¬ n < 0) (hk : ¬ k < 0) (hN : n.toNatClampNeg = N') (hM : k.toNatClampNeg = K')
    (hb1 : N' * 4 ≤ 536870912) (hb2 : K' * componentBytes ty ≤ 536870912) (hb3 : K' ≤ 536870912) (hdf : fits ty (defaultValue ty) = true) (hdd : (defaultValue ty).isDefault = true) (hcells : cells + (1 + N') ≤ R.cells) (hslots : slots + (N' + N' * K') ≤ R.slots) (hz : ∀ c : ClassId, Jvm.Free.Multi.innerC c K' (defaultValue ty) = vp_cell c z) (hdg : decode cc pc = .ok (.multianewarray index 2, 4))
    (kk : ∀ (q : Nat) (r : Nat → Nat) (cA : ClassId) (H1 : Heap), (∀ i j : Nat, i < N' → j < N' → r i = r j → i = j) → (∀ i : Nat, i < N' → r i ∉ L) → va_K D cl (tys ++ [(cA, .array ty)]) s →
      va_P D cl ((X ++ [(q, .inl (cA, N', .inr (.inr (.inr (.inr (fun i => if i < N' then some (r i) else none))))))]) ++ va_pl (L ++ (List.range N').map r) (vr_up f ((List.range N').map r) (.inl (cy, z)))) H1 → va_D A ((X ++ [(q, .inl (cA, N', .inr (.inr (.inr (.inr (fun i => if i < N' then some (r i) else none))))))]) ++ va_pl (L ++ (List.range N').map r) (vr_up f ((List.range N').map r) (.inl (cy, z)))) → va_S A H0 H1 locs →
      W p l e R s m args below meth c H1 locs (cells + 1 + N') (slots + N' + N' * K') Q (F0 m (pc + 4) ls (.ref q :: rest))) : W p l e R s m args below meth c H locs cells slots Q (F0 m pc ls (.int k :: .int n :: rest)) := by
  subst hN
  subst hM
  intro T hT Xs
  obtain ⟨vm₁, cA, comp, -, fA, fC, hO, -, X', step⟩ := Xs.multianewarray2F hexec hown hclink hover harr (g := F0 m pc ls (.int k :: .int n :: rest)) rfl (by rw [hb]; exact hdg) rfl hn hk hb1 hb2 hb3 hdf hdd hcells hslots
  have ec : some cy = some comp := hcy.symm.trans fC
  cases ec
  generalize hF : Jvm.Free.Multi.fill (T.setVm vm₁) cA cy n.toNatClampNeg k.toNatClampNeg (defaultValue ty) n.toNatClampNeg = F at X' step
  have hTh : (T.setVm vm₁).heap = H := hT
  obtain ⟨f1, f2, -, -⟩ := Jvm.Free.Multi.fill_facts (T.setVm vm₁) cA cy n.toNatClampNeg k.toNatClampNeg (defaultValue ty) n.toNatClampNeg
  rw [hF, hTh] at f1 f2
  have hold : ∀ x : Nat, x < H.size → F.heap[x]? = H[x]? := fun x hx => by
    have := Jvm.Free.Multi.fill_old (T.setVm vm₁) cA cy n.toNatClampNeg k.toNatClampNeg (defaultValue ty) (a := x) (by rw [hTh]; exact hx) n.toNatClampNeg
    rw [hF, hTh] at this
    exact this
  have hrow : ∀ j : Nat, j < n.toNatClampNeg → F.heap[H.size + 1 + j]? = some (vp_cell cy z) := fun j hj => by
    have := Jvm.Free.Multi.fill_inner (T.setVm vm₁) cA cy n.toNatClampNeg k.toNatClampNeg (defaultValue ty) n.toNatClampNeg j hj
    rw [hF, hTh, hz] at this
    exact this
  have hout : Jvm.Free.Multi.outerC cA n.toNatClampNeg H.size n.toNatClampNeg = vp_cell cA (n.toNatClampNeg, .inr (.inr (.inr (.inr (fun i => if i < n.toNatClampNeg then some (H.size + 1 + i) else none))))) := by
    rw [vp_cell_q]
    exact vr_outer cA n.toNatClampNeg H.size n.toNatClampNeg
  rw [hout] at f2
  have hlt : ∀ a, a ∈ L → a < H.size := fun a ha => by
    obtain ⟨k9, hk9⟩ := va_pl_get (X := X) (f := f) ha
    exact (hP k9 _ hk9).lt
  have hnl : ∀ i : Nat, i < n.toNatClampNeg → H.size + 1 + i ∉ L := fun i _ h => by
    have := hlt _ h
    omega
  have hnm : ∀ a, a ∈ (List.range n.toNatClampNeg).map (fun i => H.size + 1 + i) → a ∉ L := fun a ha h => by
    obtain ⟨i, -, rfl⟩ := List.mem_map.mp ha
    have := hlt _ h
    omega
  have hP0 : va_P D cl (X ++ va_pl L f) F.heap := hP.kept (fun k9 x hx => hold x.1 ((hP k9 x hx).lt))
  have hP1 : va_P D cl ((X ++ va_pl L f) ++ [(H.size, .inl (cA, n.toNatClampNeg, .inr (.inr (.inr (.inr (fun i => if i < n.toNatClampNeg then some (H.size + 1 + i) else none))))))]) F.heap := hP0.app (fun k9 x hx => by
    have h0 : k9 < 1 := (List.getElem?_eq_some_iff.mp hx).1
    rw [show k9 = 0 by omega] at hx
    cases hx
    exact f2)
  have hP2 : va_P D cl (((X ++ va_pl L f) ++ [(H.size, .inl (cA, n.toNatClampNeg, .inr (.inr (.inr (.inr (fun i => if i < n.toNatClampNeg then some (H.size + 1 + i) else none))))))]) ++ ((List.range n.toNatClampNeg).map (fun i => H.size + 1 + i)).map (fun a => (a, .inl (cy, z)))) F.heap := hP1.app (fun k9 x hx => by
    obtain ⟨a, ha, rfl⟩ := List.mem_map.mp (List.mem_of_getElem? hx)
    obtain ⟨i, hi, rfl⟩ := List.mem_map.mp ha
    exact hrow i (List.mem_range.mp hi))
  have hD2 : va_D A (((X ++ va_pl L f) ++ [(H.size, .inl (cA, n.toNatClampNeg, .inr (.inr (.inr (.inr (fun i => if i < n.toNatClampNeg then some (H.size + 1 + i) else none))))))]) ++ ((List.range n.toNatClampNeg).map (fun i => H.size + 1 + i)).map (fun a => (a, .inl (cy, z)))) := by
    have hD1 := hD.push (e := .inl (cA, n.toNatClampNeg, .inr (.inr (.inr (.inr (fun i => if i < n.toNatClampNeg then some (H.size + 1 + i) else none)))))) hP rfl (hA _ hS.1)
    generalize hW1 : (X ++ va_pl L f) ++ [(H.size, .inl (cA, n.toNatClampNeg, .inr (.inr (.inr (.inr (fun i => if i < n.toNatClampNeg then some (H.size + 1 + i) else none))))))] = W1 at hD1 hP1 ⊢
    have hle : ∀ (k9 : Nat) (x : Nat × va_E), W1[k9]? = some x → x.1 ≤ H.size := fun k9 x hx => by
      rw [← hW1] at hx
      by_cases hl : k9 < (X ++ va_pl L f).length
      · rw [List.getElem?_append_left hl] at hx
        exact Nat.le_of_lt ((hP k9 x hx).lt)
      · rw [List.getElem?_append_right (by omega)] at hx
        have h0 : k9 - (X ++ va_pl L f).length < 1 := (List.getElem?_eq_some_iff.mp hx).1
        rw [show k9 - (X ++ va_pl L f).length = 0 by omega] at hx
        cases hx
        exact Nat.le_refl _
    have hr : ∀ (k9 : Nat) (x : Nat × va_E), (((List.range n.toNatClampNeg).map (fun i => H.size + 1 + i)).map (fun a => ((a, .inl (cy, z)) : Nat × va_E)))[k9]? = some x → x.1 = H.size + 1 + k9 := fun k9 x hx => by
      rw [List.getElem?_map, List.getElem?_map] at hx
      by_cases h9 : k9 < n.toNatClampNeg
      · rw [List.getElem?_range h9] at hx
        cases hx
        rfl
      · have hn0 : (List.range n.toNatClampNeg)[k9]? = none := List.getElem?_eq_none (by rw [List.length_range]; omega)
        rw [hn0] at hx
        cases hx
    refine ⟨fun i j x y hi hj hxy => ?_, fun k9 x hx => ?_⟩
    · by_cases h1 : i < W1.length <;> by_cases h2 : j < W1.length
      · rw [List.getElem?_append_left h1] at hi
        rw [List.getElem?_append_left h2] at hj
        exact hD1.1 i j x y hi hj hxy
      · rw [List.getElem?_append_left h1] at hi
        rw [List.getElem?_append_right (by omega)] at hj
        have := hle _ _ hi
        have := hr _ _ hj
        omega
      · rw [List.getElem?_append_right (by omega)] at hi
        rw [List.getElem?_append_left h2] at hj
        have := hle _ _ hj
        have := hr _ _ hi
        omega
      · rw [List.getElem?_append_right (by omega)] at hi hj
        have := hr _ _ hi
        have := hr _ _ hj
        omega
    · by_cases h1 : k9 < W1.length
      · rw [List.getElem?_append_left h1] at hx
        exact hD1.2 k9 x hx
      · rw [List.getElem?_append_right (by omega)] at hx
        have := hr _ _ hx
        exact hA _ (by have := hS.1; omega)
  have hAr : ArrOfT s cA (.array ty) := fun N9 z9 => by
    obtain ⟨-, k9, hk9, cm9, hkk9⟩ := (hO 0 0 0).1
    exact ⟨(fun q hq => by cases hq), k9, hk9, cm9, hkk9⟩
  have hK2 : va_K D cl (tys ++ [(cA, .array ty)]) s := ⟨hK.1, fun k9 x hx => by
    by_cases hl : k9 < tys.length
    · rw [List.getElem?_append_left hl] at hx
      exact hK.2 k9 x hx
    · rw [List.getElem?_append_right (by omega)] at hx
      have h0 : k9 - tys.length < 1 := (List.getElem?_eq_some_iff.mp hx).1
      rw [show k9 - tys.length = 0 by omega] at hx
      cases hx
      exact ⟨hAr, fA⟩⟩
  obtain ⟨t, a1, b1⟩ := kk H.size (fun i => H.size + 1 + i) cA F.heap (fun i j _ _ h => by have h9 : H.size + 1 + i = H.size + 1 + j := h; omega) hnl hK2 (by rw [← vr_rows hnm]; exact vr_lay hP2) (by rw [← vr_rows hnm]; exact vr_layD hD2) ⟨by rw [f1]; have := hS.1; omega, fun x h1 h2 => (hold x (Nat.lt_of_lt_of_le h1 hS.1)).trans (hS.2.1 x h1 h2), hS.2.2⟩ F rfl X'
  refine ⟨t, step t ?_, b1⟩
  have e : T.heap.size = H.size := by rw [hT]
  rw [e]
  exact a1
end VGM
/-! ===== END ===== -/

/-! ===== BEGIN printed: names, fields, word lists, decode rows ===== -/
def RX0 : String := "DecisionWeb$Bits"
def TX0 : u_T := fun k => match k with
  | _ => ("", "", "", false)
def tyX0 : Nat → FieldType := fun k => match k with
  | _ => .int
abbrev wsX00 : List Cond := u_ws RX0 TX0 0
theorem nmX0 : ∀ a, a < 0 → ∀ b, b < 0 → a ≠ b → (TX0 a).2.1 ≠ (TX0 b).2.1 := by decide +kernel
theorem tyX0_ok : ∀ k, k < 0 → parseFieldDescriptor (TX0 k).2.2.1 = some (tyX0 k) := by decide +kernel
abbrev cX0_has : ByteArray := prog_2_method_2_code
def yX0_has : MethodName := ⟨RX0, "has", "([JI)Z"⟩
abbrev cX0_mark : ByteArray := prog_2_method_3_code
def yX0_mark : MethodName := ⟨RX0, "mark", "([JI)V"⟩
abbrev cX0_lowOnes : ByteArray := prog_2_method_4_code
def yX0_lowOnes : MethodName := ⟨RX0, "lowOnes", "(I)J"⟩
abbrev cX0_letterWord : ByteArray := prog_2_method_5_code
def yX0_letterWord : MethodName := ⟨RX0, "letterWord", "(II)J"⟩
abbrev cX0_joinedWord : ByteArray := prog_2_method_6_code
def yX0_joinedWord : MethodName := ⟨RX0, "joinedWord", "(JJI)J"⟩
abbrev cX0_chosenWord : ByteArray := prog_2_method_7_code
def yX0_chosenWord : MethodName := ⟨RX0, "chosenWord", "(JJJ)J"⟩
abbrev cX0_fixedWord : ByteArray := prog_2_method_8_code
def yX0_fixedWord : MethodName := ⟨RX0, "fixedWord", "([JIIZ)J"⟩
abbrev cX0_alike : ByteArray := prog_2_method_9_code
def yX0_alike : MethodName := ⟨RX0, "alike", "([JI[JII)Z"⟩
abbrev cX0_shortPart : ByteArray := prog_2_method_10_code
def yX0_shortPart : MethodName := ⟨RX0, "shortPart", "([JII)J"⟩
abbrev cX0_hash : ByteArray := prog_2_method_11_code
def yX0_hash : MethodName := ⟨RX0, "hash", "([JII)I"⟩
abbrev cX0_exchange : ByteArray := prog_2_method_12_code
def yX0_exchange : MethodName := ⟨RX0, "exchange", "([JIII)V"⟩
abbrev cX0_exchangeInWords : ByteArray := prog_2_method_13_code
def yX0_exchangeInWords : MethodName := ⟨RX0, "exchangeInWords", "([JIII)V"⟩
abbrev cX0_exchangeAcrossWords : ByteArray := prog_2_method_14_code
def yX0_exchangeAcrossWords : MethodName := ⟨RX0, "exchangeAcrossWords", "([JIII)V"⟩
abbrev cX0_exchangeWords : ByteArray := prog_2_method_15_code
def yX0_exchangeWords : MethodName := ⟨RX0, "exchangeWords", "([JIII)V"⟩
def RX1 : String := "DecisionWeb$Survey"
def TX1 : u_T := fun k => match k with
  | 0 => ("DecisionWeb$Survey", "widths", "[I", true)
  | 1 => ("DecisionWeb$Survey", "upper", "[I", false)
  | 2 => ("DecisionWeb$Survey", "found", "[I", false)
  | 3 => ("DecisionWeb$Survey", "foundCount", "I", false)
  | 4 => ("DecisionWeb$Survey", "slots", "[I", true)
  | _ => ("DecisionWeb$Survey", "slotCount", "I", false)
def tyX1 : Nat → FieldType := fun k => match k with
  | 0 => .array .int
  | 1 => .array .int
  | 2 => .array .int
  | 3 => .int
  | 4 => .array .int
  | _ => .int
abbrev wsX10 : List Cond := u_ws RX1 TX1 6
theorem nmX1 : ∀ a, a < 6 → ∀ b, b < 6 → a ≠ b → (TX1 a).2.1 ≠ (TX1 b).2.1 := by decide +kernel
theorem tyX1_ok : ∀ k, k < 6 → parseFieldDescriptor (TX1 k).2.2.1 = some (tyX1 k) := by decide +kernel
abbrev cX1_init : ByteArray := prog_3_method_1_code
def yX1_init : MethodName := ⟨RX1, "<init>", "()V"⟩
abbrev cX1_forksOf : ByteArray := prog_3_method_2_code
def yX1_forksOf : MethodName := ⟨RX1, "forksOf", "([[JIIII)I"⟩
abbrev cX1_list : ByteArray := prog_3_method_3_code
def yX1_list : MethodName := ⟨RX1, "list", "([[JIIII)V"⟩
abbrev cX1_forksListed : ByteArray := prog_3_method_4_code
def yX1_forksListed : MethodName := ⟨RX1, "forksListed", "([[JI)I"⟩
abbrev cX1_cut : ByteArray := prog_3_method_5_code
def yX1_cut : MethodName := ⟨RX1, "cut", "([[JI)I"⟩
abbrev cX1_clear : ByteArray := prog_3_method_6_code
def yX1_clear : MethodName := ⟨RX1, "clear", "(I)V"⟩
abbrev cX1_find : ByteArray := prog_3_method_7_code
def yX1_find : MethodName := ⟨RX1, "find", "([[JIII)V"⟩
abbrev cX1_note : ByteArray := prog_3_method_8_code
def yX1_note : MethodName := ⟨RX1, "note", "(II)V"⟩
def RX2 : String := "DecisionWeb"
def TX2 : u_T := fun k => match k with
  | 0 => ("DecisionWeb", "tables", "[[J", true)
  | 1 => ("DecisionWeb", "order", "[I", true)
  | 2 => ("DecisionWeb", "costs", "[I", true)
  | 3 => ("DecisionWeb", "firstRow", "[I", true)
  | 4 => ("DecisionWeb", "secondRow", "[I", true)
  | 5 => ("DecisionWeb", "survey", "LDecisionWeb$Survey;", true)
  | 6 => ("DecisionWeb", "letterCount", "I", false)
  | 7 => ("DecisionWeb", "capacity", "I", false)
  | 8 => ("DecisionWeb", "words", "I", false)
  | 9 => ("DecisionWeb", "wholeWord", "J", false)
  | 10 => ("DecisionWeb", "pointerTable", "I", false)
  | 11 => ("DecisionWeb", "pointerStart", "I", false)
  | _ => ("DecisionWeb", "pointerLevel", "I", false)
def tyX2 : Nat → FieldType := fun k => match k with
  | 0 => .array (.array .long)
  | 1 => .array .int
  | 2 => .array .int
  | 3 => .array .int
  | 4 => .array .int
  | 5 => .object "DecisionWeb$Survey"
  | 6 => .int
  | 7 => .int
  | 8 => .int
  | 9 => .long
  | 10 => .int
  | 11 => .int
  | _ => .int
abbrev wsX20 : List Cond := u_ws RX2 TX2 13
theorem nmX2 : ∀ a, a < 13 → ∀ b, b < 13 → a ≠ b → (TX2 a).2.1 ≠ (TX2 b).2.1 := by decide +kernel
theorem tyX2_ok : ∀ k, k < 13 → parseFieldDescriptor (TX2 k).2.2.1 = some (tyX2 k) := by decide +kernel
abbrev cX2_init : ByteArray := prog_1_method_1_code
def yX2_init : MethodName := ⟨RX2, "<init>", "()V"⟩
abbrev cX2_fresh : ByteArray := prog_1_method_2_code
def yX2_fresh : MethodName := ⟨RX2, "fresh", "(II)Z"⟩
abbrev cX2_constant : ByteArray := prog_1_method_3_code
def yX2_constant : MethodName := ⟨RX2, "constant", "(IZ)I"⟩
abbrev cX2_letter : ByteArray := prog_1_method_4_code
def yX2_letter : MethodName := ⟨RX2, "letter", "(II)I"⟩
abbrev cX2_join : ByteArray := prog_1_method_5_code
def yX2_join : MethodName := ⟨RX2, "join", "(IIII)I"⟩
abbrev cX2_fork : ByteArray := prog_1_method_6_code
def yX2_fork : MethodName := ⟨RX2, "fork", "(IIII)I"⟩
abbrev cX2_fix : ByteArray := prog_1_method_7_code
def yX2_fix : MethodName := ⟨RX2, "fix", "(IIIZ)I"⟩
abbrev cX2_put : ByteArray := prog_1_method_8_code
def yX2_put : MethodName := ⟨RX2, "put", "(IIII)I"⟩
abbrev cX2_sum : ByteArray := prog_1_method_9_code
def yX2_sum : MethodName := ⟨RX2, "sum", "(IIIZ)I"⟩
abbrev cX2_trade : ByteArray := prog_1_method_10_code
def yX2_trade : MethodName := ⟨RX2, "trade", "(IIII)I"⟩
abbrev cX2_near : ByteArray := prog_1_method_11_code
def yX2_near : MethodName := ⟨RX2, "near", "(III)I"⟩
abbrev cX2_copy : ByteArray := prog_1_method_12_code
def yX2_copy : MethodName := ⟨RX2, "copy", "(II)I"⟩
abbrev cX2_swap : ByteArray := prog_1_method_13_code
def yX2_swap : MethodName := ⟨RX2, "swap", "(I)I"⟩
abbrev cX2_sift : ByteArray := prog_1_method_14_code
def yX2_sift : MethodName := ⟨RX2, "sift", "(I)I"⟩
abbrev cX2_cost : ByteArray := prog_1_method_15_code
def yX2_cost : MethodName := ⟨RX2, "cost", "(II)I"⟩
abbrev cX2_same : ByteArray := prog_1_method_16_code
def yX2_same : MethodName := ⟨RX2, "same", "(II)I"⟩
abbrev cX2_tells : ByteArray := prog_1_method_17_code
def yX2_tells : MethodName := ⟨RX2, "tells", "(II)I"⟩
abbrev cX2_many : ByteArray := prog_1_method_18_code
def yX2_many : MethodName := ⟨RX2, "many", "(I)I"⟩
abbrev cX2_pick : ByteArray := prog_1_method_19_code
def yX2_pick : MethodName := ⟨RX2, "pick", "(II)I"⟩
abbrev cX2_cheapest : ByteArray := prog_1_method_20_code
def yX2_cheapest : MethodName := ⟨RX2, "cheapest", "(I)I"⟩
abbrev cX2_dearest : ByteArray := prog_1_method_21_code
def yX2_dearest : MethodName := ⟨RX2, "dearest", "(I)I"⟩
abbrev cX2_letters : ByteArray := prog_1_method_22_code
def yX2_letters : MethodName := ⟨RX2, "letters", "(I)I"⟩
abbrev cX2_size : ByteArray := prog_1_method_23_code
def yX2_size : MethodName := ⟨RX2, "size", "(I)I"⟩
abbrev cX2_width : ByteArray := prog_1_method_24_code
def yX2_width : MethodName := ⟨RX2, "width", "(II)I"⟩
abbrev cX2_point : ByteArray := prog_1_method_25_code
def yX2_point : MethodName := ⟨RX2, "point", "(I)I"⟩
abbrev cX2_go : ByteArray := prog_1_method_26_code
def yX2_go : MethodName := ⟨RX2, "go", "(Z)Z"⟩
abbrev cX2_at : ByteArray := prog_1_method_27_code
def yX2_at : MethodName := ⟨RX2, "at", "()I"⟩
abbrev cX2_level : ByteArray := prog_1_method_28_code
def yX2_level : MethodName := ⟨RX2, "level", "(II)I"⟩
abbrev cX2_count : ByteArray := prog_1_method_29_code
def yX2_count : MethodName := ⟨RX2, "count", "(I)I"⟩
abbrev cX2_begin : ByteArray := prog_1_method_30_code
def yX2_begin : MethodName := ⟨RX2, "begin", "(II)V"⟩
abbrev cX2_isRegister : ByteArray := prog_1_method_31_code
def yX2_isRegister : MethodName := ⟨RX2, "isRegister", "(I)Z"⟩
abbrev cX2_isLetter : ByteArray := prog_1_method_32_code
def yX2_isLetter : MethodName := ⟨RX2, "isLetter", "(I)Z"⟩
abbrev cX2_isLevel : ByteArray := prog_1_method_33_code
def yX2_isLevel : MethodName := ⟨RX2, "isLevel", "(I)Z"⟩
abbrev cX2_isAssignment : ByteArray := prog_1_method_34_code
def yX2_isAssignment : MethodName := ⟨RX2, "isAssignment", "(I)Z"⟩
abbrev cX2_levelOf : ByteArray := prog_1_method_35_code
def yX2_levelOf : MethodName := ⟨RX2, "levelOf", "(I)I"⟩
abbrev cX2_placeAt : ByteArray := prog_1_method_36_code
def yX2_placeAt : MethodName := ⟨RX2, "placeAt", "(I)I"⟩
abbrev cX2_placeOf : ByteArray := prog_1_method_37_code
def yX2_placeOf : MethodName := ⟨RX2, "placeOf", "(I)I"⟩
abbrev cX2_bitOf : ByteArray := prog_1_method_38_code
def yX2_bitOf : MethodName := ⟨RX2, "bitOf", "(I)I"⟩
abbrev cX2_listBits : ByteArray := prog_1_method_39_code
def yX2_listBits : MethodName := ⟨RX2, "listBits", "([I)V"⟩
abbrev cX2_listCosts : ByteArray := prog_1_method_40_code
def yX2_listCosts : MethodName := ⟨RX2, "listCosts", "([I)V"⟩
abbrev cX2_extend : ByteArray := prog_1_method_41_code
def yX2_extend : MethodName := ⟨RX2, "extend", "([III)V"⟩
abbrev cX2_copyToSpare : ByteArray := prog_1_method_42_code
def yX2_copyToSpare : MethodName := ⟨RX2, "copyToSpare", "(I)V"⟩
abbrev cX2_sumSpare : ByteArray := prog_1_method_43_code
def yX2_sumSpare : MethodName := ⟨RX2, "sumSpare", "(IZ)V"⟩
abbrev cX2_findNearest : ByteArray := prog_1_method_44_code
def yX2_findNearest : MethodName := ⟨RX2, "findNearest", "([J[I[I)V"⟩
abbrev cX2_keep : ByteArray := prog_1_method_45_code
def yX2_keep : MethodName := ⟨RX2, "keep", "(I)I"⟩
abbrev cX2_forksOfAll : ByteArray := prog_1_method_46_code
def yX2_forksOfAll : MethodName := ⟨RX2, "forksOfAll", "()I"⟩
abbrev cX2_forksOfOne : ByteArray := prog_1_method_47_code
def yX2_forksOfOne : MethodName := ⟨RX2, "forksOfOne", "(I)I"⟩
abbrev cX2_bestLevelGoingDown : ByteArray := prog_1_method_48_code
def yX2_bestLevelGoingDown : MethodName := ⟨RX2, "bestLevelGoingDown", "()I"⟩
abbrev cX2_turn : ByteArray := prog_1_method_49_code
def yX2_turn : MethodName := ⟨RX2, "turn", "(I)V"⟩
abbrev cX2_differsBy : ByteArray := prog_1_method_50_code
def yX2_differsBy : MethodName := ⟨RX2, "differsBy", "([JI)Z"⟩
abbrev cX2_isAll : ByteArray := prog_1_method_51_code
def yX2_isAll : MethodName := ⟨RX2, "isAll", "(IJ)Z"⟩
abbrev cX2_unsettledRegisters : ByteArray := prog_1_method_52_code
def yX2_unsettledRegisters : MethodName := ⟨RX2, "unsettledRegisters", "()I"⟩
abbrev cX2_restPointer : ByteArray := prog_1_method_53_code
def yX2_restPointer : MethodName := ⟨RX2, "restPointer", "()V"⟩
abbrev cX2_pointAt : ByteArray := prog_1_method_54_code
def yX2_pointAt : MethodName := ⟨RX2, "pointAt", "(I)V"⟩
abbrev cX2_pointerFork : ByteArray := prog_1_method_55_code
def yX2_pointerFork : MethodName := ⟨RX2, "pointerFork", "()I"⟩
def RX3 : String := "DecisionWebModel"
def TX3 : u_T := fun k => match k with
  | 0 => ("DecisionWebModel", "n", "I", false)
  | 1 => ("DecisionWebModel", "all", "I", false)
  | 2 => ("DecisionWebModel", "capacity", "I", false)
  | 3 => ("DecisionWebModel", "tells", "[Z", true)
  | 4 => ("DecisionWebModel", "made", "[Z", true)
  | 5 => ("DecisionWebModel", "pointed", "[Z", true)
  | 6 => ("DecisionWebModel", "cost", "[I", true)
  | 7 => ("DecisionWebModel", "order", "[I", true)
  | 8 => ("DecisionWebModel", "tried", "[I", true)
  | 9 => ("DecisionWebModel", "number", "[I", true)
  | 10 => ("DecisionWebModel", "below", "[I", true)
  | 11 => ("DecisionWebModel", "wide", "[I", true)
  | 12 => ("DecisionWebModel", "place", "[I", true)
  | 13 => ("DecisionWebModel", "low", "[I", true)
  | 14 => ("DecisionWebModel", "high", "[I", true)
  | 15 => ("DecisionWebModel", "own", "[I", true)
  | 16 => ("DecisionWebModel", "numbers", "I", false)
  | _ => ("DecisionWebModel", "seen", "I", false)
def tyX3 : Nat → FieldType := fun k => match k with
  | 0 => .int
  | 1 => .int
  | 2 => .int
  | 3 => .array .boolean
  | 4 => .array .boolean
  | 5 => .array .boolean
  | 6 => .array .int
  | 7 => .array .int
  | 8 => .array .int
  | 9 => .array .int
  | 10 => .array .int
  | 11 => .array .int
  | 12 => .array .int
  | 13 => .array .int
  | 14 => .array .int
  | 15 => .array .int
  | 16 => .int
  | _ => .int
abbrev wsX30 : List Cond := u_ws RX3 TX3 18
theorem nmX3 : ∀ a, a < 18 → ∀ b, b < 18 → a ≠ b → (TX3 a).2.1 ≠ (TX3 b).2.1 := by decide +kernel
theorem tyX3_ok : ∀ k, k < 18 → parseFieldDescriptor (TX3 k).2.2.1 = some (tyX3 k) := by decide +kernel
abbrev cX3_init : ByteArray := prog_5_method_1_code
def yX3_init : MethodName := ⟨RX3, "<init>", "()V"⟩
abbrev cX3_isRegister : ByteArray := prog_5_method_2_code
def yX3_isRegister : MethodName := ⟨RX3, "isRegister", "(I)Z"⟩
abbrev cX3_isLetter : ByteArray := prog_5_method_3_code
def yX3_isLetter : MethodName := ⟨RX3, "isLetter", "(I)Z"⟩
abbrev cX3_get : ByteArray := prog_5_method_4_code
def yX3_get : MethodName := ⟨RX3, "get", "(II)Z"⟩
abbrev cX3_done : ByteArray := prog_5_method_5_code
def yX3_done : MethodName := ⟨RX3, "done", "()I"⟩
abbrev cX3_fresh : ByteArray := prog_5_method_6_code
def yX3_fresh : MethodName := ⟨RX3, "fresh", "(II)Z"⟩
abbrev cX3_pair : ByteArray := prog_5_method_7_code
def yX3_pair : MethodName := ⟨RX3, "pair", "(III)I"⟩
abbrev cX3_spread : ByteArray := prog_5_method_8_code
def yX3_spread : MethodName := ⟨RX3, "spread", "(I[I)I"⟩
abbrev cX3_forks : ByteArray := prog_5_method_9_code
def yX3_forks : MethodName := ⟨RX3, "forks", "(III[I)I"⟩
abbrev cX3_puts : ByteArray := prog_5_method_10_code
def yX3_puts : MethodName := ⟨RX3, "puts", "(I)I"⟩
abbrev cX3_constant : ByteArray := prog_5_method_11_code
def yX3_constant : MethodName := ⟨RX3, "constant", "(IZ)I"⟩
abbrev cX3_letter : ByteArray := prog_5_method_12_code
def yX3_letter : MethodName := ⟨RX3, "letter", "(II)I"⟩
abbrev cX3_join : ByteArray := prog_5_method_13_code
def yX3_join : MethodName := ⟨RX3, "join", "(IIII)I"⟩
abbrev cX3_fork : ByteArray := prog_5_method_14_code
def yX3_fork : MethodName := ⟨RX3, "fork", "(IIII)I"⟩
abbrev cX3_with : ByteArray := prog_5_method_15_code
def yX3_with : MethodName := ⟨RX3, "with", "(IIZ)I"⟩
abbrev cX3_fix : ByteArray := prog_5_method_16_code
def yX3_fix : MethodName := ⟨RX3, "fix", "(IIIZ)I"⟩
abbrev cX3_put : ByteArray := prog_5_method_17_code
def yX3_put : MethodName := ⟨RX3, "put", "(IIII)I"⟩
abbrev cX3_sum : ByteArray := prog_5_method_18_code
def yX3_sum : MethodName := ⟨RX3, "sum", "(IIIZ)I"⟩
abbrev cX3_trade : ByteArray := prog_5_method_19_code
def yX3_trade : MethodName := ⟨RX3, "trade", "(IIII)I"⟩
abbrev cX3_manyOf : ByteArray := prog_5_method_20_code
def yX3_manyOf : MethodName := ⟨RX3, "manyOf", "(I)I"⟩
abbrev cX3_isSome : ByteArray := prog_5_method_21_code
def yX3_isSome : MethodName := ⟨RX3, "isSome", "(III)Z"⟩
abbrev cX3_nearest : ByteArray := prog_5_method_22_code
def yX3_nearest : MethodName := ⟨RX3, "nearest", "(II)I"⟩
abbrev cX3_near : ByteArray := prog_5_method_23_code
def yX3_near : MethodName := ⟨RX3, "near", "(III)I"⟩
abbrev cX3_copy : ByteArray := prog_5_method_24_code
def yX3_copy : MethodName := ⟨RX3, "copy", "(II)I"⟩
abbrev cX3_swap : ByteArray := prog_5_method_25_code
def yX3_swap : MethodName := ⟨RX3, "swap", "(I)I"⟩
abbrev cX3_tries : ByteArray := prog_5_method_26_code
def yX3_tries : MethodName := ⟨RX3, "tries", "(II)V"⟩
abbrev cX3_sift : ByteArray := prog_5_method_27_code
def yX3_sift : MethodName := ⟨RX3, "sift", "(I)I"⟩
abbrev cX3_cost : ByteArray := prog_5_method_28_code
def yX3_cost : MethodName := ⟨RX3, "cost", "(II)I"⟩
abbrev cX3_same : ByteArray := prog_5_method_29_code
def yX3_same : MethodName := ⟨RX3, "same", "(II)I"⟩
abbrev cX3_tells : ByteArray := prog_5_method_30_code
def yX3_tells : MethodName := ⟨RX3, "tells", "(II)I"⟩
abbrev cX3_many : ByteArray := prog_5_method_31_code
def yX3_many : MethodName := ⟨RX3, "many", "(I)I"⟩
abbrev cX3_pick : ByteArray := prog_5_method_32_code
def yX3_pick : MethodName := ⟨RX3, "pick", "(II)I"⟩
abbrev cX3_costOf : ByteArray := prog_5_method_33_code
def yX3_costOf : MethodName := ⟨RX3, "costOf", "(I)I"⟩
abbrev cX3_cheapest : ByteArray := prog_5_method_34_code
def yX3_cheapest : MethodName := ⟨RX3, "cheapest", "(I)I"⟩
abbrev cX3_dearest : ByteArray := prog_5_method_35_code
def yX3_dearest : MethodName := ⟨RX3, "dearest", "(I)I"⟩
abbrev cX3_differs : ByteArray := prog_5_method_36_code
def yX3_differs : MethodName := ⟨RX3, "differs", "(II)Z"⟩
abbrev cX3_letters : ByteArray := prog_5_method_37_code
def yX3_letters : MethodName := ⟨RX3, "letters", "(I)I"⟩
abbrev cX3_size : ByteArray := prog_5_method_38_code
def yX3_size : MethodName := ⟨RX3, "size", "(I)I"⟩
abbrev cX3_width : ByteArray := prog_5_method_39_code
def yX3_width : MethodName := ⟨RX3, "width", "(II)I"⟩
abbrev cX3_point : ByteArray := prog_5_method_40_code
def yX3_point : MethodName := ⟨RX3, "point", "(I)I"⟩
abbrev cX3_firstLetter : ByteArray := prog_5_method_41_code
def yX3_firstLetter : MethodName := ⟨RX3, "firstLetter", "()I"⟩
abbrev cX3_go : ByteArray := prog_5_method_42_code
def yX3_go : MethodName := ⟨RX3, "go", "(Z)Z"⟩
abbrev cX3_at : ByteArray := prog_5_method_43_code
def yX3_at : MethodName := ⟨RX3, "at", "()I"⟩
abbrev cX3_level : ByteArray := prog_5_method_44_code
def yX3_level : MethodName := ⟨RX3, "level", "(II)I"⟩
abbrev cX3_count : ByteArray := prog_5_method_45_code
def yX3_count : MethodName := ⟨RX3, "count", "(I)I"⟩
abbrev cX3_mixed : ByteArray := prog_5_method_46_code
def yX3_mixed : MethodName := ⟨RX3, "mixed", "()I"⟩
def RJ13 : String := "java/lang/Long"
def TJ13 : u_T := fun k => match k with
  | _ => ("", "", "", false)
def tyJ13 : Nat → FieldType := fun k => match k with
  | _ => .int
abbrev wsJ130 : List Cond := u_ws RJ13 TJ13 0
theorem nmJ13 : ∀ a, a < 0 → ∀ b, b < 0 → a ≠ b → (TJ13 a).2.1 ≠ (TJ13 b).2.1 := by decide +kernel
theorem tyJ13_ok : ∀ k, k < 0 → parseFieldDescriptor (TJ13 k).2.2.1 = some (tyJ13 k) := by decide +kernel
abbrev cJ13_bitCount_95d88 : ByteArray := prog_6_method_50_code
def yJ13_bitCount_95d88 : MethodName := ⟨RJ13, "bitCount", "(J)I"⟩
def RJ9 : String := "java/lang/Math"
def TJ9 : u_T := fun k => match k with
  | _ => ("", "", "", false)
def tyJ9 : Nat → FieldType := fun k => match k with
  | _ => .int
abbrev wsJ90 : List Cond := u_ws RJ9 TJ9 0
theorem nmJ9 : ∀ a, a < 0 → ∀ b, b < 0 → a ≠ b → (TJ9 a).2.1 ≠ (TJ9 b).2.1 := by decide +kernel
theorem tyJ9_ok : ∀ k, k < 0 → parseFieldDescriptor (TJ9 k).2.2.1 = some (tyJ9 k) := by decide +kernel
abbrev cJ9_max_7cf53 : ByteArray := prog_7_method_65_code
def yJ9_max_7cf53 : MethodName := ⟨RJ9, "max", "(II)I"⟩
abbrev cJ9_min_7cf53 : ByteArray := prog_7_method_69_code
def yJ9_min_7cf53 : MethodName := ⟨RJ9, "min", "(II)I"⟩
def RJ10 : String := "java/lang/System"
def TJ10 : u_T := fun k => match k with
  | _ => ("", "", "", false)
def tyJ10 : Nat → FieldType := fun k => match k with
  | _ => .int
abbrev wsJ100 : List Cond := u_ws RJ10 TJ10 0
theorem nmJ10 : ∀ a, a < 0 → ∀ b, b < 0 → a ≠ b → (TJ10 a).2.1 ≠ (TJ10 b).2.1 := by decide +kernel
theorem tyJ10_ok : ∀ k, k < 0 → parseFieldDescriptor (TJ10 k).2.2.1 = some (tyJ10 k) := by decide +kernel
def RJ7 : String := "java/util/Arrays"
def TJ7 : u_T := fun k => match k with
  | _ => ("", "", "", false)
def tyJ7 : Nat → FieldType := fun k => match k with
  | _ => .int
abbrev wsJ70 : List Cond := u_ws RJ7 TJ7 0
theorem nmJ7 : ∀ a, a < 0 → ∀ b, b < 0 → a ≠ b → (TJ7 a).2.1 ≠ (TJ7 b).2.1 := by decide +kernel
theorem tyJ7_ok : ∀ k, k < 0 → parseFieldDescriptor (TJ7 k).2.2.1 = some (tyJ7 k) := by decide +kernel
abbrev cJ7_rangeCheck_23922 : ByteArray := prog_9_method_30_code
def yJ7_rangeCheck_23922 : MethodName := ⟨RJ7, "rangeCheck", "(III)V"⟩
abbrev cJ7_fill_d0a16 : ByteArray := prog_9_method_101_code
def yJ7_fill_d0a16 : MethodName := ⟨RJ7, "fill", "([JJ)V"⟩
abbrev cJ7_fill_bad5a : ByteArray := prog_9_method_102_code
def yJ7_fill_bad5a : MethodName := ⟨RJ7, "fill", "([JIIJ)V"⟩
abbrev cJ7_fill_fda19 : ByteArray := prog_9_method_104_code
def yJ7_fill_fda19 : MethodName := ⟨RJ7, "fill", "([IIII)V"⟩
def RL : String := "DecisionWebLaw"
abbrev cL_law : ByteArray := code
def yL_law : MethodName := ⟨RL, "law", "([I)Z"⟩
theorem inX0 : ∀ w ∈ wsX00, w ∈ lw_tbl := by decide +kernel
theorem inX1 : ∀ w ∈ wsX10, w ∈ lw_tbl := by decide +kernel
theorem inX2 : ∀ w ∈ wsX20, w ∈ lw_tbl := by decide +kernel
theorem inX3 : ∀ w ∈ wsX30, w ∈ lw_tbl := by decide +kernel
theorem inJ13 : ∀ w ∈ wsJ130, w ∈ lw_tbl := by decide +kernel
theorem inJ9 : ∀ w ∈ wsJ90, w ∈ lw_tbl := by decide +kernel
theorem inJ10 : ∀ w ∈ wsJ100, w ∈ lw_tbl := by decide +kernel
theorem inJ7 : ∀ w ∈ wsJ70, w ∈ lw_tbl := by decide +kernel
abbrev vwCl : List vw_C := [(RX1, TX1, 6), (RX2, TX2, 13), (RX3, TX3, 18)]

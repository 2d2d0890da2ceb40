theorem upV_ne {σ : St} {f i : Nat} {x : Int32} (h : i ≠ f) : sV (uV σ f x) i = sV σ i := up_ne h
theorem wcell_uV0 {g : Ev} {σ : St} {f : Nat} {x : Int32} (hf : f ≤ 5) (j : Nat) (h : j ≠ 0) : wcell g (uV σ f x) j = wcell g σ j := by
  have e3 : sW (uV σ f x) = sW σ := rfl
  have e4 : sL (uV σ f x) = sL σ := rfl
  have e5 : sR (uV σ f x) = sR σ := rfl
  have e6 : sI (uV σ f x) = sI σ := rfl
  unfold wcell
  rw [if_neg h, if_neg h, e4, e5, e6, upV_ne (i := 6) (by omega), upV_ne (i := 7) (by omega), upV_ne (i := 8) (by omega), upV_ne (i := 9) (by omega), upV_ne (i := 10) (by omega), upV_ne (i := 11) (by omega), upV_ne (i := 12) (by omega)]
theorem wcell_uV6 {g : Ev} {σ : St} {f : Nat} {x : Int32} (hf : f = 6 ∨ f = 7) (j : Nat) (h : j ≠ 6) : wcell g (uV σ f x) j = wcell g σ j := by
  have e3 : sW (uV σ f x) = sW σ := rfl
  have e4 : sL (uV σ f x) = sL σ := rfl
  have e6 : sI (uV σ f x) = sI σ := rfl
  unfold wcell
  rw [if_neg h, if_neg h, e3, e4, e6, upV_ne (i := 0) (by omega), upV_ne (i := 1) (by omega), upV_ne (i := 2) (by omega), upV_ne (i := 3) (by omega), upV_ne (i := 4) (by omega), upV_ne (i := 5) (by omega), upV_ne (i := 8) (by omega), upV_ne (i := 9) (by omega), upV_ne (i := 10) (by omega), upV_ne (i := 11) (by omega), upV_ne (i := 12) (by omega)]
theorem wcell_uV45 {g : Ev} {σ : St} {f : Nat} {x : Int32} (hf : 8 ≤ f) (j : Nat) (h : j ≠ 45) : wcell g (uV σ f x) j = wcell g σ j := by
  have e3 : sW (uV σ f x) = sW σ := rfl
  have e4 : sL (uV σ f x) = sL σ := rfl
  have e5 : sR (uV σ f x) = sR σ := rfl
  have e6 : sI (uV σ f x) = sI σ := rfl
  unfold wcell
  rw [if_neg h, if_neg h, e3, e4, e5, e6, upV_ne (i := 0) (by omega), upV_ne (i := 1) (by omega), upV_ne (i := 2) (by omega), upV_ne (i := 3) (by omega), upV_ne (i := 4) (by omega), upV_ne (i := 5) (by omega), upV_ne (i := 6) (by omega), upV_ne (i := 7) (by omega)]
theorem wcell_uW {g : Ev} {σ : St} {x : Int64} (j : Nat) (h : j ≠ 0) : wcell g (uW σ x) j = wcell g σ j := by
  have e2 : sV (uW σ x) = sV σ := rfl
  have e4 : sL (uW σ x) = sL σ := rfl
  have e5 : sR (uW σ x) = sR σ := rfl
  have e6 : sI (uW σ x) = sI σ := rfl
  unfold wcell
  rw [if_neg h, if_neg h, e2, e4, e5, e6]
theorem wcell_uR {g : Ev} {σ : St} {f x : Nat} (j : Nat) (h : j ≠ 6) : wcell g (uR σ f x) j = wcell g σ j := by
  have e2 : sV (uR σ f x) = sV σ := rfl
  have e3 : sW (uR σ f x) = sW σ := rfl
  have e4 : sL (uR σ f x) = sL σ := rfl
  have e6 : sI (uR σ f x) = sI σ := rfl
  unfold wcell
  rw [if_neg h, if_neg h, e2, e3, e4, e6]
theorem inG1 : ∀ w ∈ u_ws RX1 TX1 6, w ∈ lw_good := fun w h => List.mem_filter.mpr ⟨inX1 w h, by revert w h; decide +kernel⟩
theorem inG2 : ∀ w ∈ u_ws RX2 TX2 13, w ∈ lw_good := fun w h => List.mem_filter.mpr ⟨inX2 w h, by revert w h; decide +kernel⟩
theorem inG3 : ∀ w ∈ u_ws RX3 TX3 18, w ∈ lw_good := fun w h => List.mem_filter.mpr ⟨inX3 w h, by revert w h; decide +kernel⟩
section MEM
variable {g : Ev} {lo hi d : Nat} {M : Mt} {pc : Nat} {lv lv' : List (Nat × Value)} {st : List Value} {σ : St} {K : Option Value → St → Prop}
theorem wp_get (ko ci f : Nat) {C : String} {T : u_T} {N idx : Nat} {fs : List Value} {v : Value} (h1 : lo ≤ ko) (h2 : ko < hi) (hc : wcell g σ ko = .inr (ci, fs)) (hcl : vwCl[ci]? = some (C, T, N)) (hin : ∀ w ∈ u_ws C T N, w ∈ lw_good) (hf : f < N) (hw : Cond.fieldLink (mY M).cls idx (T f).1 (T f).2.1 (T f).2.2.1 ∈ lw_good) (hv : fs[f]? = some v) (hd : decode (mC M) pc = .ok (.getfield idx, 3)) (k : WP g lo hi d M (pc + 3) lv (v :: st) σ K) : WP g lo hi d M pc lv (.ref (eA g ko) :: st) σ K :=
  fun p e s m args below meth c F H locs ls hP hS h => va_get (D := eD g) (ci := ci) (v := v) (C := C) (T := T) (N := N) F.1 F.2.1 F.2.2.2.2.2.1 hin F.2.2.2.2.1 F.2.2.2.2.2.2.2.1 hP (ko - lo) (by rw [wd_at h1 h2, hc]) hcl f hf (F.2.2.2.2.2.1 _ hw) (fun _ h9 => h9) hv hd (k p e s m args below meth c F H locs ls hP hS h)
theorem wp_getN (ko ci f : Nat) {C host : String} {T : u_T} {N idx : Nat} {fs : List Value} {v : Value} (h1 : lo ≤ ko) (h2 : ko < hi) (hc : wcell g σ ko = .inr (ci, fs)) (hcl : vwCl[ci]? = some (C, T, N)) (hin : ∀ w ∈ u_ws C T N, w ∈ lw_good) (hf : f < N) (hw : Cond.fieldLinkNest (mY M).cls idx (T f).1 (T f).2.1 (T f).2.2.1 host ∈ lw_nest) (hv : fs[f]? = some v) (hd : decode (mC M) pc = .ok (.getfield idx, 3)) (k : WP g lo hi d M (pc + 3) lv (v :: st) σ K) : WP g lo hi d M pc lv (.ref (eA g ko) :: st) σ K :=
  fun p e s m args below meth c F H locs ls hP hS h => va_getN (D := eD g) (ci := ci) (v := v) (C := C) (T := T) (N := N) F.1 F.2.1 F.2.2.2.2.2.1 hin F.2.2.2.2.1 F.2.2.2.2.2.2.2.1 hP (ko - lo) (by rw [wd_at h1 h2, hc]) hcl f hf (va_Nw.use rfl (F.2.2.2.2.2.2.2.2.2.1 _ hw)) (fun _ h9 => h9) hv hd (k p e s m args below meth c F H locs ls hP hS h)
theorem wp_put (ko ci f : Nat) {C : String} {T : u_T} {N idx : Nat} {fs : List Value} {v : Value} {ty : FieldType} (ty0 : Nat → FieldType) (hty : ∀ k, k < N → parseFieldDescriptor (T k).2.2.1 = some (ty0 k)) (hnm : ∀ a, a < N → ∀ b, b < N → a ≠ b → (T a).2.1 ≠ (T b).2.1) (σ' : St) (h1 : lo ≤ ko) (h2 : ko < hi) (hc : wcell g σ ko = .inr (ci, fs)) (hcl : vwCl[ci]? = some (C, T, N)) (hin : ∀ w ∈ u_ws C T N, w ∈ lw_good) (hf : f < N) (hw : Cond.fieldLink (mY M).cls idx (T f).1 (T f).2.1 (T f).2.2.1 ∈ lw_good) (hfin : (T f).2.2.2 = false) (hdd : parseFieldDescriptor (T f).2.2.1 = some ty) (hn : narrow ty v = v) (hfit : fits ty v = true) (hl : f < fs.length) (hd : decode (mC M) pc = .ok (.putfield idx, 3))
    (he : wcell g σ' ko = .inr (ci, fs.set f v)) (ho : ∀ j, j ≠ ko → wcell g σ' j = wcell g σ j) (k : WP g lo hi d M (pc + 3) lv st σ' K) : WP g lo hi d M pc lv (v :: .ref (eA g ko) :: st) σ K :=
  fun p e s m args below meth c F H locs ls hP hS h => va_put (D := eD g) (ci := ci) (v := v) (ty := ty) (C := C) (T := T) (N := N) F.1 F.2.1 F.2.2.2.2.2.1 hin ty0 hty hnm F.2.2.2.2.1 F.2.2.2.2.2.2.2.1 hP (wd_D F.2.2.2.2.2.2.2.2.2.2) hS (ko - lo) (by rw [wd_at h1 h2, hc]) hcl f hf (F.2.2.2.2.2.1 _ hw) (fun _ h9 => h9) hfin hdd hn hfit hl hd
    (fun H1 locs1 hP1 _ hS1 => k p e s m args below meth c F H1 locs1 ls (by rw [wd_set h1 h2 he ho] at hP1; exact hP1) hS1 h)
-- arrays
theorem wp_iald {a : Nat} {i : Int32} (h1 : lo ≤ a) (h2 : a < hi) (hd : decode (mC M) pc = .ok (.iaload, 1)) (hin : vp_in i (lenI a)) (k : WP g lo hi d M (pc + 1) lv (.int (sI σ a i.toNatClampNeg) :: st) σ K) : WP g lo hi d M pc lv (.int i :: .ref (eA g a) :: st) σ K :=
  fun p e s m args below meth c F H locs ls hP hS h => va_iald F.1 F.2.1 F.2.2.2.2.2.2.2.1 hP (a - lo) 0 (by rw [wd_at h1 h2, wcell_I (Nat.lt_of_le_of_lt (Nat.zero_le _) (Nat.not_le.mp fun q => hin (Or.inr q)))]) rfl hin hd (k p e s m args below meth c F H locs ls hP hS h)
theorem wp_zald {a : Nat} {i : Int32} (h1 : lo ≤ a) (h2 : a < hi) (hd : decode (mC M) pc = .ok (.baload, 1)) (hin : vp_in i (lenZ a)) (k : WP g lo hi d M (pc + 1) lv (.int (sI σ a i.toNatClampNeg) :: st) σ K) : WP g lo hi d M pc lv (.int i :: .ref (eA g a) :: st) σ K :=
  fun p e s m args below meth c F H locs ls hP hS h => va_zald F.1 F.2.1 F.2.2.2.2.2.2.2.1 hP (a - lo) 2 (by rw [wd_at h1 h2, wcell_Z (Nat.lt_of_le_of_lt (Nat.zero_le _) (Nat.not_le.mp fun q => hin (Or.inr q)))]) rfl hin hd (k p e s m args below meth c F H locs ls hP hS h)
theorem wp_lald {a : Nat} {i : Int32} (h1 : lo ≤ a) (h2 : a < hi) (hd : decode (mC M) pc = .ok (.laload, 1)) (hin : vp_in i (lenJ a)) (k : WP g lo hi d M (pc + 1) lv (.long (sL σ a i.toNatClampNeg) :: st) σ K) : WP g lo hi d M pc lv (.int i :: .ref (eA g a) :: st) σ K :=
  fun p e s m args below meth c F H locs ls hP hS h => va_lald F.1 F.2.1 F.2.2.2.2.2.2.2.1 hP (a - lo) 1 (by rw [wd_at h1 h2, wcell_J (Nat.lt_of_le_of_lt (Nat.zero_le _) (Nat.not_le.mp fun q => hin (Or.inr q)))]) rfl hin hd (k p e s m args below meth c F H locs ls hP hS h)
theorem wp_iast {a : Nat} {i x : Int32} (h1 : lo ≤ a) (h2 : a < hi) (hd : decode (mC M) pc = .ok (.iastore, 1)) (hin : vp_in i (lenI a)) (k : WP g lo hi d M (pc + 1) lv st (uI σ a i.toNatClampNeg x) K) : WP g lo hi d M pc lv (.int x :: .int i :: .ref (eA g a) :: st) σ K :=
  fun p e s m args below meth c F H locs ls hP hS h =>
    have hp : 0 < lenI a := Nat.lt_of_le_of_lt (Nat.zero_le _) (Nat.not_le.mp fun q => hin (Or.inr q))
    va_iast F.1 F.2.1 F.2.2.2.2.2.2.2.1 hP (wd_D F.2.2.2.2.2.2.2.2.2.2) hS (a - lo) 0 (by rw [wd_at h1 h2, wcell_I hp]) rfl hin hd (fun H1 locs1 hP1 _ hS1 => k p e s m args below meth c F H1 locs1 ls (by
      rw [wd_set (σ' := uI σ a i.toNatClampNeg x) h1 h2 (by rw [wcell_I hp]; exact congrArg (fun z => Sum.inl (eC g 0, lenI a, Sum.inl z)) up_eq) (fun j hj => wcell_uI j hj)] at hP1; exact hP1) hS1 h)
theorem wp_zast {a : Nat} {i x : Int32} (h1 : lo ≤ a) (h2 : a < hi) (hd : decode (mC M) pc = .ok (.bastore, 1)) (hin : vp_in i (lenZ a)) (k : WP g lo hi d M (pc + 1) lv st (uI σ a i.toNatClampNeg (vp_nar .boolean x)) K) : WP g lo hi d M pc lv (.int x :: .int i :: .ref (eA g a) :: st) σ K :=
  fun p e s m args below meth c F H locs ls hP hS h =>
    have hp : 0 < lenZ a := Nat.lt_of_le_of_lt (Nat.zero_le _) (Nat.not_le.mp fun q => hin (Or.inr q))
    va_zast F.1 F.2.1 F.2.2.2.2.2.2.2.1 hP (wd_D F.2.2.2.2.2.2.2.2.2.2) hS (a - lo) 2 (by rw [wd_at h1 h2, wcell_Z hp]) rfl hin hd (fun H1 locs1 hP1 _ hS1 => k p e s m args below meth c F H1 locs1 ls (by
      rw [wd_set (σ' := uI σ a i.toNatClampNeg (vp_nar .boolean x)) h1 h2 (by rw [wcell_Z hp]; exact congrArg (fun z => Sum.inl (eC g 2, lenZ a, Sum.inl z)) up_eq) (fun j hj => wcell_uI j hj)] at hP1; exact hP1) hS1 h)
theorem wp_last {a : Nat} {i : Int32} {x : Int64} (h1 : lo ≤ a) (h2 : a < hi) (hd : decode (mC M) pc = .ok (.lastore, 1)) (hin : vp_in i (lenJ a)) (k : WP g lo hi d M (pc + 1) lv st (uL σ a i.toNatClampNeg x) K) : WP g lo hi d M pc lv (.long x :: .int i :: .ref (eA g a) :: st) σ K :=
  fun p e s m args below meth c F H locs ls hP hS h =>
    have hp : 0 < lenJ a := Nat.lt_of_le_of_lt (Nat.zero_le _) (Nat.not_le.mp fun q => hin (Or.inr q))
    va_last F.1 F.2.1 F.2.2.2.2.2.2.2.1 hP (wd_D F.2.2.2.2.2.2.2.2.2.2) hS (a - lo) 1 (by rw [wd_at h1 h2, wcell_J hp]) rfl hin hd (fun H1 locs1 hP1 _ hS1 => k p e s m args below meth c F H1 locs1 ls (by
      rw [wd_set (σ' := uL σ a i.toNatClampNeg x) h1 h2 (by rw [wcell_J hp]; exact congrArg (fun z => Sum.inl (eC g 1, lenJ a, Sum.inr (Sum.inl z))) up_eq) (fun j hj => wcell_uL j hj)] at hP1; exact hP1) hS1 h)
theorem va_aldAr {p : Program} {l : Launch} {e : Env} {R : Room} {s : State} {m : MethodId} {args : Array Value} {below : List Frame} {meth : Method} {c : Code} {H : Heap} {locs : List Loc} {cells slots : Nat} {Q : State → Prop} {cc : ByteArray} {pc : Nat} {ls : Array Slot} {rest : List Value} {D : va_G} {cl : List vw_C} {a : Nat} {tys : List (ClassId × FieldType)} {ws : va_W} (hexec : p.tables.exec = Jvm.exec) (hb : c.code = cc) (hK : va_K D cl tys s) (hP : va_P D cl ws H) (q0 t0 : Nat) {cA : ClassId} {t : FieldType} {n : Nat} {f : Nat → Option Nat} (ha : ws[q0]? = some (a, .inl (cA, n, .inr (.inr (.inr (.inr f)))))) (ht : tys[t0]? = some (cA, .array t)) {i : Int32} (hin : vp_in i n) (hdg : decode cc pc = .ok (.aaload, 1)) {v : Value} (hv : va_rf (f i.toNatClampNeg) = v)
    (kk : W p l e R s m args below meth c H locs cells slots Q (F0 m (pc + 1) ls (v :: rest))) : W p l e R s m args below meth c H locs cells slots Q (F0 m pc ls (.int i :: .ref a :: rest)) := by
  subst hv
  have hlt : i.toNatClampNeg < n := Nat.not_le.mp fun q => hin (Or.inr q)
  exact W.aald (v := va_rf (f i.toNatClampNeg)) (ty := .array t) hexec hb (hP q0 _ ha) ((hK.2 t0 _ ht).1 n (fun j => va_rf (f j))) rfl (fun q => by cases q) (by show ¬ (i < 0 ∨ (arrV _ _ _).slots.size ≤ _); rw [arrV_size]; exact hin) (by show (arrV _ _ _).slots[_]? = _; rw [arrV_read _ _ hlt]) rfl rfl hdg kk
theorem wp_aald {i : Int32} (h1 : lo ≤ 1) (h2 : 1 < hi) (hd : decode (mC M) pc = .ok (.aaload, 1)) (hin : vp_in i 34) (k : WP g lo hi d M (pc + 1) lv (.ref (eA g (11 + i.toNatClampNeg)) :: st) σ K) : WP g lo hi d M pc lv (.int i :: .ref (eA g 1) :: st) σ K :=
  fun p e s m args below meth c F H locs ls hP hS h =>
    have hlt : i.toNatClampNeg < 34 := Nat.not_le.mp fun q => hin (Or.inr q)
    have ha : (wd g lo hi σ)[1 - lo]? = some (eA g 1, .inl (eC g 3, 34, .inr (.inr (.inr (.inr (fun t => if t < 34 then some (eA g (11 + t)) else none)))))) := wd_at h1 h2
    have ev : va_rf (if i.toNatClampNeg < 34 then some (eA g (11 + i.toNatClampNeg)) else none) = .ref (eA g (11 + i.toNatClampNeg)) := by rw [if_pos hlt]; rfl
    va_aldAr (D := eD g) F.1 F.2.1 F.2.2.2.2.2.2.2.1 hP (1 - lo) 3 ha rfl hin hd ev (k p e s m args below meth c F H locs ls hP hS h)
theorem wp_alenJ {a : Nat} (h1 : lo ≤ a) (h2 : a < hi) (hp : 0 < lenJ a) (hd : decode (mC M) pc = .ok (.arraylength, 1)) (k : WP g lo hi d M (pc + 1) lv (.int (nI (lenJ a)) :: st) σ K) : WP g lo hi d M pc lv (.ref (eA g a) :: st) σ K :=
  fun p e s m args below meth c F H locs ls hP hS h => va_alen (x := (lenJ a, .inr (.inl (sL σ a)))) F.1 F.2.1 F.2.2.2.2.2.2.2.1 hP (a - lo) 1 (by rw [wd_at h1 h2, wcell_J hp]) rfl rfl hd (k p e s m args below meth c F H locs ls hP hS h)
theorem wp_alenI {a : Nat} (h1 : lo ≤ a) (h2 : a < hi) (hp : 0 < lenI a) (hd : decode (mC M) pc = .ok (.arraylength, 1)) (k : WP g lo hi d M (pc + 1) lv (.int (nI (lenI a)) :: st) σ K) : WP g lo hi d M pc lv (.ref (eA g a) :: st) σ K :=
  fun p e s m args below meth c F H locs ls hP hS h => va_alen (x := (lenI a, .inl (sI σ a))) F.1 F.2.1 F.2.2.2.2.2.2.2.1 hP (a - lo) 0 (by rw [wd_at h1 h2, wcell_I hp]) rfl rfl hd (k p e s m args below meth c F H locs ls hP hS h)
-- the static arrays
theorem wp_gets0 {idx : Nat} (hw : Cond.fieldLink (mY M).cls idx "DecisionWeb$Bits" "ONE_AT" "[J" ∈ lw_good) (hd : decode (mC M) pc = .ok (.getstatic idx, 3)) (k : WP g lo hi d M (pc + 3) lv (.ref (eS g 0) :: st) σ K) : WP g lo hi d M pc lv st σ K :=
  fun p e s m args below meth c F H locs ls hP hS h => va_gets F.1 F.2.1 F.2.2.2.2.2.2.2.2.1.1 hS F.2.2.2.2.1 (F.2.2.2.2.2.1 _ hw) (fun _ h9 => h9) hd (k p e s m args below meth c F H locs ls hP hS h)
theorem wp_gets1 {idx : Nat} (hw : Cond.fieldLink (mY M).cls idx "DecisionWeb" "MOST_FORKS" "[I" ∈ lw_good) (hd : decode (mC M) pc = .ok (.getstatic idx, 3)) (k : WP g lo hi d M (pc + 3) lv (.ref (eS g 1) :: st) σ K) : WP g lo hi d M pc lv st σ K :=
  fun p e s m args below meth c F H locs ls hP hS h => va_gets F.1 F.2.1 F.2.2.2.2.2.2.2.2.1.2.2.1 hS F.2.2.2.2.1 (F.2.2.2.2.2.1 _ hw) (fun _ h9 => h9) hd (k p e s m args below meth c F H locs ls hP hS h)
theorem wp_tl {i : Int32} (hd : decode (mC M) pc = .ok (.laload, 1)) (hin : vp_in i 6) (k : WP g lo hi d M (pc + 1) lv (.long (fONE i.toNatClampNeg) :: st) σ K) : WP g lo hi d M pc lv (.int i :: .ref (eS g 0) :: st) σ K :=
  fun p e s m args below meth c F H locs ls hP hS h => va_tl F.1 F.2.1 F.2.2.2.2.2.2.2.2.1.2.1 hS hin rfl hd (k p e s m args below meth c F H locs ls hP hS h)
theorem wp_ti {i : Int32} (hd : decode (mC M) pc = .ok (.iaload, 1)) (hin : vp_in i 13) (k : WP g lo hi d M (pc + 1) lv (.int (fMF i.toNatClampNeg) :: st) σ K) : WP g lo hi d M pc lv (.int i :: .ref (eS g 1) :: st) σ K :=
  fun p e s m args below meth c F H locs ls hP hS h => va_ti F.1 F.2.1 F.2.2.2.2.2.2.2.2.1.2.2.2 hS hin rfl hd (k p e s m args below meth c F H locs ls hP hS h)
-- returns
theorem wp_iret {v : Int32} (hr : mR M = some .int) (hd : decode (mC M) pc = .ok (.ireturn, 1)) (k : K (some (.int v)) σ) : WP g lo hi d M pc lv [.int v] σ K :=
  fun p e s m args below meth c F H locs ls hP hS h => W.iret F.1 F.2.1 (F.2.2.1.trans hr) (fun t ht hW => ⟨⟨_, σ, rfl, k, by rw [ht]; exact hP⟩, hS.F ht⟩) hS.2.2 hd F.2.2.2.2.2.2.1
theorem wp_zret {v : Int32} (hr : mR M = some .boolean) (hn : narrow .boolean (.int v) = .int v) (hd : decode (mC M) pc = .ok (.ireturn, 1)) (k : K (some (.int v)) σ) : WP g lo hi d M pc lv [.int v] σ K :=
  fun p e s m args below meth c F H locs ls hP hS h => W.zret F.1 F.2.1 (F.2.2.1.trans hr) hn (fun t ht hW => ⟨⟨_, σ, rfl, k, by rw [ht]; exact hP⟩, hS.F ht⟩) hS.2.2 hd F.2.2.2.2.2.2.1
theorem wp_lret {v : Int64} (hr : mR M = some .long) (hd : decode (mC M) pc = .ok (.lreturn, 1)) (k : K (some (.long v)) σ) : WP g lo hi d M pc lv [.long v] σ K :=
  fun p e s m args below meth c F H locs ls hP hS h => W.lret F.1 F.2.1 (F.2.2.1.trans hr) (fun t ht hW => ⟨⟨_, σ, rfl, k, by rw [ht]; exact hP⟩, hS.F ht⟩) hS.2.2 hd F.2.2.2.2.2.2.1
theorem wp_vret (hr : mR M = none) (hd : decode (mC M) pc = .ok (.return_, 1)) (k : K none σ) : WP g lo hi d M pc lv [] σ K :=
  fun p e s m args below meth c F H locs ls hP hS h => W.vret F.1 F.2.1 (F.2.2.1.trans hr) (fun t ht hW => ⟨⟨_, σ, rfl, k, by rw [ht]; exact hP⟩, hS.F ht⟩) hS.2.2 hd F.2.2.2.2.2.2.1
end MEM

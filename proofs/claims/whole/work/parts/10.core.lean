/-! MY LAYER. A state of the world is pure data (St); its cells have names (numbers), addresses by a map; WP: from this frame and this state the method returns with K; Runs: a call returns with K. -/
/-- int and boolean arrays by name; long arrays by name; int fields by number; the long field; names held by two fields -/
abbrev St : Type := (Nat → Nat → Int32) × (Nat → Nat → Int64) × (Nat → Int32) × Int64 × (Nat → Nat)
def sI (σ : St) : Nat → Nat → Int32 := σ.1
def sL (σ : St) : Nat → Nat → Int64 := σ.2.1
def sV (σ : St) : Nat → Int32 := σ.2.2.1
def sW (σ : St) : Int64 := σ.2.2.2.1
def sR (σ : St) : Nat → Nat := σ.2.2.2.2
def uI (σ : St) (k i : Nat) (x : Int32) : St := (va_up σ.1 k (upd (σ.1 k) i x), σ.2)
def uL (σ : St) (k i : Nat) (x : Int64) : St := (σ.1, va_up σ.2.1 k (vp_updL (σ.2.1 k) i x), σ.2.2)
def uLf (σ : St) (k : Nat) (f : Nat → Int64) : St := (σ.1, va_up σ.2.1 k f, σ.2.2)
def uV (σ : St) (k : Nat) (x : Int32) : St := (σ.1, σ.2.1, va_up σ.2.2.1 k x, σ.2.2.2)
def uW (σ : St) (x : Int64) : St := (σ.1, σ.2.1, σ.2.2.1, x, σ.2.2.2.2)
def uR (σ : St) (k x : Nat) : St := (σ.1, σ.2.1, σ.2.2.1, σ.2.2.2.1, va_up σ.2.2.2.2 k x)
/-- the environment: launch, classes, slots, addresses by name, array classes (0 int, 1 long, 2 boolean, 3 long[][]), the two static arrays' addresses -/
abbrev Ev : Type := Launch × (Nat → ClassId) × (Nat → Nat → Nat) × (Nat → Nat) × (Nat → ClassId) × (Nat → Nat)
abbrev eL (g : Ev) : Launch := g.1
abbrev eD (g : Ev) : va_G := (g.2.1, g.2.2.1)
abbrev eA (g : Ev) : Nat → Nat := g.2.2.2.1
abbrev eC (g : Ev) : Nat → ClassId := g.2.2.2.2.1
abbrev eS (g : Ev) : Nat → Nat := g.2.2.2.2.2
/-- the length of the array of a name: int, long, boolean -/
def lenI (k : Nat) : Nat := if k = 2 ∨ k = 3 ∨ k = 7 ∨ k = 49 ∨ k = 50 ∨ k = 51 ∨ k = 54 then 12 else if k = 4 ∨ k = 5 ∨ k = 8 ∨ k = 9 then 8192 else if k = 10 then 16384 else if k = 52 ∨ k = 53 ∨ k = 55 ∨ k = 56 ∨ k = 57 ∨ k = 58 then 131072 else 0
def lenJ (k : Nat) : Nat := if 11 ≤ k ∧ k < 45 then 64 else 0
def lenZ (k : Nat) : Nat := if k = 46 then 131072 else if k = 47 ∨ k = 48 then 4096 else 0
def wcell (g : Ev) (σ : St) (k : Nat) : va_E :=
  if k = 0 then .inr (1, [.ref (eA g 1), .ref (eA g 2), .ref (eA g 3), .ref (eA g 4), .ref (eA g 5), .ref (eA g 6), .int (sV σ 0), .int (sV σ 1), .int (sV σ 2), .long (sW σ), .int (sV σ 3), .int (sV σ 4), .int (sV σ 5)])
  else if k = 6 then .inr (0, [.ref (eA g 7), .ref (eA g (sR σ 0)), .ref (eA g (sR σ 1)), .int (sV σ 6), .ref (eA g 10), .int (sV σ 7)])
  else if k = 45 then .inr (2, [.int (sV σ 8), .int (sV σ 9), .int (sV σ 10), .ref (eA g 46), .ref (eA g 47), .ref (eA g 48), .ref (eA g 49), .ref (eA g 50), .ref (eA g 51), .ref (eA g 52), .ref (eA g 53), .ref (eA g 54), .ref (eA g 55), .ref (eA g 56), .ref (eA g 57), .ref (eA g 58), .int (sV σ 11), .int (sV σ 12)])
  else if k = 1 then .inl (eC g 3, 34, .inr (.inr (.inr (.inr (fun t => if t < 34 then some (eA g (11 + t)) else none)))))
  else if 11 ≤ k ∧ k < 45 then .inl (eC g 1, 64, .inr (.inl (sL σ k)))
  else if k = 46 ∨ k = 47 ∨ k = 48 then .inl (eC g 2, lenZ k, .inl (sI σ k))
  else .inl (eC g 0, lenI k, .inl (sI σ k))
def wd (g : Ev) (lo hi : Nat) (σ : St) : va_W := (List.range (hi - lo)).map (fun j => (eA g (lo + j), wcell g σ (lo + j)))
def wA (g : Ev) (lo hi : Nat) : Nat → Prop := fun q => ∃ k, lo ≤ k ∧ k < hi ∧ q = eA g k
def wInj (g : Ev) (lo hi : Nat) : Prop := ∀ i j, lo ≤ i → i < hi → lo ≤ j → j < hi → eA g i = eA g j → i = j
abbrev wTy (g : Ev) : List (ClassId × FieldType) := [(eC g 0, .int), (eC g 1, .long), (eC g 2, .boolean), (eC g 3, .array .long)]
theorem wd_at {g : Ev} {lo hi : Nat} {σ : St} {k : Nat} (h1 : lo ≤ k) (h2 : k < hi) : (wd g lo hi σ)[k - lo]? = some (eA g k, wcell g σ k) := by
  unfold wd
  rw [List.getElem?_map, List.getElem?_range (by omega)]
  simp only [Option.map_some, Nat.add_sub_cancel' h1]
theorem wd_get {g : Ev} {lo hi : Nat} {σ : St} {p : Nat} {q : Nat × va_E} (h : (wd g lo hi σ)[p]? = some q) : lo + p < hi ∧ q = (eA g (lo + p), wcell g σ (lo + p)) := by
  unfold wd at h
  rw [List.getElem?_map] at h
  by_cases hp : p < hi - lo
  · rw [List.getElem?_range hp] at h
    exact ⟨by omega, (Option.some.inj h).symm⟩
  · rw [List.getElem?_eq_none (by rw [List.length_range]; omega)] at h
    cases h
theorem wd_D {g : Ev} {lo hi : Nat} {σ : St} (h : wInj g lo hi) : va_D (wA g lo hi) (wd g lo hi σ) := by
  refine ⟨fun i j p q hp hq e => ?_, fun k q hq => ?_⟩
  · obtain ⟨h1, rfl⟩ := wd_get hp
    obtain ⟨h2, rfl⟩ := wd_get hq
    have := h _ _ (Nat.le_add_right lo i) h1 (Nat.le_add_right lo j) h2 e
    omega
  · obtain ⟨h1, rfl⟩ := wd_get hq
    exact ⟨lo + k, Nat.le_add_right _ _, h1, rfl⟩
theorem wd_set {g : Ev} {lo hi : Nat} {σ σ' : St} {k : Nat} {e : va_E} (h1 : lo ≤ k) (h2 : k < hi) (he : wcell g σ' k = e) (ho : ∀ j, j ≠ k → wcell g σ' j = wcell g σ j) : (wd g lo hi σ).set (k - lo) (eA g k, e) = wd g lo hi σ' := by
  apply List.ext_getElem?
  intro i
  rw [List.getElem?_set]
  by_cases hi' : k - lo = i
  · subst hi'
    rw [if_pos rfl, wd_at h1 h2, he, if_pos (by unfold wd; rw [List.length_map, List.length_range]; omega)]
  · rw [if_neg hi']
    unfold wd
    rw [List.getElem?_map, List.getElem?_map]
    by_cases hp : i < hi - lo
    · rw [List.getElem?_range hp]
      simp only [Option.map_some, ho (lo + i) (by omega)]
    · rw [List.getElem?_eq_none (by rw [List.length_range]; omega)]
      rfl
-- cells by kind
theorem lenI_pos {k : Nat} (h : 0 < lenI k) : ¬ k = 0 ∧ ¬ k = 6 ∧ ¬ k = 45 ∧ ¬ k = 1 ∧ ¬ (11 ≤ k ∧ k < 45) ∧ ¬ (k = 46 ∨ k = 47 ∨ k = 48) := by
  by_cases h1 : k = 2 ∨ k = 3 ∨ k = 7 ∨ k = 49 ∨ k = 50 ∨ k = 51 ∨ k = 54
  · omega
  by_cases h2 : k = 4 ∨ k = 5 ∨ k = 8 ∨ k = 9
  · omega
  by_cases h3 : k = 10
  · omega
  by_cases h4 : k = 52 ∨ k = 53 ∨ k = 55 ∨ k = 56 ∨ k = 57 ∨ k = 58
  · omega
  unfold lenI at h
  rw [if_neg h1, if_neg h2, if_neg h3, if_neg h4] at h
  omega
theorem wcell_I {g : Ev} {σ : St} {k : Nat} (h : 0 < lenI k) : wcell g σ k = .inl (eC g 0, lenI k, .inl (sI σ k)) := by
  obtain ⟨a, b, c, d, e, f⟩ := lenI_pos h
  unfold wcell
  rw [if_neg a, if_neg b, if_neg c, if_neg d, if_neg e, if_neg f]
theorem lenJ_pos {k : Nat} (h : 0 < lenJ k) : 11 ≤ k ∧ k < 45 := by
  unfold lenJ at h
  split at h
  · assumption
  · omega
theorem wcell_J {g : Ev} {σ : St} {k : Nat} (h : 0 < lenJ k) : wcell g σ k = .inl (eC g 1, lenJ k, .inr (.inl (sL σ k))) := by
  have e := lenJ_pos h
  unfold wcell lenJ
  rw [if_neg (by omega), if_neg (by omega), if_neg (by omega), if_neg (by omega), if_pos e, if_pos e]
theorem lenZ_pos {k : Nat} (h : 0 < lenZ k) : k = 46 ∨ k = 47 ∨ k = 48 := by
  unfold lenZ at h
  split at h
  · left; assumption
  · split at h
    · right; assumption
    · omega
theorem wcell_Z {g : Ev} {σ : St} {k : Nat} (h : 0 < lenZ k) : wcell g σ k = .inl (eC g 2, lenZ k, .inl (sI σ k)) := by
  have e := lenZ_pos h
  unfold wcell
  rw [if_neg (by omega), if_neg (by omega), if_neg (by omega), if_neg (by omega), if_neg (by omega), if_pos e]
theorem up_ne {α : Type} {f : Nat → α} {k j : Nat} {v : α} (h : j ≠ k) : va_up f k v j = f j := if_neg h
theorem up_eq {α : Type} {f : Nat → α} {k : Nat} {v : α} : va_up f k v k = v := if_pos rfl
theorem wcell_uI {g : Ev} {σ : St} {k i : Nat} {x : Int32} (j : Nat) (h : j ≠ k) : wcell g (uI σ k i x) j = wcell g σ j := by
  have e : sI (uI σ k i x) j = sI σ j := up_ne h
  have e2 : sV (uI σ k i x) = sV σ := rfl
  have e3 : sW (uI σ k i x) = sW σ := rfl
  have e4 : sL (uI σ k i x) = sL σ := rfl
  have e5 : sR (uI σ k i x) = sR σ := rfl
  unfold wcell
  rw [e, e2, e3, e4, e5]
theorem wcell_uL {g : Ev} {σ : St} {k : Nat} {f : Nat → Int64} (j : Nat) (h : j ≠ k) : wcell g (uLf σ k f) j = wcell g σ j := by
  have e : sL (uLf σ k f) j = sL σ j := up_ne h
  have e2 : sV (uLf σ k f) = sV σ := rfl
  have e3 : sW (uLf σ k f) = sW σ := rfl
  have e4 : sI (uLf σ k f) = sI σ := rfl
  have e5 : sR (uLf σ k f) = sR σ := rfl
  unfold wcell
  rw [e, e2, e3, e4, e5]
-- words: the good ones, those of nest mates
def lw_good : List Cond := lw_tbl.filter goodWord
def isNest : Cond → Bool
  | .methodLinkNest .. => true
  | .fieldLinkNest .. => true
  | _ => false
def lw_nest : List Cond := lw_tbl.filter isNest
theorem lw_gmem {w : Cond} (i : Nat) (h : lw_tbl[i]? = some w) (hg : goodWord w = true) : w ∈ lw_good := List.mem_filter.mpr ⟨List.mem_of_getElem? h, hg⟩
theorem lw_nmem {w : Cond} (i : Nat) (h : lw_tbl[i]? = some w) (hg : isNest w = true) : w ∈ lw_nest := List.mem_filter.mpr ⟨List.mem_of_getElem? h, hg⟩
theorem lw_goodIn {w : Cond} (h : w ∈ lw_good) : GoodIn lw_good (w :: lw_good) := fun v hv => by
  have : v ∈ lw_good := by
    rcases List.mem_cons.mp hv with rfl | h1
    · exact h
    · exact h1
  exact ⟨this, good_of_word (List.mem_filter.mp this).2⟩
/-- a method: name, code, locals, answer -/
abbrev Mt : Type := MethodName × ByteArray × Nat × Option FieldType
abbrev mY (M : Mt) : MethodName := M.1
abbrev mC (M : Mt) : ByteArray := M.2.1
abbrev mN (M : Mt) : Nat := M.2.2.1
abbrev mR (M : Mt) : Option FieldType := M.2.2.2
abbrev mW (M : Mt) : Cond := .code (mY M) (mC M) (mN M) (mR M)
abbrev rmD (d : Nat) : Room := { frames := d, cells := 0, slots := 0, locals := 40 * d }
/-- what the two static arrays hold -/
def fONE (j : Nat) : Int64 := match j with
  | 0 => -6148914691236517206
  | 1 => -3689348814741910324
  | 2 => -1085102592571150096
  | 3 => -71777214294589696
  | 4 => -281470681808896
  | _ => -4294967296
def fMF (j : Nat) : Int32 := match j with
  | 0 => 0 | 1 => 2 | 2 => 14 | 3 => 46 | 4 => 110 | 5 => 238 | 6 => 478 | 7 => 734 | 8 => 1246 | 9 => 2270 | 10 => 4318 | 11 => 8414 | _ => 16606
def wSt (g : Ev) (A : Nat → Prop) (U : State) : Prop :=
  va_Z "DecisionWeb$Bits" "ONE_AT" "[J" (.ref (eS g 0)) A U U.heap ∧ va_T .long (eS g 0) 6 (fun j => .long (fONE j)) A U U.heap ∧ va_Z "DecisionWeb" "MOST_FORKS" "[I" (.ref (eS g 1)) A U U.heap ∧ va_T .int (eS g 1) 13 (fun j => .int (fMF j)) A U U.heap
def wNs (U : State) : Prop := ∀ w ∈ lw_nest, va_Nw w U
/-- the world at a state -/
def wU (g : Ev) (lo hi : Nat) (σ : St) (U : State) : Prop :=
  va_P (eD g) vwCl (wd g lo hi σ) U.heap ∧ va_K (eD g) vwCl (wTy g) U ∧ wSt g (wA g lo hi) U ∧ wNs U ∧ wInj g lo hi
def wQ (g : Ev) (lo hi : Nat) (K : Option Value → St → Prop) : Array Value → State → Outcome → State → Prop := fun _ st oc t =>
  (∃ (r : Option Value) (σ : St), oc = .returned r ∧ K r σ ∧ va_P (eD g) vwCl (wd g lo hi σ) t.heap) ∧ va_F (wA g lo hi) st t
def Runs (g : Ev) (lo hi d : Nat) (M : Mt) (As : List Value) (σ : St) (K : Option Value → St → Prop) : Prop :=
  Met (eL g) (mY M) (mW M :: lw_good) (rmD d) (va_Pc As (wU g lo hi σ)) (wQ g lo hi K) 0 0 (wA g lo hi)
/-- the frame's facts -/
def wFr (g : Ev) (lo hi : Nat) (M : Mt) (p : Program) (s : State) (m : MethodId) (args : Array Value) (meth : Method) (c : Code) : Prop :=
  p.tables.exec = Jvm.exec ∧ c.code = mC M ∧ meth.sig.returnType = mR M ∧ c.maxLocals = mN M ∧ s.vm.findClass (mY M).cls = some m.cls ∧ (∀ w ∈ lw_good, w.before args s = true) ∧ meth.locks = false ∧ va_K (eD g) vwCl (wTy g) s ∧ wSt g (wA g lo hi) s ∧ wNs s ∧ wInj g lo hi
def WP (g : Ev) (lo hi d : Nat) (M : Mt) (pc : Nat) (lv : List (Nat × Value)) (st : List Value) (σ : St) (K : Option Value → St → Prop) : Prop :=
  ∀ (p : Program) (e : Env) (s : State) (m : MethodId) (args : Array Value) (below : List Frame) (meth : Method) (c : Code), wFr g lo hi M p s m args meth c →
    ∀ (H : Heap) (locs : List Loc) (ls : Array Slot), va_P (eD g) vwCl (wd g lo hi σ) H → va_S (wA g lo hi) s.heap H locs → lv_has ls (mN M) lv →
      W p (eL g) e (rmD d) s m args below meth c H locs 0 0 (MQ below (wQ g lo hi K) args s 0 0 (wA g lo hi)) (F0 m pc ls st)
theorem wNs_warm {s U : State} (hW : s.WarmedH U.vm) (h : wNs s) : wNs U := by
  intro w hw
  have h0 := h w hw
  have hn := (List.mem_filter.mp hw).2
  cases w <;> first | (cases hn; done) | exact va_Nw.warmM hW h0 | exact va_Nw.warmF hW h0
theorem wNs_same {s U : State} (hv : s.vm = U.vm) (h : wNs s) : wNs U := by
  intro w hw
  have h0 := h w hw
  have hn := (List.mem_filter.mp hw).2
  cases w <;> first | (cases hn; done) | exact va_Nw.same rfl hv h0
theorem wSt_moved {g : Ev} {A : Nat → Prop} {s U : State} {H : Heap} {locs : List Loc} (h : wSt g A s) (hvm : s.vm.Alike U.vm) (hS : va_S A s.heap H locs) (hH : U.heap = H) : wSt g A U := by
  have hq : ∀ a : Nat, a < s.heap.size → ¬ A a → U.heap[a]? = s.heap[a]? := fun a h1 h2 => by rw [hH]; exact hS.2.1 a h1 h2
  exact ⟨(h.1.kept hq).moved hvm, (h.2.1.kept hq).moved hvm, (h.2.2.1.kept hq).moved hvm, (h.2.2.2.kept hq).moved hvm⟩
theorem wU_blind {g : Ev} {lo hi : Nat} {σ : St} {As : List Value} : FrameBlind (va_Pc As (wU g lo hi σ)) := by
  intro a U gf mk h
  obtain ⟨h0, h1, h2, h3, h4, h5⟩ := h
  refine ⟨h0, h1, va_K.moved (u := U) (U := U.calling gf mk a) (Vm.Alike.refl U.vm) h2, ?_, wNs_same (s := U) (U := U.calling gf mk a) rfl h4, h5⟩
  exact wSt_moved (H := U.heap) (locs := []) h3 (Vm.Alike.refl U.vm) va_S.rf rfl
theorem Runs.mono {g : Ev} {lo hi d : Nat} {M : Mt} {As : List Value} {σ : St} {K K' : Option Value → St → Prop} (h : Runs g lo hi d M As σ K) (hk : ∀ r σ', K r σ' → K' r σ') : Runs g lo hi d M As σ K' := by
  intro p e ha hc hkk s m args below hf happ hP hT
  obtain ⟨t, o, h1, h2, h3, ⟨⟨⟨r, σ', e1, e2, e3⟩, e4⟩, e5⟩⟩ := h p e ha hc hkk s m args below hf happ hP hT
  exact ⟨t, o, h1, h2, h3, ⟨⟨⟨r, σ', e1, hk _ _ e2, e3⟩, e4⟩, e5⟩⟩
theorem Runs.of {g : Ev} {lo hi d : Nat} {M : Mt} {As : List Value} {σ : St} {K : Option Value → St → Prop} (hy : plainName (mY M).cls = true) (hn : (lg_sl As).length ≤ mN M) (h : WP g lo hi d M 0 (lv_args 0 As) [] σ K) : Runs g lo hi d M As σ K := by
  refine Met.ofW (cc := mC M) (maxL := mN M) (ret := mR M) hy rfl ?_
  intro p e s m args below meth c s₁ B hml hv
  obtain ⟨rfl, hP, hK, hSt, hNs, hI⟩ := hv
  have hts := atoms_spec (ws := mW M :: lw_good) B.pre
  have hl := lv_entry As (n := mN M) hn
  rw [lg_entry_eq]
  exact h p e s m _ below meth c ⟨B.exec, B.bytes, B.returns, hml, findClass_of_methodNamed B.named, fun w hw => hts w (List.mem_cons_of_mem _ hw), B.notSynchronized, hK, hSt, hNs, hI⟩ s.heap [] _ hP va_S.rf hl
theorem WP.mono {g : Ev} {lo hi d : Nat} {M : Mt} {pc : Nat} {lv : List (Nat × Value)} {st : List Value} {σ : St} {K K' : Option Value → St → Prop} (h : WP g lo hi d M pc lv st σ K) (hk : ∀ r σ', K r σ' → K' r σ') : WP g lo hi d M pc lv st σ K' := by
  intro p e s m args below meth c F H locs ls hP hS hl T hT X
  obtain ⟨t, h1, o, h2, h3, ⟨⟨r, σ', e1, e2, e3⟩, e4⟩, e5⟩ := h p e s m args below meth c F H locs ls hP hS hl T hT X
  exact ⟨t, h1, o, h2, h3, ⟨⟨r, σ', e1, hk _ _ e2, e3⟩, e4⟩, e5⟩

theorem jb {t s : Nat} (ht : t < 2 ^ 31) (hs : s < 32) : (jshr (nI t) (nI s) &&& nI 1 = nI 1) ↔ t.testBit s = true := by
  rw [bit_and1 ht hs]
  cases t.testBit s <;> decide
theorem jb0 {t s : Nat} (ht : t < 2 ^ 31) (hs : s < 32) : (jshr (nI t) (nI s) &&& nI 1 = nI 0) ↔ t.testBit s = false := by
  rw [bit_and1 ht hs]
  cases t.testBit s <;> decide
theorem bI_n0 {b : Bool} (h : ¬ bI b = nI 0) : b = true := by cases b <;> first | rfl | exact absurd rfl h
section MOD5
variable {g : Ev} {d : Nat} {σ : St} {K : Option Value → St → Prop} {N cap q : Nat} {T : Nat → Nat → Bool} {o oi c : Nat → Nat} {P : Nat → Bool}
theorem m_with {x v : Nat} {one : Bool} (hv : v < 31) (h : K (some (.int (nI (sbt x v one)))) σ) : Runs g 45 59 (d + 1) M_X3_with [.int (nI x), .int (nI v), .int (bI one)] σ K := by
  refine E_X3_with g d _ _ _ σ K ?_
  rw [jshl1 hv, nI_andn, nI_or]
  cases one
  · exact ⟨fun _ => h, fun e => absurd rfl e⟩
  · exact ⟨fun e => absurd e (by decide), fun _ => h⟩
theorem M_letter {x1 x2 : Int32} (hI : InvM σ N cap T o oi c P q) (hq : q < 2 ^ 30) (hbad : ¬ (isR x1 ∧ isIn N x2) → K (some (.int (-2))) σ) (hok : ∀ j v, j < 32 → v < N → x1 = nI j → x2 = nI v → KM N cap T o oi c P q j (fun x => x.testBit v) K) : Runs g 45 59 (d + 4) M_X3_letter [.ref (eA g 45), .int x1, .int x2] σ K := by
  obtain ⟨hB, hT, hP, hS⟩ := id hI
  obtain ⟨hN, hcap, h8, h9, h10, hp, ho, hc⟩ := id hB
  have hpw := pwN hN.1 hN.2
  refine E_X3_letter g (d + 3) _ _ σ K (m_isReg (d := d + 2) (fun j hj e1 => ⟨_, rfl, fun q => absurd q n10, fun _ => m_isLetter (d := d + 2) hN.2 h8 (fun v hv e2 => ⟨_, rfl, fun _ => ?_, fun q => absurd q n10⟩) (fun hn => ⟨_, rfl, fun q => absurd rfl q, fun _ => hbad (fun q => hn q.2)⟩)⟩) (fun hn => ⟨_, rfl, fun _ => hbad (fun q => hn q.1), fun q => absurd rfl q⟩))
  subst e1 e2
  replace hok := hok j v hj hv rfl rfl
  generalize hH : ((fun x => x.testBit v) : Nat → Bool) = H at hok
  refine fillA (z := 47) (n := 2 ^ N) (h := H) (lv := fun x => [(0, .ref (eA g 45)), (1, .int (nI j)), (2, .int (nI v)), (3, .int (x))]) (fun x f hx hf nx => ?_) (fun f hf => ?_)
  · have hHx := congrFun hH x
    have lf : ∀ vv : Bool, vv = H x → vp_in (nI x) (lenZ 47) ∧ WP g 45 59 (d + 4) M_X3_letter 21 [(0, .ref (eA g 45)), (1, .int (nI j)), (2, .int (nI v)), (3, .int (nI x + nI 1))] [] (uI (uIf σ 47 f) 47 (nI x).toNatClampNeg (vp_nar .boolean (bI vv))) K := fun vv hvv => by
      rw [vp_iff (by omega), nI_clamp (by omega), nI_1', uI_uIf, bI_vp, hvv]
      exact ⟨by show x < 4096; omega, nx⟩
    have hT' : ∀ r y, r < 32 → y < 2 ^ N → sI (uIf σ 47 f) 46 (4096 * r + y) = bI (T r y) := fun r y hr hy => by
      rw [sI_uIfn (by decide)]; exact hT r y hr hy
    refine R_X3_letter_21 g (d + 3) _ _ _ _ _ ⟨fun c => absurd c (ge9 hN h9 hx), fun _ => ?_⟩
    rw [jb (by omega) (by omega)]
    exact ⟨fun e => lf false (by rw [← hHx]; exact (eq_false_of_ne_true e).symm), fun e => lf true (by rw [← hHx]; exact e.symm)⟩
  · exact R_X3_letter_21 g (d + 3) _ _ _ _ _ ⟨fun _ => m_puts (d := d) hI hq hj hf hok, fun c => absurd (le9 hN h9) c⟩
theorem M_join {x1 x2 x3 x4 : Int32} (hI : InvM σ N cap T o oi c P q) (hq : q < 2 ^ 30) (hbad : ¬ (isR x1 ∧ isR x2 ∧ isR x3 ∧ isIn 16 x4) → K (some (.int (-2))) σ) (hok : ∀ j a b t, j < 32 → a < 32 → b < 32 → t < 16 → x1 = nI j → x2 = nI a → x3 = nI b → x4 = nI t → KM N cap T o oi c P q j (fun x => t.testBit ((if T a x then 1 else 0) + (if T b x then 2 else 0))) K) : Runs g 45 59 (d + 4) M_X3_join [.ref (eA g 45), .int x1, .int x2, .int x3, .int x4] σ K := by
  obtain ⟨hB, hT, hP, hS⟩ := id hI
  obtain ⟨hN, hcap, h8, h9, h10, hp, ho, hc⟩ := id hB
  have hpw := pwN hN.1 hN.2
  refine E_X3_join g (d + 3) _ _ _ _ σ K (m_isReg (d := d + 2) (fun j hj e1 => ⟨_, rfl, fun q => absurd q n10, fun _ => m_isReg (d := d + 2) (fun a ha e2 => ⟨_, rfl, fun q => absurd q n10, fun _ => m_isReg (d := d + 2) (fun b hb e3 => ⟨_, rfl, fun q => absurd q n10, fun _ => ?_⟩) (fun hn => ⟨_, rfl, fun _ => hbad (fun q => hn q.2.2.1), fun q => absurd rfl q⟩)⟩) (fun hn => ⟨_, rfl, fun _ => hbad (fun q => hn q.2.1), fun q => absurd rfl q⟩)⟩) (fun hn => ⟨_, rfl, fun _ => hbad (fun q => hn q.1), fun q => absurd rfl q⟩))
  subst e1 e2 e3
  suffices hs : ∀ t, t < 16 → x4 = nI t → WP g 45 59 (d + 4) M_X3_join 42 [(0, .ref (eA g 45)), (1, .int (nI j)), (2, .int (nI a)), (3, .int (nI b)), (4, .int x4), (5, .int (nI 0))] [] σ K by
    rcases nI_cases x4 (show 16 < 2 ^ 31 by omega) with ⟨t, ht, e⟩ | hx
    · refine ⟨fun q => absurd q (by rw [e]; exact nI_pos (by omega)), fun _ => ⟨fun _ => hs t ht e, fun q => absurd ?_ q⟩⟩
      rw [e]; exact nI_le (by omega) (by omega)
    · have hn : ¬ isIn 16 x4 := fun ⟨t, ht, e⟩ => hx (by rw [e]; exact nI_rng ht (by omega))
      refine ⟨fun _ => hbad (fun q => hn q.2.2.2), fun q => ⟨fun q2 => absurd ⟨Int32.not_lt.mp q, ?_⟩ hx, fun _ => hbad (fun q => hn q.2.2.2)⟩⟩
      have : (nI 15 : Int32) < nI 16 := by decide
      exact Int32.lt_of_le_of_lt q2 this
  intro t ht e4
  subst e4
  replace hok := hok j a b t hj ha hb ht rfl rfl rfl rfl
  generalize hH : ((fun x => t.testBit ((if T a x then 1 else 0) + (if T b x then 2 else 0))) : Nat → Bool) = H at hok
  refine fillA (z := 47) (n := 2 ^ N) (h := H) (lv := fun x => [(0, .ref (eA g 45)), (1, .int (nI j)), (2, .int (nI a)), (3, .int (nI b)), (4, .int (nI t)), (5, .int (x))]) (fun x f hx hf nx => ?_) (fun f hf => ?_)
  · have hHx := congrFun hH x
    have lf : ∀ vv : Bool, vv = H x → vp_in (nI x) (lenZ 47) ∧ WP g 45 59 (d + 4) M_X3_join 42 [(0, .ref (eA g 45)), (1, .int (nI j)), (2, .int (nI a)), (3, .int (nI b)), (4, .int (nI t)), (5, .int (nI x + nI 1))] [] (uI (uIf σ 47 f) 47 (nI x).toNatClampNeg (vp_nar .boolean (bI vv))) K := fun vv hvv => by
      rw [vp_iff (by omega), nI_clamp (by omega), nI_1', uI_uIf, bI_vp, hvv]
      exact ⟨by show x < 4096; omega, nx⟩
    have hT' : ∀ r y, r < 32 → y < 2 ^ N → sI (uIf σ 47 f) 46 (4096 * r + y) = bI (T r y) := fun r y hr hy => by
      rw [sI_uIfn (by decide)]; exact hT r y hr hy
    refine R_X3_join_42 g (d + 3) _ _ _ _ _ _ _ ⟨fun c => absurd c (ge9 hN h9 hx), fun _ => ?_⟩
    refine m_getv (d := d + 2) (v := T a x) ha (by omega) (hT' a x ha hx) ⟨_, rfl, fun ea => m_getv (d := d + 2) (v := T b x) hb (by omega) (hT' b x hb hx) ⟨_, rfl, fun eb => by
      have e : H x = t.testBit 0 := by rw [← hHx]; show t.testBit ((if T a x then 1 else 0) + (if T b x then 2 else 0)) = _; rw [bI_0.mp ea, bI_0.mp eb]; rfl
      rw [nI_add, jb (by omega) (by omega)]
      exact ⟨fun q => lf false (by rw [e]; exact (eq_false_of_ne_true q).symm), fun q => lf true (by rw [e]; exact q.symm)⟩, fun eb => by
      have e : H x = t.testBit 2 := by rw [← hHx]; show t.testBit ((if T a x then 1 else 0) + (if T b x then 2 else 0)) = _; rw [bI_0.mp ea, bI_n0 eb]; rfl
      rw [nI_add, jb (by omega) (by omega)]
      exact ⟨fun q => lf false (by rw [e]; exact (eq_false_of_ne_true q).symm), fun q => lf true (by rw [e]; exact q.symm)⟩⟩, fun ea => m_getv (d := d + 2) (v := T b x) hb (by omega) (hT' b x hb hx) ⟨_, rfl, fun eb => by
      have e : H x = t.testBit 1 := by rw [← hHx]; show t.testBit ((if T a x then 1 else 0) + (if T b x then 2 else 0)) = _; rw [bI_n0 ea, bI_0.mp eb]; rfl
      rw [nI_add, jb (by omega) (by omega)]
      exact ⟨fun q => lf false (by rw [e]; exact (eq_false_of_ne_true q).symm), fun q => lf true (by rw [e]; exact q.symm)⟩, fun eb => by
      have e : H x = t.testBit 3 := by rw [← hHx]; show t.testBit ((if T a x then 1 else 0) + (if T b x then 2 else 0)) = _; rw [bI_n0 ea, bI_n0 eb]; rfl
      rw [nI_add, jb (by omega) (by omega)]
      exact ⟨fun q => lf false (by rw [e]; exact (eq_false_of_ne_true q).symm), fun q => lf true (by rw [e]; exact q.symm)⟩⟩⟩
  · exact R_X3_join_42 g (d + 3) _ _ _ _ _ _ _ ⟨fun _ => m_puts (d := d) hI hq hj hf hok, fun c => absurd (le9 hN h9) c⟩
theorem M_fork {x1 x2 x3 x4 : Int32} (hI : InvM σ N cap T o oi c P q) (hq : q < 2 ^ 30) (hbad : ¬ (isR x1 ∧ isR x2 ∧ isR x3 ∧ isR x4) → K (some (.int (-2))) σ) (hok : ∀ j a b e, j < 32 → a < 32 → b < 32 → e < 32 → x1 = nI j → x2 = nI a → x3 = nI b → x4 = nI e → KM N cap T o oi c P q j (fun x => if T a x then T b x else T e x) K) : Runs g 45 59 (d + 4) M_X3_fork [.ref (eA g 45), .int x1, .int x2, .int x3, .int x4] σ K := by
  obtain ⟨hB, hT, hP, hS⟩ := id hI
  obtain ⟨hN, hcap, h8, h9, h10, hp, ho, hc⟩ := id hB
  have hpw := pwN hN.1 hN.2
  refine E_X3_fork g (d + 3) _ _ _ _ σ K (m_isReg (d := d + 2) (fun j hj e1 => ⟨_, rfl, fun q => absurd q n10, fun _ => m_isReg (d := d + 2) (fun a ha e2 => ⟨_, rfl, fun q => absurd q n10, fun _ => m_isReg (d := d + 2) (fun b hb e3 => ⟨_, rfl, fun q => absurd q n10, fun _ => m_isReg (d := d + 2) (fun e he e4 => ⟨_, rfl, fun _ => ?_, fun q => absurd q n10⟩) (fun hn => ⟨_, rfl, fun q => absurd rfl q, fun _ => hbad (fun q => hn q.2.2.2)⟩)⟩) (fun hn => ⟨_, rfl, fun _ => hbad (fun q => hn q.2.2.1), fun q => absurd rfl q⟩)⟩) (fun hn => ⟨_, rfl, fun _ => hbad (fun q => hn q.2.1), fun q => absurd rfl q⟩)⟩) (fun hn => ⟨_, rfl, fun _ => hbad (fun q => hn q.1), fun q => absurd rfl q⟩))
  subst e1 e2 e3 e4
  replace hok := hok j a b e hj ha hb he rfl rfl rfl rfl
  generalize hH : ((fun x => if T a x then T b x else T e x) : Nat → Bool) = H at hok
  refine fillA (z := 47) (n := 2 ^ N) (h := H) (lv := fun x => [(0, .ref (eA g 45)), (1, .int (nI j)), (2, .int (nI a)), (3, .int (nI b)), (4, .int (nI e)), (5, .int (x))]) (fun x f hx hf nx => ?_) (fun f hf => ?_)
  · have hHx := congrFun hH x
    have lf : ∀ vv : Bool, vv = H x → vp_in (nI x) (lenZ 47) ∧ WP g 45 59 (d + 4) M_X3_fork 39 [(0, .ref (eA g 45)), (1, .int (nI j)), (2, .int (nI a)), (3, .int (nI b)), (4, .int (nI e)), (5, .int (nI x + nI 1))] [] (uI (uIf σ 47 f) 47 (nI x).toNatClampNeg (vp_nar .boolean (bI vv))) K := fun vv hvv => by
      rw [vp_iff (by omega), nI_clamp (by omega), nI_1', uI_uIf, bI_vp, hvv]
      exact ⟨by show x < 4096; omega, nx⟩
    have hT' : ∀ r y, r < 32 → y < 2 ^ N → sI (uIf σ 47 f) 46 (4096 * r + y) = bI (T r y) := fun r y hr hy => by
      rw [sI_uIfn (by decide)]; exact hT r y hr hy
    refine R_X3_fork_39 g (d + 3) _ _ _ _ _ _ _ ⟨fun c => absurd c (ge9 hN h9 hx), fun _ => ?_⟩
    refine m_getv (d := d + 2) (v := T a x) ha (by omega) (hT' a x ha hx) ⟨_, rfl, fun ea => m_getv (d := d + 2) (v := T e x) he (by omega) (hT' e x he hx) ⟨_, rfl, lf _ ?_⟩, fun ea => m_getv (d := d + 2) (v := T b x) hb (by omega) (hT' b x hb hx) ⟨_, rfl, lf _ ?_⟩⟩
    · rw [← hHx]; show _ = if T a x then T b x else T e x; rw [bI_0.mp ea]; rfl
    · rw [← hHx]; show _ = if T a x then T b x else T e x; rw [bI_n0 ea]; rfl
  · exact R_X3_fork_39 g (d + 3) _ _ _ _ _ _ _ ⟨fun _ => m_puts (d := d) hI hq hj hf hok, fun c => absurd (le9 hN h9) c⟩
theorem M_fix {x1 x2 x3 : Int32} {one : Bool} (hI : InvM σ N cap T o oi c P q) (hq : q < 2 ^ 30) (hbad : ¬ (isR x1 ∧ isR x2 ∧ isIn N x3) → K (some (.int (-2))) σ) (hok : ∀ j a v, j < 32 → a < 32 → v < N → x1 = nI j → x2 = nI a → x3 = nI v → KM N cap T o oi c P q j (fun x => T a (sbt x v one)) K) : Runs g 45 59 (d + 4) M_X3_fix [.ref (eA g 45), .int x1, .int x2, .int x3, .int (bI one)] σ K := by
  obtain ⟨hB, hT, hP, hS⟩ := id hI
  obtain ⟨hN, hcap, h8, h9, h10, hp, ho, hc⟩ := id hB
  have hpw := pwN hN.1 hN.2
  refine E_X3_fix g (d + 3) _ _ _ _ σ K (m_isReg (d := d + 2) (fun j hj e1 => ⟨_, rfl, fun q => absurd q n10, fun _ => m_isReg (d := d + 2) (fun a ha e2 => ⟨_, rfl, fun q => absurd q n10, fun _ => m_isLetter (d := d + 2) hN.2 h8 (fun v hv e3 => ⟨_, rfl, fun _ => ?_, fun q => absurd q n10⟩) (fun hn => ⟨_, rfl, fun q => absurd rfl q, fun _ => hbad (fun q => hn q.2.2)⟩)⟩) (fun hn => ⟨_, rfl, fun _ => hbad (fun q => hn q.2.1), fun q => absurd rfl q⟩)⟩) (fun hn => ⟨_, rfl, fun _ => hbad (fun q => hn q.1), fun q => absurd rfl q⟩))
  subst e1 e2 e3
  replace hok := hok j a v hj ha hv rfl rfl rfl
  generalize hH : ((fun x => T a (sbt x v one)) : Nat → Bool) = H at hok
  refine fillA (z := 47) (n := 2 ^ N) (h := H) (lv := fun x => [(0, .ref (eA g 45)), (1, .int (nI j)), (2, .int (nI a)), (3, .int (nI v)), (4, .int (bI one)), (5, .int (x))]) (fun x f hx hf nx => ?_) (fun f hf => ?_)
  · have hHx := congrFun hH x
    have lf : ∀ vv : Bool, vv = H x → vp_in (nI x) (lenZ 47) ∧ WP g 45 59 (d + 4) M_X3_fix 30 [(0, .ref (eA g 45)), (1, .int (nI j)), (2, .int (nI a)), (3, .int (nI v)), (4, .int (bI one)), (5, .int (nI x + nI 1))] [] (uI (uIf σ 47 f) 47 (nI x).toNatClampNeg (vp_nar .boolean (bI vv))) K := fun vv hvv => by
      rw [vp_iff (by omega), nI_clamp (by omega), nI_1', uI_uIf, bI_vp, hvv]
      exact ⟨by show x < 4096; omega, nx⟩
    have hT' : ∀ r y, r < 32 → y < 2 ^ N → sI (uIf σ 47 f) 46 (4096 * r + y) = bI (T r y) := fun r y hr hy => by
      rw [sI_uIfn (by decide)]; exact hT r y hr hy
    refine R_X3_fix_30 g (d + 3) _ _ _ _ _ _ _ ⟨fun c => absurd c (ge9 hN h9 hx), fun _ => ?_⟩
    have hsl := sbt_lt (b := one) hx hv
    refine m_with (d := d + 2) (by omega) ⟨_, rfl, m_getv (d := d + 2) (v := T a (sbt x v one)) ha (by omega) (hT' a _ ha hsl) ⟨_, rfl, lf _ ?_⟩⟩
    rw [← hHx]
  · exact R_X3_fix_30 g (d + 3) _ _ _ _ _ _ _ ⟨fun _ => m_puts (d := d) hI hq hj hf hok, fun c => absurd (le9 hN h9) c⟩
theorem M_put {x1 x2 x3 x4 : Int32} (hI : InvM σ N cap T o oi c P q) (hq : q < 2 ^ 30) (hbad : ¬ (isR x1 ∧ isR x2 ∧ isIn N x3 ∧ isR x4) → K (some (.int (-2))) σ) (hok : ∀ j a v b, j < 32 → a < 32 → v < N → b < 32 → x1 = nI j → x2 = nI a → x3 = nI v → x4 = nI b → KM N cap T o oi c P q j (fun x => T a (sbt x v (T b x))) K) : Runs g 45 59 (d + 4) M_X3_put [.ref (eA g 45), .int x1, .int x2, .int x3, .int x4] σ K := by
  obtain ⟨hB, hT, hP, hS⟩ := id hI
  obtain ⟨hN, hcap, h8, h9, h10, hp, ho, hc⟩ := id hB
  have hpw := pwN hN.1 hN.2
  refine E_X3_put g (d + 3) _ _ _ _ σ K (m_isReg (d := d + 2) (fun j hj e1 => ⟨_, rfl, fun q => absurd q n10, fun _ => m_isReg (d := d + 2) (fun a ha e2 => ⟨_, rfl, fun q => absurd q n10, fun _ => m_isLetter (d := d + 2) hN.2 h8 (fun v hv e3 => ⟨_, rfl, fun q => absurd q n10, fun _ => m_isReg (d := d + 2) (fun b hb e4 => ⟨_, rfl, fun _ => ?_, fun q => absurd q n10⟩) (fun hn => ⟨_, rfl, fun q => absurd rfl q, fun _ => hbad (fun q => hn q.2.2.2)⟩)⟩) (fun hn => ⟨_, rfl, fun _ => hbad (fun q => hn q.2.2.1), fun q => absurd rfl q⟩)⟩) (fun hn => ⟨_, rfl, fun _ => hbad (fun q => hn q.2.1), fun q => absurd rfl q⟩)⟩) (fun hn => ⟨_, rfl, fun _ => hbad (fun q => hn q.1), fun q => absurd rfl q⟩))
  subst e1 e2 e3 e4
  replace hok := hok j a v b hj ha hv hb rfl rfl rfl rfl
  generalize hH : ((fun x => T a (sbt x v (T b x))) : Nat → Bool) = H at hok
  refine fillA (z := 47) (n := 2 ^ N) (h := H) (lv := fun x => [(0, .ref (eA g 45)), (1, .int (nI j)), (2, .int (nI a)), (3, .int (nI v)), (4, .int (nI b)), (5, .int (x))]) (fun x f hx hf nx => ?_) (fun f hf => ?_)
  · have hHx := congrFun hH x
    have lf : ∀ vv : Bool, vv = H x → vp_in (nI x) (lenZ 47) ∧ WP g 45 59 (d + 4) M_X3_put 39 [(0, .ref (eA g 45)), (1, .int (nI j)), (2, .int (nI a)), (3, .int (nI v)), (4, .int (nI b)), (5, .int (nI x + nI 1))] [] (uI (uIf σ 47 f) 47 (nI x).toNatClampNeg (vp_nar .boolean (bI vv))) K := fun vv hvv => by
      rw [vp_iff (by omega), nI_clamp (by omega), nI_1', uI_uIf, bI_vp, hvv]
      exact ⟨by show x < 4096; omega, nx⟩
    have hT' : ∀ r y, r < 32 → y < 2 ^ N → sI (uIf σ 47 f) 46 (4096 * r + y) = bI (T r y) := fun r y hr hy => by
      rw [sI_uIfn (by decide)]; exact hT r y hr hy
    refine R_X3_put_39 g (d + 3) _ _ _ _ _ _ _ ⟨fun c => absurd c (ge9 hN h9 hx), fun _ => ?_⟩
    have hsl := sbt_lt (b := T b x) hx hv
    refine m_getv (d := d + 2) (v := T b x) hb (by omega) (hT' b x hb hx) ⟨_, rfl, m_with (d := d + 2) (by omega) ⟨_, rfl, m_getv (d := d + 2) (v := T a (sbt x v (T b x))) ha (by omega) (hT' a _ ha hsl) ⟨_, rfl, lf _ ?_⟩⟩⟩
    rw [← hHx]
  · exact R_X3_put_39 g (d + 3) _ _ _ _ _ _ _ ⟨fun _ => m_puts (d := d) hI hq hj hf hok, fun c => absurd (le9 hN h9) c⟩
theorem M_trade {x1 x2 x3 x4 : Int32} (hI : InvM σ N cap T o oi c P q) (hq : q < 2 ^ 30) (hbad : ¬ (isR x1 ∧ isR x2 ∧ isIn N x3 ∧ isIn N x4) → K (some (.int (-2))) σ) (hok : ∀ j a u v, j < 32 → a < 32 → u < N → v < N → x1 = nI j → x2 = nI a → x3 = nI u → x4 = nI v → KM N cap T o oi c P q j (fun x => T a (swb x u v)) K) : Runs g 45 59 (d + 4) M_X3_trade [.ref (eA g 45), .int x1, .int x2, .int x3, .int x4] σ K := by
  obtain ⟨hB, hT, hP, hS⟩ := id hI
  obtain ⟨hN, hcap, h8, h9, h10, hp, ho, hc⟩ := id hB
  have hpw := pwN hN.1 hN.2
  refine E_X3_trade g (d + 3) _ _ _ _ σ K (m_isReg (d := d + 2) (fun j hj e1 => ⟨_, rfl, fun q => absurd q n10, fun _ => m_isReg (d := d + 2) (fun a ha e2 => ⟨_, rfl, fun q => absurd q n10, fun _ => m_isLetter (d := d + 2) hN.2 h8 (fun u hu e3 => ⟨_, rfl, fun q => absurd q n10, fun _ => m_isLetter (d := d + 2) hN.2 h8 (fun v hv e4 => ⟨_, rfl, fun _ => ?_, fun q => absurd q n10⟩) (fun hn => ⟨_, rfl, fun q => absurd rfl q, fun _ => hbad (fun q => hn q.2.2.2)⟩)⟩) (fun hn => ⟨_, rfl, fun _ => hbad (fun q => hn q.2.2.1), fun q => absurd rfl q⟩)⟩) (fun hn => ⟨_, rfl, fun _ => hbad (fun q => hn q.2.1), fun q => absurd rfl q⟩)⟩) (fun hn => ⟨_, rfl, fun _ => hbad (fun q => hn q.1), fun q => absurd rfl q⟩))
  subst e1 e2 e3 e4
  replace hok := hok j a u v hj ha hu hv rfl rfl rfl rfl
  generalize hH : ((fun x => T a (swb x u v)) : Nat → Bool) = H at hok
  refine fillA (z := 47) (n := 2 ^ N) (h := H) (lv := fun x => [(0, .ref (eA g 45)), (1, .int (nI j)), (2, .int (nI a)), (3, .int (nI u)), (4, .int (nI v)), (5, .int (x))]) (fun x f hx hf nx => ?_) (fun f hf => ?_)
  · have hHx := congrFun hH x
    have lf : ∀ vv : Bool, vv = H x → vp_in (nI x) (lenZ 47) ∧ WP g 45 59 (d + 4) M_X3_trade 39 [(0, .ref (eA g 45)), (1, .int (nI j)), (2, .int (nI a)), (3, .int (nI u)), (4, .int (nI v)), (5, .int (nI x + nI 1))] [] (uI (uIf σ 47 f) 47 (nI x).toNatClampNeg (vp_nar .boolean (bI vv))) K := fun vv hvv => by
      rw [vp_iff (by omega), nI_clamp (by omega), nI_1', uI_uIf, bI_vp, hvv]
      exact ⟨by show x < 4096; omega, nx⟩
    have hT' : ∀ r y, r < 32 → y < 2 ^ N → sI (uIf σ 47 f) 46 (4096 * r + y) = bI (T r y) := fun r y hr hy => by
      rw [sI_uIfn (by decide)]; exact hT r y hr hy
    refine R_X3_trade_39 g (d + 3) _ _ _ _ _ _ _ ⟨fun c => absurd c (ge9 hN h9 hx), fun _ => ?_⟩
    rw [jb (by omega) (by omega), jb (by omega) (by omega)]
    refine ⟨fun qv => m_with (d := d + 2) (one := false) (by omega) ⟨_, rfl, fun qu => by
      have hu1 : x.testBit v = false := eq_false_of_ne_true qv
      have hu2 : x.testBit u = false := eq_false_of_ne_true qu
      have e : sbt (sbt x u false) v false = swb x u v := by unfold swb; rw [hu1, hu2]
      have hsl : sbt (sbt x u false) v false < 2 ^ N := sbt_lt (sbt_lt hx hu) hv
      refine m_with (d := d + 2) (one := false) (by omega) ⟨_, rfl, m_getv (d := d + 2) (v := T a (sbt (sbt x u false) v false)) ha (by omega) (hT' a _ ha hsl) ⟨_, rfl, lf _ ?_⟩⟩
      rw [← hHx, e], fun qu => by
      have hu1 : x.testBit v = false := eq_false_of_ne_true qv
      have hu2 : x.testBit u = true := qu
      have e : sbt (sbt x u false) v true = swb x u v := by unfold swb; rw [hu1, hu2]
      have hsl : sbt (sbt x u false) v true < 2 ^ N := sbt_lt (sbt_lt hx hu) hv
      refine m_with (d := d + 2) (one := true) (by omega) ⟨_, rfl, m_getv (d := d + 2) (v := T a (sbt (sbt x u false) v true)) ha (by omega) (hT' a _ ha hsl) ⟨_, rfl, lf _ ?_⟩⟩
      rw [← hHx, e]⟩, fun qv => m_with (d := d + 2) (one := true) (by omega) ⟨_, rfl, fun qu => by
      have hu1 : x.testBit v = true := qv
      have hu2 : x.testBit u = false := eq_false_of_ne_true qu
      have e : sbt (sbt x u true) v false = swb x u v := by unfold swb; rw [hu1, hu2]
      have hsl : sbt (sbt x u true) v false < 2 ^ N := sbt_lt (sbt_lt hx hu) hv
      refine m_with (d := d + 2) (one := false) (by omega) ⟨_, rfl, m_getv (d := d + 2) (v := T a (sbt (sbt x u true) v false)) ha (by omega) (hT' a _ ha hsl) ⟨_, rfl, lf _ ?_⟩⟩
      rw [← hHx, e], fun qu => by
      have hu1 : x.testBit v = true := qv
      have hu2 : x.testBit u = true := qu
      have e : sbt (sbt x u true) v true = swb x u v := by unfold swb; rw [hu1, hu2]
      have hsl : sbt (sbt x u true) v true < 2 ^ N := sbt_lt (sbt_lt hx hu) hv
      refine m_with (d := d + 2) (one := true) (by omega) ⟨_, rfl, m_getv (d := d + 2) (v := T a (sbt (sbt x u true) v true)) ha (by omega) (hT' a _ ha hsl) ⟨_, rfl, lf _ ?_⟩⟩
      rw [← hHx, e]⟩⟩
  · exact R_X3_trade_39 g (d + 3) _ _ _ _ _ _ _ ⟨fun _ => m_puts (d := d) hI hq hj hf hok, fun c => absurd (le9 hN h9) c⟩
end MOD5

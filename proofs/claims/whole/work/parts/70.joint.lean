/-! class and reference side by side -/
def IJ (σX σM : St) (q : Nat) : Prop := ∃ N cap T o oi c P, InvX σX N cap T o oi c P ∧ InvM σM N cap T o oi c P q
def Same (g : Ev) (MX MM : Mt) (AX AM : List Value) (σX σM : St) (q : Nat) : Prop :=
  Runs g 0 45 8 MX AX σX (fun r σX' => ∃ v : Int32, r = some (.int v) ∧ Runs g 45 59 8 MM AM σM (fun r' σM' => r' = some (.int v) ∧ IJ σX' σM' (q + 200)))
theorem cnt_lt {f : Nat → Bool} {x y : Nat} (h : x < y) (hf : f x = true) : cntB f x < cntB f y := by
  induction y with
  | zero => omega
  | succ y ih =>
    have e : cntB f (y + 1) = cntB f y + (f y).toNat := rfl
    rcases (show x < y ∨ x = y by omega) with l | rfl
    · have := ih l; omega
    · rw [e, hf]; simp
section JOINT
variable {g : Ev} {σX σM : St} {q : Nat} {N cap : Nat} {T : Nat → Nat → Bool} {o oi c : Nat → Nat} {P : Nat → Bool}
theorem IJ.of {σX' : St} {q' : Nat} (hX : InvX σX' N cap T o oi c P) (hM : InvM σM N cap T o oi c P q') (hq : q' ≤ q) : IJ σX' σM q := ⟨N, cap, T, o, oi, c, P, hX, hM.le hq⟩
theorem KM_le {j : Nat} {h : Nat → Bool} {σX' : St} (hX : InvX σX' N cap (va_up T j h) o oi c (fun _ => false)) (hle : ∀ wk, (∀ k, k < N → Wid (FT (va_up T j h) o N) N 0 32 k (wk k)) → sumN wk N ≤ cap) : KM N cap T o oi c P q j h (fun r' σM' => r' = some (.int (nI 0)) ∧ IJ σX' σM' (q + 200)) :=
  ⟨fun σ' wk hM _ _ => ⟨rfl, IJ.of hX hM (Nat.le_refl _)⟩, fun σ' wk _ hW hgt => absurd (hle wk hW) (by omega)⟩
theorem KM_gt {j : Nat} {h : Nat → Bool} {σX' : St} (hX : InvX σX' N cap T o oi c P) (hgt : ∀ wk, (∀ k, k < N → Wid (FT (va_up T j h) o N) N 0 32 k (wk k)) → cap < sumN wk N) : KM N cap T o oi c P q j h (fun r' σM' => r' = some (.int (-8)) ∧ IJ σX' σM' (q + 200)) :=
  ⟨fun σ' wk _ hW hle => absurd (hgt wk hW) (by omega), fun σ' wk hM _ _ => ⟨rfl, IJ.of hX hM (Nat.le_refl _)⟩⟩
theorem S_letter {x1 x2 : Int32} (h : IJ σX σM q) (hq : q < 2 ^ 29) : Same g M_X2_letter M_X3_letter [.ref (eA g 0), .int x1, .int x2] [.ref (eA g 45), .int x1, .int x2] σX σM q := by
  obtain ⟨N, cap, T, o, oi, c, P, hX, hM⟩ := h
  have hN := hX.1.1
  have hpw := pwN hN.1 hN.2
  refine X_letter (d := 1) hX (fun hbd => ⟨_, rfl, M_letter (d := 4) hM (by omega) (fun _ => ⟨rfl, IJ.of hX hM (by omega)⟩) (fun j v hj hv e1 e2 => absurd ⟨⟨j, hj, e1⟩, ⟨v, hv, e2⟩⟩ hbd)⟩) (fun j v hj hv e1 e2 => ⟨fun σ' hI' hle => ⟨_, rfl, M_letter (d := 4) hM (by omega) (fun hbd => absurd ⟨⟨j, hj, e1⟩, ⟨v, hv, e2⟩⟩ hbd) (fun j' v' hj' hv' e1' e2' => ?_)⟩, fun σ' hI' hgt => ⟨_, rfl, M_letter (d := 4) hM (by omega) (fun hbd => absurd ⟨⟨j, hj, e1⟩, ⟨v, hv, e2⟩⟩ hbd) (fun j' v' hj' hv' e1' e2' => ?_)⟩⟩)
  · have z0 : j' = j := nI_inj (by omega) (by omega) (e1'.symm.trans e1)
    have z1 : v' = v := nI_inj (by omega) (by omega) (e2'.symm.trans e2)
    subst z0 z1
    exact KM_le hI' hle
  · have z0 : j' = j := nI_inj (by omega) (by omega) (e1'.symm.trans e1)
    have z1 : v' = v := nI_inj (by omega) (by omega) (e2'.symm.trans e2)
    subst z0 z1
    exact KM_gt hI' hgt
theorem S_join {x1 x2 x3 x4 : Int32} (h : IJ σX σM q) (hq : q < 2 ^ 29) : Same g M_X2_join M_X3_join [.ref (eA g 0), .int x1, .int x2, .int x3, .int x4] [.ref (eA g 45), .int x1, .int x2, .int x3, .int x4] σX σM q := by
  obtain ⟨N, cap, T, o, oi, c, P, hX, hM⟩ := h
  have hN := hX.1.1
  have hpw := pwN hN.1 hN.2
  refine X_join (d := 1) hX (fun hbd => ⟨_, rfl, M_join (d := 4) hM (by omega) (fun _ => ⟨rfl, IJ.of hX hM (by omega)⟩) (fun j a b t hj ha hb ht e1 e2 e3 e4 => absurd ⟨⟨j, hj, e1⟩, ⟨a, ha, e2⟩, ⟨b, hb, e3⟩, ⟨t, ht, e4⟩⟩ hbd)⟩) (fun j a b t hj ha hb ht e1 e2 e3 e4 => ⟨fun σ' hI' hle => ⟨_, rfl, M_join (d := 4) hM (by omega) (fun hbd => absurd ⟨⟨j, hj, e1⟩, ⟨a, ha, e2⟩, ⟨b, hb, e3⟩, ⟨t, ht, e4⟩⟩ hbd) (fun j' a' b' t' hj' ha' hb' ht' e1' e2' e3' e4' => ?_)⟩, fun σ' hI' hgt => ⟨_, rfl, M_join (d := 4) hM (by omega) (fun hbd => absurd ⟨⟨j, hj, e1⟩, ⟨a, ha, e2⟩, ⟨b, hb, e3⟩, ⟨t, ht, e4⟩⟩ hbd) (fun j' a' b' t' hj' ha' hb' ht' e1' e2' e3' e4' => ?_)⟩⟩)
  · have z0 : j' = j := nI_inj (by omega) (by omega) (e1'.symm.trans e1)
    have z1 : a' = a := nI_inj (by omega) (by omega) (e2'.symm.trans e2)
    have z2 : b' = b := nI_inj (by omega) (by omega) (e3'.symm.trans e3)
    have z3 : t' = t := nI_inj (by omega) (by omega) (e4'.symm.trans e4)
    subst z0 z1 z2 z3
    exact KM_le hI' hle
  · have z0 : j' = j := nI_inj (by omega) (by omega) (e1'.symm.trans e1)
    have z1 : a' = a := nI_inj (by omega) (by omega) (e2'.symm.trans e2)
    have z2 : b' = b := nI_inj (by omega) (by omega) (e3'.symm.trans e3)
    have z3 : t' = t := nI_inj (by omega) (by omega) (e4'.symm.trans e4)
    subst z0 z1 z2 z3
    exact KM_gt hI' hgt
theorem S_fork {x1 x2 x3 x4 : Int32} (h : IJ σX σM q) (hq : q < 2 ^ 29) : Same g M_X2_fork M_X3_fork [.ref (eA g 0), .int x1, .int x2, .int x3, .int x4] [.ref (eA g 45), .int x1, .int x2, .int x3, .int x4] σX σM q := by
  obtain ⟨N, cap, T, o, oi, c, P, hX, hM⟩ := h
  have hN := hX.1.1
  have hpw := pwN hN.1 hN.2
  refine X_fork (d := 1) hX (fun hbd => ⟨_, rfl, M_fork (d := 4) hM (by omega) (fun _ => ⟨rfl, IJ.of hX hM (by omega)⟩) (fun j a b e hj ha hb he e1 e2 e3 e4 => absurd ⟨⟨j, hj, e1⟩, ⟨a, ha, e2⟩, ⟨b, hb, e3⟩, ⟨e, he, e4⟩⟩ hbd)⟩) (fun j a b e hj ha hb he e1 e2 e3 e4 => ⟨fun σ' hI' hle => ⟨_, rfl, M_fork (d := 4) hM (by omega) (fun hbd => absurd ⟨⟨j, hj, e1⟩, ⟨a, ha, e2⟩, ⟨b, hb, e3⟩, ⟨e, he, e4⟩⟩ hbd) (fun j' a' b' e' hj' ha' hb' he' e1' e2' e3' e4' => ?_)⟩, fun σ' hI' hgt => ⟨_, rfl, M_fork (d := 4) hM (by omega) (fun hbd => absurd ⟨⟨j, hj, e1⟩, ⟨a, ha, e2⟩, ⟨b, hb, e3⟩, ⟨e, he, e4⟩⟩ hbd) (fun j' a' b' e' hj' ha' hb' he' e1' e2' e3' e4' => ?_)⟩⟩)
  · have z0 : j' = j := nI_inj (by omega) (by omega) (e1'.symm.trans e1)
    have z1 : a' = a := nI_inj (by omega) (by omega) (e2'.symm.trans e2)
    have z2 : b' = b := nI_inj (by omega) (by omega) (e3'.symm.trans e3)
    have z3 : e' = e := nI_inj (by omega) (by omega) (e4'.symm.trans e4)
    subst z0 z1 z2 z3
    exact KM_le hI' hle
  · have z0 : j' = j := nI_inj (by omega) (by omega) (e1'.symm.trans e1)
    have z1 : a' = a := nI_inj (by omega) (by omega) (e2'.symm.trans e2)
    have z2 : b' = b := nI_inj (by omega) (by omega) (e3'.symm.trans e3)
    have z3 : e' = e := nI_inj (by omega) (by omega) (e4'.symm.trans e4)
    subst z0 z1 z2 z3
    exact KM_gt hI' hgt
theorem S_fix {x1 x2 x3 : Int32} {one : Bool} (h : IJ σX σM q) (hq : q < 2 ^ 29) : Same g M_X2_fix M_X3_fix [.ref (eA g 0), .int x1, .int x2, .int x3, .int (bI one)] [.ref (eA g 45), .int x1, .int x2, .int x3, .int (bI one)] σX σM q := by
  obtain ⟨N, cap, T, o, oi, c, P, hX, hM⟩ := h
  have hN := hX.1.1
  have hpw := pwN hN.1 hN.2
  refine X_fix (d := 1) hX (fun hbd => ⟨_, rfl, M_fix (d := 4) hM (by omega) (fun _ => ⟨rfl, IJ.of hX hM (by omega)⟩) (fun j a v hj ha hv e1 e2 e3 => absurd ⟨⟨j, hj, e1⟩, ⟨a, ha, e2⟩, ⟨v, hv, e3⟩⟩ hbd)⟩) (fun j a v hj ha hv e1 e2 e3 => ⟨fun σ' hI' hle => ⟨_, rfl, M_fix (d := 4) hM (by omega) (fun hbd => absurd ⟨⟨j, hj, e1⟩, ⟨a, ha, e2⟩, ⟨v, hv, e3⟩⟩ hbd) (fun j' a' v' hj' ha' hv' e1' e2' e3' => ?_)⟩, fun σ' hI' hgt => ⟨_, rfl, M_fix (d := 4) hM (by omega) (fun hbd => absurd ⟨⟨j, hj, e1⟩, ⟨a, ha, e2⟩, ⟨v, hv, e3⟩⟩ hbd) (fun j' a' v' hj' ha' hv' e1' e2' e3' => ?_)⟩⟩)
  · have z0 : j' = j := nI_inj (by omega) (by omega) (e1'.symm.trans e1)
    have z1 : a' = a := nI_inj (by omega) (by omega) (e2'.symm.trans e2)
    have z2 : v' = v := nI_inj (by omega) (by omega) (e3'.symm.trans e3)
    subst z0 z1 z2
    exact KM_le hI' hle
  · have z0 : j' = j := nI_inj (by omega) (by omega) (e1'.symm.trans e1)
    have z1 : a' = a := nI_inj (by omega) (by omega) (e2'.symm.trans e2)
    have z2 : v' = v := nI_inj (by omega) (by omega) (e3'.symm.trans e3)
    subst z0 z1 z2
    exact KM_gt hI' hgt
theorem S_put {x1 x2 x3 x4 : Int32} (h : IJ σX σM q) (hq : q < 2 ^ 29) : Same g M_X2_put M_X3_put [.ref (eA g 0), .int x1, .int x2, .int x3, .int x4] [.ref (eA g 45), .int x1, .int x2, .int x3, .int x4] σX σM q := by
  obtain ⟨N, cap, T, o, oi, c, P, hX, hM⟩ := h
  have hN := hX.1.1
  have hpw := pwN hN.1 hN.2
  refine X_put (d := 1) hX (fun hbd => ⟨_, rfl, M_put (d := 4) hM (by omega) (fun _ => ⟨rfl, IJ.of hX hM (by omega)⟩) (fun j a v b hj ha hv hb e1 e2 e3 e4 => absurd ⟨⟨j, hj, e1⟩, ⟨a, ha, e2⟩, ⟨v, hv, e3⟩, ⟨b, hb, e4⟩⟩ hbd)⟩) (fun j a v b hj ha hv hb e1 e2 e3 e4 => ⟨fun σ' hI' hle => ⟨_, rfl, M_put (d := 4) hM (by omega) (fun hbd => absurd ⟨⟨j, hj, e1⟩, ⟨a, ha, e2⟩, ⟨v, hv, e3⟩, ⟨b, hb, e4⟩⟩ hbd) (fun j' a' v' b' hj' ha' hv' hb' e1' e2' e3' e4' => ?_)⟩, fun σ' hI' hgt => ⟨_, rfl, M_put (d := 4) hM (by omega) (fun hbd => absurd ⟨⟨j, hj, e1⟩, ⟨a, ha, e2⟩, ⟨v, hv, e3⟩, ⟨b, hb, e4⟩⟩ hbd) (fun j' a' v' b' hj' ha' hv' hb' e1' e2' e3' e4' => ?_)⟩⟩)
  · have z0 : j' = j := nI_inj (by omega) (by omega) (e1'.symm.trans e1)
    have z1 : a' = a := nI_inj (by omega) (by omega) (e2'.symm.trans e2)
    have z2 : v' = v := nI_inj (by omega) (by omega) (e3'.symm.trans e3)
    have z3 : b' = b := nI_inj (by omega) (by omega) (e4'.symm.trans e4)
    subst z0 z1 z2 z3
    exact KM_le hI' hle
  · have z0 : j' = j := nI_inj (by omega) (by omega) (e1'.symm.trans e1)
    have z1 : a' = a := nI_inj (by omega) (by omega) (e2'.symm.trans e2)
    have z2 : v' = v := nI_inj (by omega) (by omega) (e3'.symm.trans e3)
    have z3 : b' = b := nI_inj (by omega) (by omega) (e4'.symm.trans e4)
    subst z0 z1 z2 z3
    exact KM_gt hI' hgt
theorem S_sum {x1 x2 x3 : Int32} {all : Bool} (h : IJ σX σM q) (hq : q < 2 ^ 29) : Same g M_X2_sum M_X3_sum [.ref (eA g 0), .int x1, .int x2, .int x3, .int (bI all)] [.ref (eA g 45), .int x1, .int x2, .int x3, .int (bI all)] σX σM q := by
  obtain ⟨N, cap, T, o, oi, c, P, hX, hM⟩ := h
  have hN := hX.1.1
  have hpw := pwN hN.1 hN.2
  refine X_sum (d := 1) hX (fun hbd => ⟨_, rfl, M_sum (d := 4) hM (by omega) (fun _ => ⟨rfl, IJ.of hX hM (by omega)⟩) (fun j a m hj ha hm e1 e2 e3 => absurd ⟨⟨j, hj, e1⟩, ⟨a, ha, e2⟩, ⟨m, hm, e3⟩⟩ hbd)⟩) (fun j a m hj ha hm e1 e2 e3 => ⟨fun σ' hI' hle => ⟨_, rfl, M_sum (d := 4) hM (by omega) (fun hbd => absurd ⟨⟨j, hj, e1⟩, ⟨a, ha, e2⟩, ⟨m, hm, e3⟩⟩ hbd) (fun j' a' m' hj' ha' hm' e1' e2' e3' => ?_)⟩, fun σ' hI' hgt => ⟨_, rfl, M_sum (d := 4) hM (by omega) (fun hbd => absurd ⟨⟨j, hj, e1⟩, ⟨a, ha, e2⟩, ⟨m, hm, e3⟩⟩ hbd) (fun j' a' m' hj' ha' hm' e1' e2' e3' => ?_)⟩⟩)
  · have z0 : j' = j := nI_inj (by omega) (by omega) (e1'.symm.trans e1)
    have z1 : a' = a := nI_inj (by omega) (by omega) (e2'.symm.trans e2)
    have z2 : m' = m := nI_inj (by omega) (by omega) (e3'.symm.trans e3)
    subst z0 z1 z2
    exact KM_le hI' hle
  · have z0 : j' = j := nI_inj (by omega) (by omega) (e1'.symm.trans e1)
    have z1 : a' = a := nI_inj (by omega) (by omega) (e2'.symm.trans e2)
    have z2 : m' = m := nI_inj (by omega) (by omega) (e3'.symm.trans e3)
    subst z0 z1 z2
    exact KM_gt hI' hgt
theorem S_trade {x1 x2 x3 x4 : Int32} (h : IJ σX σM q) (hq : q < 2 ^ 29) : Same g M_X2_trade M_X3_trade [.ref (eA g 0), .int x1, .int x2, .int x3, .int x4] [.ref (eA g 45), .int x1, .int x2, .int x3, .int x4] σX σM q := by
  obtain ⟨N, cap, T, o, oi, c, P, hX, hM⟩ := h
  have hN := hX.1.1
  have hpw := pwN hN.1 hN.2
  refine X_trade (d := 1) hX (fun hbd => ⟨_, rfl, M_trade (d := 4) hM (by omega) (fun _ => ⟨rfl, IJ.of hX hM (by omega)⟩) (fun j a u v hj ha hu hv e1 e2 e3 e4 => absurd ⟨⟨j, hj, e1⟩, ⟨a, ha, e2⟩, ⟨u, hu, e3⟩, ⟨v, hv, e4⟩⟩ hbd)⟩) (fun j a u v hj ha hu hv e1 e2 e3 e4 => ⟨fun σ' hI' hle => ⟨_, rfl, M_trade (d := 4) hM (by omega) (fun hbd => absurd ⟨⟨j, hj, e1⟩, ⟨a, ha, e2⟩, ⟨u, hu, e3⟩, ⟨v, hv, e4⟩⟩ hbd) (fun j' a' u' v' hj' ha' hu' hv' e1' e2' e3' e4' => ?_)⟩, fun σ' hI' hgt => ⟨_, rfl, M_trade (d := 4) hM (by omega) (fun hbd => absurd ⟨⟨j, hj, e1⟩, ⟨a, ha, e2⟩, ⟨u, hu, e3⟩, ⟨v, hv, e4⟩⟩ hbd) (fun j' a' u' v' hj' ha' hu' hv' e1' e2' e3' e4' => ?_)⟩⟩)
  · have z0 : j' = j := nI_inj (by omega) (by omega) (e1'.symm.trans e1)
    have z1 : a' = a := nI_inj (by omega) (by omega) (e2'.symm.trans e2)
    have z2 : u' = u := nI_inj (by omega) (by omega) (e3'.symm.trans e3)
    have z3 : v' = v := nI_inj (by omega) (by omega) (e4'.symm.trans e4)
    subst z0 z1 z2 z3
    exact KM_le hI' hle
  · have z0 : j' = j := nI_inj (by omega) (by omega) (e1'.symm.trans e1)
    have z1 : a' = a := nI_inj (by omega) (by omega) (e2'.symm.trans e2)
    have z2 : u' = u := nI_inj (by omega) (by omega) (e3'.symm.trans e3)
    have z3 : v' = v := nI_inj (by omega) (by omega) (e4'.symm.trans e4)
    subst z0 z1 z2 z3
    exact KM_gt hI' hgt
theorem S_near {x1 x2 x3 : Int32} (h : IJ σX σM q) (hq : q < 2 ^ 29) : Same g M_X2_near M_X3_near [.ref (eA g 0), .int x1, .int x2, .int x3] [.ref (eA g 45), .int x1, .int x2, .int x3] σX σM q := by
  obtain ⟨N, cap, T, o, oi, c, P, hX, hM⟩ := h
  have hN := hX.1.1
  have hpw := pwN hN.1 hN.2
  refine X_near (d := 1) hX (fun hb => ⟨_, rfl, M_near (d := 4) hM (by omega) (fun _ => ⟨rfl, IJ.of hX hM (by omega)⟩) (fun j a e hj ha he e1 e2 e3 _ => absurd ⟨⟨j, hj, e1⟩, ⟨a, ha, e2⟩, ⟨e, he, e3⟩⟩ hb) (fun j a e hj ha he e1 e2 e3 _ => absurd ⟨⟨j, hj, e1⟩, ⟨a, ha, e2⟩, ⟨e, he, e3⟩⟩ hb)⟩) (fun j a e hj ha he e1 e2 e3 hz => ⟨_, rfl, M_near (d := 4) hM (by omega) (fun hb => absurd ⟨⟨j, hj, e1⟩, ⟨a, ha, e2⟩, ⟨e, he, e3⟩⟩ hb) (fun j' a' e' hj' ha' he' e1' e2' e3' _ => ⟨rfl, IJ.of hX hM (by omega)⟩) (fun j' a' e' hj' ha' he' e1' e2' e3' hz' => ?_)⟩) (fun j a e hj ha he e1 e2 e3 hz => ⟨fun σ' hI' hle => ⟨_, rfl, M_near (d := 4) hM (by omega) (fun hb => absurd ⟨⟨j, hj, e1⟩, ⟨a, ha, e2⟩, ⟨e, he, e3⟩⟩ hb) (fun j' a' e' hj' ha' he' e1' e2' e3' hz' => ?_) (fun j' a' e' hj' ha' he' e1' e2' e3' hz' => ?_)⟩, fun σ' hI' hgt => ⟨_, rfl, M_near (d := 4) hM (by omega) (fun hb => absurd ⟨⟨j, hj, e1⟩, ⟨a, ha, e2⟩, ⟨e, he, e3⟩⟩ hb) (fun j' a' e' hj' ha' he' e1' e2' e3' hz' => ?_) (fun j' a' e' hj' ha' he' e1' e2' e3' hz' => ?_)⟩⟩)
  · have z2 : e' = e := nI_inj (by omega) (by omega) (e3'.symm.trans e3)
    subst z2
    exact absurd hz hz'
  · have z2 : e' = e := nI_inj (by omega) (by omega) (e3'.symm.trans e3)
    subst z2
    exact absurd hz' hz
  · have z0 : j' = j := nI_inj (by omega) (by omega) (e1'.symm.trans e1)
    have z1 : a' = a := nI_inj (by omega) (by omega) (e2'.symm.trans e2)
    have z2 : e' = e := nI_inj (by omega) (by omega) (e3'.symm.trans e3)
    subst z0 z1 z2
    exact KM_le hI' hle
  · have z2 : e' = e := nI_inj (by omega) (by omega) (e3'.symm.trans e3)
    subst z2
    exact absurd hz' hz
  · have z0 : j' = j := nI_inj (by omega) (by omega) (e1'.symm.trans e1)
    have z1 : a' = a := nI_inj (by omega) (by omega) (e2'.symm.trans e2)
    have z2 : e' = e := nI_inj (by omega) (by omega) (e3'.symm.trans e3)
    subst z0 z1 z2
    exact KM_gt hI' hgt
theorem S_constant {x1 : Int32} {y : Bool} (h : IJ σX σM q) (hq : q < 2 ^ 29) : Same g M_X2_constant M_X3_constant [.ref (eA g 0), .int x1, .int (bI y)] [.ref (eA g 45), .int x1, .int (bI y)] σX σM q := by
  obtain ⟨N, cap, T, o, oi, c, P, hX, hM⟩ := h
  have hN := hX.1.1
  have hpw := pwN hN.1 hN.2
  refine X_constant (d := 5) hX (fun hb => ⟨_, rfl, M_constant (d := 4) hM (fun _ => ⟨rfl, IJ.of hX hM (by omega)⟩) (fun j hj e1 => absurd ⟨j, hj, e1⟩ hb)⟩) (fun j hj e1 σ' hI' => ⟨_, rfl, M_constant (d := 4) hM (fun hb => absurd ⟨j, hj, e1⟩ hb) (fun j' hj' e1' σ'' hI'' => ?_)⟩)
  have z0 : j' = j := nI_inj (by omega) (by omega) (e1'.symm.trans e1)
  subst z0
  exact ⟨rfl, IJ.of hI' hI'' (by omega)⟩
theorem S_copy {x1 x2 : Int32} (h : IJ σX σM q) (hq : q < 2 ^ 29) : Same g M_X2_copy M_X3_copy [.ref (eA g 0), .int x1, .int x2] [.ref (eA g 45), .int x1, .int x2] σX σM q := by
  obtain ⟨N, cap, T, o, oi, c, P, hX, hM⟩ := h
  have hN := hX.1.1
  have hpw := pwN hN.1 hN.2
  refine X_copy (d := 5) hX (fun hb => ⟨_, rfl, M_copy (d := 4) hM (fun _ => ⟨rfl, IJ.of hX hM (by omega)⟩) (fun j a hj ha e1 e2 => absurd ⟨⟨j, hj, e1⟩, ⟨a, ha, e2⟩⟩ hb)⟩) (fun j a hj ha e1 e2 σ' hI' => ⟨_, rfl, M_copy (d := 4) hM (fun hb => absurd ⟨⟨j, hj, e1⟩, ⟨a, ha, e2⟩⟩ hb) (fun j' a' hj' ha' e1' e2' σ'' hI'' => ?_)⟩)
  have z0 : j' = j := nI_inj (by omega) (by omega) (e1'.symm.trans e1)
  have z1 : a' = a := nI_inj (by omega) (by omega) (e2'.symm.trans e2)
  subst z0 z1
  exact ⟨rfl, IJ.of hI' hI'' (by omega)⟩
theorem S_point {x1 : Int32} (h : IJ σX σM q) (hq : q < 2 ^ 29) : Same g M_X2_point M_X3_point [.ref (eA g 0), .int x1] [.ref (eA g 45), .int x1] σX σM q := by
  obtain ⟨N, cap, T, o, oi, c, P, hX, hM⟩ := h
  have hN := hX.1.1
  have hpw := pwN hN.1 hN.2
  refine X_point (d := 6) hX (fun hb => ⟨_, rfl, M_point (d := 4) hM (fun _ => ⟨rfl, IJ.of hX hM (by omega)⟩) (fun a ha e1 => absurd ⟨a, ha, e1⟩ hb)⟩) (fun a ha e1 σ' hI' => ⟨_, rfl, M_point (d := 4) hM (fun hb => absurd ⟨a, ha, e1⟩ hb) (fun a' ha' e1' σ'' hI'' => ?_)⟩)
  have z0 : a' = a := nI_inj (by omega) (by omega) (e1'.symm.trans e1)
  subst z0
  exact ⟨rfl, IJ.of hI' hI'' (by omega)⟩
theorem S_cost {x1 x2 : Int32} (h : IJ σX σM q) (hq : q < 2 ^ 29) : Same g M_X2_cost M_X3_cost [.ref (eA g 0), .int x1, .int x2] [.ref (eA g 45), .int x1, .int x2] σX σM q := by
  obtain ⟨N, cap, T, o, oi, c, P, hX, hM⟩ := h
  have hN := hX.1.1
  have hpw := pwN hN.1 hN.2
  refine X_cost (d := 6) hX (fun hb => ⟨_, rfl, M_cost (d := 4) hM (fun _ => ⟨rfl, IJ.of hX hM (by omega)⟩) (fun v w hv hw e1 e2 => absurd ⟨⟨v, hv, e1⟩, ⟨w, hw, e2⟩⟩ hb)⟩) (fun v w hv hw e1 e2 σ' hI' => ⟨_, rfl, M_cost (d := 4) hM (fun hb => absurd ⟨⟨v, hv, e1⟩, ⟨w, hw, e2⟩⟩ hb) (fun v' w' hv' hw' e1' e2' σ'' hI'' => ?_)⟩)
  have z0 : v' = v := nI_inj (by omega) (by omega) (e1'.symm.trans e1)
  have z1 : w' = w := nI_inj (by omega) (by omega) (e2'.symm.trans e2)
  subst z0 z1
  exact ⟨rfl, IJ.of hI' hI'' (by omega)⟩
theorem S_tells {x1 x2 : Int32} (h : IJ σX σM q) (hq : q < 2 ^ 29) : Same g M_X2_tells M_X3_tells [.ref (eA g 0), .int x1, .int x2] [.ref (eA g 45), .int x1, .int x2] σX σM q := by
  obtain ⟨N, cap, T, o, oi, c, P, hX, hM⟩ := h
  have hN := hX.1.1
  have hpw := pwN hN.1 hN.2
  refine X_tells (d := 6) hX (fun hb => ⟨_, rfl, M_tells (d := 4) hM (fun _ => ⟨rfl, IJ.of hX hM (by omega)⟩) (fun a x ha hx e1 e2 => absurd ⟨⟨a, ha, e1⟩, ⟨x, hx, e2⟩⟩ hb)⟩) (fun a x ha hx e1 e2 => ⟨_, rfl, M_tells (d := 4) hM (fun hb => absurd ⟨⟨a, ha, e1⟩, ⟨x, hx, e2⟩⟩ hb) (fun a' x' ha' hx' e1' e2' => ?_)⟩)
  have z0 : a' = a := nI_inj (by omega) (by omega) (e1'.symm.trans e1)
  have z1 : x' = x := nI_inj (by omega) (by omega) (e2'.symm.trans e2)
  subst z0 z1
  exact ⟨rfl, IJ.of hX hM (by omega)⟩
theorem S_many {x1 : Int32} (h : IJ σX σM q) (hq : q < 2 ^ 29) : Same g M_X2_many M_X3_many [.ref (eA g 0), .int x1] [.ref (eA g 45), .int x1] σX σM q := by
  obtain ⟨N, cap, T, o, oi, c, P, hX, hM⟩ := h
  have hN := hX.1.1
  have hpw := pwN hN.1 hN.2
  refine X_many (d := 6) hX (fun hb => ⟨_, rfl, M_many (d := 4) hM (fun _ => ⟨rfl, IJ.of hX hM (by omega)⟩) (fun a ha e1 => absurd ⟨a, ha, e1⟩ hb)⟩) (fun a ha e1 => ⟨_, rfl, M_many (d := 4) hM (fun hb => absurd ⟨a, ha, e1⟩ hb) (fun a' ha' e1' => ?_)⟩)
  have z0 : a' = a := nI_inj (by omega) (by omega) (e1'.symm.trans e1)
  subst z0
  exact ⟨rfl, IJ.of hX hM (by omega)⟩
theorem S_cheapest {x1 : Int32} (h : IJ σX σM q) (hq : q < 2 ^ 29) : Same g M_X2_cheapest M_X3_cheapest [.ref (eA g 0), .int x1] [.ref (eA g 45), .int x1] σX σM q := by
  obtain ⟨N, cap, T, o, oi, c, P, hX, hM⟩ := h
  have hN := hX.1.1
  have hpw := pwN hN.1 hN.2
  refine X_cheapest (d := 4) hX (fun hb => ⟨_, rfl, M_cheapest (d := 4) hM (fun _ => ⟨rfl, IJ.of hX hM (by omega)⟩) (fun a ha e1 => absurd ⟨a, ha, e1⟩ hb)⟩) (fun a ha e1 σ' hI' => ⟨_, rfl, M_cheapest (d := 4) hM (fun hb => absurd ⟨a, ha, e1⟩ hb) (fun a' ha' e1' => ?_)⟩)
  have z0 : a' = a := nI_inj (by omega) (by omega) (e1'.symm.trans e1)
  subst z0
  exact ⟨rfl, IJ.of hI' hM (by omega)⟩
theorem S_dearest {x1 : Int32} (h : IJ σX σM q) (hq : q < 2 ^ 29) : Same g M_X2_dearest M_X3_dearest [.ref (eA g 0), .int x1] [.ref (eA g 45), .int x1] σX σM q := by
  obtain ⟨N, cap, T, o, oi, c, P, hX, hM⟩ := h
  have hN := hX.1.1
  have hpw := pwN hN.1 hN.2
  refine X_dearest (d := 4) hX (fun hb => ⟨_, rfl, M_dearest (d := 4) hM (fun _ => ⟨rfl, IJ.of hX hM (by omega)⟩) (fun a ha e1 => absurd ⟨a, ha, e1⟩ hb)⟩) (fun a ha e1 σ' hI' => ⟨_, rfl, M_dearest (d := 4) hM (fun hb => absurd ⟨a, ha, e1⟩ hb) (fun a' ha' e1' => ?_)⟩)
  have z0 : a' = a := nI_inj (by omega) (by omega) (e1'.symm.trans e1)
  subst z0
  exact ⟨rfl, IJ.of hI' hM (by omega)⟩
theorem S_letters {x1 : Int32} (h : IJ σX σM q) (hq : q < 2 ^ 29) : Same g M_X2_letters M_X3_letters [.ref (eA g 0), .int x1] [.ref (eA g 45), .int x1] σX σM q := by
  obtain ⟨N, cap, T, o, oi, c, P, hX, hM⟩ := h
  have hN := hX.1.1
  have hpw := pwN hN.1 hN.2
  refine X_letters (d := 5) hX (fun hb => ⟨_, rfl, M_letters (d := 4) hM (fun _ => ⟨rfl, IJ.of hX hM (by omega)⟩) (fun a ha e1 => absurd ⟨a, ha, e1⟩ hb)⟩) (fun a ha e1 => ⟨_, rfl, M_letters (d := 4) hM (fun hb => absurd ⟨a, ha, e1⟩ hb) (fun a' ha' e1' => ?_)⟩)
  have z0 : a' = a := nI_inj (by omega) (by omega) (e1'.symm.trans e1)
  subst z0
  exact ⟨rfl, IJ.of hX hM (by omega)⟩
theorem S_same {x1 x2 : Int32} (h : IJ σX σM q) (hq : q < 2 ^ 29) : Same g M_X2_same M_X3_same [.ref (eA g 0), .int x1, .int x2] [.ref (eA g 45), .int x1, .int x2] σX σM q := by
  obtain ⟨N, cap, T, o, oi, c, P, hX, hM⟩ := h
  have hN := hX.1.1
  have hpw := pwN hN.1 hN.2
  refine X_same (d := 5) hX (fun hb => ⟨_, rfl, M_same (d := 4) hM (fun _ => ⟨rfl, IJ.of hX hM (by omega)⟩) (fun a b ha hb' e1 e2 => absurd ⟨⟨a, ha, e1⟩, ⟨b, hb', e2⟩⟩ hb)⟩) (fun a b ha hb e1 e2 => ⟨fun hs => ⟨_, rfl, M_same (d := 4) hM (fun hb' => absurd ⟨⟨a, ha, e1⟩, ⟨b, hb, e2⟩⟩ hb') (fun a' b' ha' hb' e1' e2' => ?_)⟩, fun hs => ⟨_, rfl, M_same (d := 4) hM (fun hb' => absurd ⟨⟨a, ha, e1⟩, ⟨b, hb, e2⟩⟩ hb') (fun a' b' ha' hb' e1' e2' => ?_)⟩⟩)
  · have z0 : a' = a := nI_inj (by omega) (by omega) (e1'.symm.trans e1)
    have z1 : b' = b := nI_inj (by omega) (by omega) (e2'.symm.trans e2)
    subst z0 z1
    exact ⟨fun _ => ⟨rfl, IJ.of hX hM (by omega)⟩, fun hn => absurd hs hn⟩
  · have z0 : a' = a := nI_inj (by omega) (by omega) (e1'.symm.trans e1)
    have z1 : b' = b := nI_inj (by omega) (by omega) (e2'.symm.trans e2)
    subst z0 z1
    exact ⟨fun hn => absurd hn hs, fun _ => ⟨rfl, IJ.of hX hM (by omega)⟩⟩
theorem S_pick {x1 x2 : Int32} (h : IJ σX σM q) (hq : q < 2 ^ 29) : Same g M_X2_pick M_X3_pick [.ref (eA g 0), .int x1, .int x2] [.ref (eA g 45), .int x1, .int x2] σX σM q := by
  obtain ⟨N, cap, T, o, oi, c, P, hX, hM⟩ := h
  have hN := hX.1.1
  have hpw := pwN hN.1 hN.2
  refine X_pick (d := 4) hX (fun hb => ⟨_, rfl, M_pick (d := 4) hM (fun _ => ⟨rfl, IJ.of hX hM (by omega)⟩) (fun a ha e1 _ => absurd ⟨a, ha, e1⟩ hb) (fun a x ha e1 _ _ _ => absurd ⟨a, ha, e1⟩ hb)⟩) (fun a ha e1 hn σ' hI' => ⟨_, rfl, M_pick (d := 4) hM (fun hb => absurd ⟨a, ha, e1⟩ hb) (fun a' ha' e1' hn' => ⟨rfl, IJ.of hI' hM (by omega)⟩) (fun a' x ha' e1' hx ht hc => ?_)⟩) (fun a x ha e1 hx ht hc σ' hI' => ⟨_, rfl, M_pick (d := 4) hM (fun hb => absurd ⟨a, ha, e1⟩ hb) (fun a' ha' e1' hn' => ?_) (fun a' x' ha' e1' hx' ht' hc' => ?_)⟩)
  · have z0 : a' = a := nI_inj (by omega) (by omega) (e1'.symm.trans e1)
    subst z0
    exact absurd hc (hn x hx ht)
  · have z0 : a' = a := nI_inj (by omega) (by omega) (e1'.symm.trans e1)
    subst z0
    exact absurd hc (hn' x hx ht)
  · have z0 : a' = a := nI_inj (by omega) (by omega) (e1'.symm.trans e1)
    subst z0
    have l1 := cntB_le (T a') x
    have l2 := cntB_le (T a') x'
    have ec : cntB (T a') x' = cntB (T a') x := nI_inj (by omega) (by omega) (hc'.trans hc.symm)
    have ex : x' = x := by
      rcases (show x' < x ∨ x' = x ∨ x < x' by omega) with l | l | l
      · have := cnt_lt l ht'; omega
      · exact l
      · have := cnt_lt l ht; omega
    rw [ex]
    exact ⟨rfl, IJ.of hI' hM (by omega)⟩
theorem sum_uniq {F : Nat → Nat → Bool} {a b : Nat} {wk wk' : Nat → Nat} (h : ∀ k, k < N → Wid F N a b k (wk k)) (h' : ∀ k, k < N → Wid F N a b k (wk' k)) : sumN wk N = sumN wk' N := sumN_congr fun k hk => (h k hk).eq (h' k hk)
theorem S_size {x1 : Int32} (h : IJ σX σM q) (hq : q < 2 ^ 29) : Same g M_X2_size M_X3_size [.ref (eA g 0), .int x1] [.ref (eA g 45), .int x1] σX σM q := by
  obtain ⟨N, cap, T, o, oi, c, P, hX, hM⟩ := h
  have hN := hX.1.1
  have hpw := pwN hN.1 hN.2
  refine X_size (d := 1) hX (fun hb => ⟨_, rfl, M_size (d := 4) hM (by omega) (fun _ => ⟨rfl, IJ.of hX hM (by omega)⟩) (fun a wk ha e1 _ => absurd ⟨a, ha, e1⟩ hb)⟩) (fun a wk ha e1 hW σ' hI' => ⟨_, rfl, M_size (d := 4) hM (by omega) (fun hb => absurd ⟨a, ha, e1⟩ hb) (fun a' wk' ha' e1' hW' σ'' hI'' => ?_)⟩)
  have z0 : a' = a := nI_inj (by omega) (by omega) (e1'.symm.trans e1)
  subst z0
  rw [sum_uniq hW' hW]
  exact ⟨rfl, IJ.of hI' hI'' (by omega)⟩
theorem S_width {x1 x2 : Int32} (h : IJ σX σM q) (hq : q < 2 ^ 29) : Same g M_X2_width M_X3_width [.ref (eA g 0), .int x1, .int x2] [.ref (eA g 45), .int x1, .int x2] σX σM q := by
  obtain ⟨N, cap, T, o, oi, c, P, hX, hM⟩ := h
  have hN := hX.1.1
  have hpw := pwN hN.1 hN.2
  refine X_width (d := 1) hX (fun hb => ⟨_, rfl, M_width (d := 4) hM (by omega) (fun _ => ⟨rfl, IJ.of hX hM (by omega)⟩) (fun a k w ha hk e1 e2 _ => absurd ⟨⟨a, ha, e1⟩, ⟨k, hk, e2⟩⟩ hb)⟩) (fun a k w ha hk e1 e2 hW σ' hI' => ⟨_, rfl, M_width (d := 4) hM (by omega) (fun hb => absurd ⟨⟨a, ha, e1⟩, ⟨k, hk, e2⟩⟩ hb) (fun a' k' w' ha' hk' e1' e2' hW' σ'' hI'' => ?_)⟩)
  have z0 : a' = a := nI_inj (by omega) (by omega) (e1'.symm.trans e1)
  have z1 : k' = k := nI_inj (by omega) (by omega) (e2'.symm.trans e2)
  subst z0 z1
  rw [hW'.eq hW]
  exact ⟨rfl, IJ.of hI' hI'' (by omega)⟩
theorem S_level {x1 x2 : Int32} (h : IJ σX σM q) (hq : q < 2 ^ 29) : Same g M_X2_level M_X3_level [.ref (eA g 0), .int x1, .int x2] [.ref (eA g 45), .int x1, .int x2] σX σM q := by
  obtain ⟨N, cap, T, o, oi, c, P, hX, hM⟩ := h
  have hN := hX.1.1
  have hpw := pwN hN.1 hN.2
  refine X_level (d := 1) hX (fun hb => ⟨_, rfl, M_level (d := 4) hM (by omega) (fun _ => ⟨rfl, IJ.of hX hM (by omega)⟩) (fun k hk e1 e2 => absurd ⟨⟨k, hk, e1⟩, Or.inl e2⟩ hb) (fun k w hk e1 e2 _ => absurd ⟨⟨k, hk, e1⟩, Or.inr e2⟩ hb)⟩) (fun k hk e1 e2 => ⟨_, rfl, M_level (d := 4) hM (by omega) (fun hb => absurd ⟨⟨k, hk, e1⟩, Or.inl e2⟩ hb) (fun k' hk' e1' e2' => ?_) (fun k' w hk' e1' e2' _ => absurd (e2.symm.trans e2') (by decide))⟩) (fun k w hk e1 e2 hW σ' hI' => ⟨_, rfl, M_level (d := 4) hM (by omega) (fun hb => absurd ⟨⟨k, hk, e1⟩, Or.inr e2⟩ hb) (fun k' hk' e1' e2' => absurd (e2'.symm.trans e2) (by decide)) (fun k' w' hk' e1' e2' hW' σ'' hI'' => ?_)⟩)
  · have z0 : k' = k := nI_inj (by omega) (by omega) (e1'.symm.trans e1)
    subst z0
    exact ⟨rfl, IJ.of hX hM (by omega)⟩
  · have z0 : k' = k := nI_inj (by omega) (by omega) (e1'.symm.trans e1)
    subst z0
    rw [hW'.eq hW]
    exact ⟨rfl, IJ.of hI' hI'' (by omega)⟩
theorem S_count {x1 : Int32} (h : IJ σX σM q) (hq : q < 2 ^ 29) : Same g M_X2_count M_X3_count [.ref (eA g 0), .int x1] [.ref (eA g 45), .int x1] σX σM q := by
  obtain ⟨N, cap, T, o, oi, c, P, hX, hM⟩ := h
  have hN := hX.1.1
  have hpw := pwN hN.1 hN.2
  have ok : IJ σX σM (q + 200) := IJ.of hX hM (by omega)
  refine X_count (d := 1) hX (fun hb => ⟨_, rfl, M_count (d := 4) hM (by omega) (fun _ => ⟨rfl, ok⟩) (fun e => absurd ⟨0, by omega, e⟩ hb) (fun e => absurd ⟨1, by omega, e⟩ hb) (fun e => absurd ⟨2, by omega, e⟩ hb) (fun e => absurd ⟨3, by omega, e⟩ hb)⟩) (fun e => ⟨_, rfl, M_count (d := 4) hM (by omega) (fun hb => absurd ⟨0, by omega, e⟩ hb) (fun _ => ⟨rfl, ok⟩) (fun e' => absurd (e.symm.trans e') (by decide)) (fun e' => absurd (e.symm.trans e') (by decide)) (fun e' => absurd (e.symm.trans e') (by decide))⟩) (fun e => ⟨_, rfl, M_count (d := 4) hM (by omega) (fun hb => absurd ⟨1, by omega, e⟩ hb) (fun e' => absurd (e.symm.trans e') (by decide)) (fun _ => ⟨rfl, ok⟩) (fun e' => absurd (e.symm.trans e') (by decide)) (fun e' => absurd (e.symm.trans e') (by decide))⟩) (fun e wk hW σ' hI' => ⟨_, rfl, M_count (d := 4) hM (by omega) (fun hb => absurd ⟨2, by omega, e⟩ hb) (fun e' => absurd (e.symm.trans e') (by decide)) (fun e' => absurd (e.symm.trans e') (by decide)) (fun _ wk' hW' σ'' hI'' => ?_) (fun e' => absurd (e.symm.trans e') (by decide))⟩) (fun e => ⟨_, rfl, M_count (d := 4) hM (by omega) (fun hb => absurd ⟨3, by omega, e⟩ hb) (fun e' => absurd (e.symm.trans e') (by decide)) (fun e' => absurd (e.symm.trans e') (by decide)) (fun e' => absurd (e.symm.trans e') (by decide)) (fun _ => ⟨rfl, ok⟩)⟩)
  rw [sum_uniq hW' hW]
  exact ⟨rfl, IJ.of hI' hI'' (by omega)⟩
theorem first_uniq {P : Nat → Bool} {o : Nat → Nat} {k k' : Nat} (h1 : difB P N (o k) = true) (h2 : ∀ z, z < k → difB P N (o z) = false) (h1' : difB P N (o k') = true) (h2' : ∀ z, z < k' → difB P N (o z) = false) : k' = k := by
  rcases (show k' < k ∨ k' = k ∨ k < k' by omega) with l | l | l
  · rw [h2 k' l] at h1'; cases h1'
  · exact l
  · rw [h2' k l] at h1; cases h1
theorem S_go {one : Bool} (h : IJ σX σM q) (hq : q < 2 ^ 29) : Same g M_X2_go M_X3_go [.ref (eA g 0), .int (bI one)] [.ref (eA g 45), .int (bI one)] σX σM q := by
  obtain ⟨N, cap, T, o, oi, c, P, hX, hM⟩ := h
  have hN := hX.1.1
  have hpw := pwN hN.1 hN.2
  refine X_go (d := 4) hX (fun hn => ⟨_, rfl, M_go (d := 4) hM (fun _ => ⟨rfl, IJ.of hX hM (by omega)⟩) (fun k hk h1 _ => by rw [hn k hk] at h1; cases h1)⟩) (fun k hk h1 h2 σ' hI' => ⟨_, rfl, M_go (d := 4) hM (fun hn => by rw [hn k hk] at h1; cases h1) (fun k' hk' h1' h2' σ'' hI'' => ?_)⟩)
  have z0 := first_uniq h1 h2 h1' h2'
  subst z0
  exact ⟨rfl, IJ.of hI' hI'' (by omega)⟩
theorem S_at  (h : IJ σX σM q) (hq : q < 2 ^ 29) : Same g M_X2_at M_X3_at [.ref (eA g 0)] [.ref (eA g 45)] σX σM q := by
  obtain ⟨N, cap, T, o, oi, c, P, hX, hM⟩ := h
  have hN := hX.1.1
  have hpw := pwN hN.1 hN.2
  refine X_at (d := 4) hX (fun hn => ⟨_, rfl, M_at (d := 4) hM (fun _ => ⟨rfl, IJ.of hX hM (by omega)⟩) (fun k hk h1 _ => by rw [hn k hk] at h1; cases h1)⟩) (fun k hk h1 h2 => ⟨_, rfl, M_at (d := 4) hM (fun hn => by rw [hn k hk] at h1; cases h1) (fun k' hk' h1' h2' => ?_)⟩)
  have z0 := first_uniq h1 h2 h1' h2'
  subst z0
  exact ⟨rfl, IJ.of hX hM (by omega)⟩
theorem S_swap {x1 : Int32} (h : IJ σX σM q) (hq : q < 2 ^ 29) : Same g M_X2_swap M_X3_swap [.ref (eA g 0), .int x1] [.ref (eA g 45), .int x1] σX σM q := by
  obtain ⟨N, cap, T, o, oi, c, P, hX, hM⟩ := h
  have hN := hX.1.1
  have hpw := pwN hN.1 hN.2
  refine X_swap (d := 1) hX (fun hb => ⟨_, rfl, M_swap (d := 4) hM (by omega) (fun _ => ⟨rfl, IJ.of hX hM (by omega)⟩) (fun k hk e1 => absurd ⟨k, hk, e1⟩ hb)⟩) (fun k hk e1 => ⟨fun σ' hI' hle => ⟨_, rfl, M_swap (d := 4) hM (by omega) (fun hb => absurd ⟨k, hk, e1⟩ hb) (fun k' hk' e1' => ?_)⟩, fun σ' oi' hI' hgt => ⟨_, rfl, M_swap (d := 4) hM (by omega) (fun hb => absurd ⟨k, hk, e1⟩ hb) (fun k' hk' e1' => ?_)⟩⟩)
  · have z0 : k' = k := nI_inj (by omega) (by omega) (e1'.symm.trans e1)
    subst z0
    exact ⟨fun σ'' wk hI'' hW _ => ⟨rfl, IJ.of hI' hI'' (by omega)⟩, fun σ'' wk hI'' hW hgt => absurd (hle wk hW) (by omega)⟩
  · have z0 : k' = k := nI_inj (by omega) (by omega) (e1'.symm.trans e1)
    subst z0
    exact ⟨fun σ'' wk hI'' hW hle => absurd (hgt wk hW) (by omega), fun σ'' wk hI'' hW _ => ⟨rfl, IJ.of hI' (hI''.oi hI'.1.2.2.2.2.2.2.2.1) (by omega)⟩⟩
theorem S_sift {x1 : Int32} (h : IJ σX σM q) (hq : q < 2 ^ 29) : Same g M_X2_sift M_X3_sift [.ref (eA g 0), .int x1] [.ref (eA g 45), .int x1] σX σM q := by
  obtain ⟨N, cap, T, o, oi, c, P, hX, hM⟩ := h
  have hN := hX.1.1
  have hpw := pwN hN.1 hN.2
  refine X_sift (d := 0) hX (fun hb => ⟨_, rfl, M_sift (d := 4) hM (by omega) (fun _ => ⟨rfl, IJ.of hX hM (by omega)⟩) (fun v F oi' hv e1 => absurd ⟨v, hv, e1⟩ hb)⟩) (fun v F hv e1 hF σ' oi' hI' => ⟨_, rfl, M_sift (d := 4) hM (by omega) (fun hb => absurd ⟨v, hv, e1⟩ hb) (fun v' F' oi'' hv' e1' hF' σ'' hI'' => ?_)⟩)
  have z0 : v' = v := nI_inj (by omega) (by omega) (e1'.symm.trans e1)
  subst z0
  have hFF : bst F' (N - 1) = bst F (N - 1) := bst_congr fun m hm => by
    obtain ⟨wk, hW, hs⟩ := hF' m (by omega)
    rw [← hs]
    exact hF m (by omega) wk hW
  rw [hFF] at hI'' ⊢
  exact ⟨rfl, IJ.of hI' (hI''.oi hI'.1.2.2.2.2.2.2.2.1) (by omega)⟩
theorem S_fresh {x1 x2 : Int32} (h : IJ σX σM q) (hq : q < 2 ^ 29) : Same g M_X2_fresh M_X3_fresh [.ref (eA g 0), .int x1, .int x2] [.ref (eA g 45), .int x1, .int x2] σX σM q := by
  obtain ⟨N, cap, T, o, oi, c, P, hX, hM⟩ := h
  have hN := hX.1.1
  have hpw := pwN hN.1 hN.2
  refine X_fresh (d := 4) hX (fun hb => ⟨_, rfl, M_fresh (d := 4) hM.2.2.2 (fun _ => ⟨rfl, IJ.of hX hM (by omega)⟩) (fun n p h1 h2 hp e1 e2 => absurd ⟨⟨n, h1, h2, e1⟩, ⟨p, hp, e2⟩⟩ hb)⟩) (fun n p h1 h2 hp e1 e2 σ' hI' => ⟨_, rfl, M_fresh (d := 4) hM.2.2.2 (fun hb => absurd ⟨⟨n, h1, h2, e1⟩, ⟨p, hp, e2⟩⟩ hb) (fun n' p' h1' h2' hp' e1' e2' σ'' hI'' => ?_)⟩)
  have z0 : n' = n := nI_inj (by omega) (by omega) (e1'.symm.trans e1)
  have z1 : p' = p := nI_inj (by omega) (by omega) (e2'.symm.trans e2)
  subst z0 z1
  exact ⟨rfl, IJ.of hI' hI'' (by omega)⟩
end JOINT

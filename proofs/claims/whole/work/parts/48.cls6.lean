def difB (f : Nat → Bool) (N v : Nat) : Bool := (List.range (2 ^ N)).any (fun x => f (sbt x v true) != f (sbt x v false))
theorem difB_iff {f : Nat → Bool} {N v : Nat} : difB f N v = true ↔ ∃ x, x < 2 ^ N ∧ f (sbt x v true) ≠ f (sbt x v false) := by
  unfold difB
  rw [List.any_eq_true]
  constructor
  · rintro ⟨x, h1, h2⟩
    exact ⟨x, List.mem_range.mp h1, by simpa using h2⟩
  · rintro ⟨x, h1, h2⟩
    exact ⟨x, List.mem_range.mpr h1, by simpa using h2⟩
theorem difB_not {f : Nat → Bool} {N v : Nat} : difB f N v = false ↔ ∀ x, x < 2 ^ N → f (sbt x v true) = f (sbt x v false) := by
  rw [← Bool.not_eq_true, difB_iff]
  constructor
  · intro h x hx
    exact Classical.byContradiction fun q => h ⟨x, hx, q⟩
  · rintro h ⟨x, hx, q⟩
    exact q (h x hx)
def letF (f : Nat → Bool) (N : Nat) : Nat → Nat := fun v => if difB f N v then 2 ^ v else 0
theorem letF_lt (f : Nat → Bool) (N : Nat) : ∀ m, orN (letF f N) m < 2 ^ m := fun m => Nat.lt_pow_two_of_testBit _ fun q hq => by
  rw [Bool.eq_false_iff, ne_eq, orN_bit]
  rintro ⟨k, hk, h2⟩
  unfold letF at h2
  rw [ite_pow_bit] at h2
  simp only [Bool.and_eq_true, decide_eq_true_eq] at h2
  omega
/-- a register that is neither all yes nor all no -/
def mixB (f : Nat → Bool) (N : Nat) : Bool := (List.range (2 ^ N)).any (fun x => f x) && (List.range (2 ^ N)).any (fun x => !f x)
section CLS6
variable {g : Ev} {d : Nat} {σ : St} {K : Option Value → St → Prop} {N cap : Nat} {T : Nat → Nat → Bool} {o oi c : Nat → Nat} {P : Nat → Bool}
theorem reg_bit {a x : Nat} (hI : InvX σ N cap T o oi c P) (ha : a < 32) (hx : x < 2 ^ N) : tb (sL σ (11 + a)) (pos o N x) = T a x := by
  obtain ⟨hB, hT, hP⟩ := hI
  have hpw := pwN hB.1.1 hB.1.2
  have hpl := pos_lt (o := o) (N := N) x
  rw [hT.1 a ha _ (by omega)]
  simp only
  rw [spr_pos hB.2.2.2.2.2.2.2.1 hx]
  simp [hpl]
theorem X_pick {x1 x2 : Int32} (hI : InvX σ N cap T o oi c P) (hbad : ¬ isR x1 → K (some (.int (-2))) σ) (hno : ∀ a, a < 32 → x1 = nI a → (∀ x, x < 2 ^ N → T a x = true → nI (cntB (T a) x) ≠ x2) → ∀ σ', InvX σ' N cap T o oi c P → K (some (.int (-1))) σ') (hok : ∀ a x, a < 32 → x1 = nI a → x < 2 ^ N → T a x = true → nI (cntB (T a) x) = x2 → ∀ σ', InvX σ' N cap T o oi c P → K (some (.int (nI x))) σ') : Runs g 0 45 (d + 4) M_X2_pick [.ref (eA g 0), .int x1, .int x2] σ K := by
  have hB := hI.1
  have hpw := pwN hB.1.1 hB.1.2
  have hN := hB.1
  refine E_X2_pick g (d + 3) _ _ σ K (sp_isReg (d := d + 2) (fun a ha e => ⟨_, rfl, fun _ => ?_, fun q => absurd q n10⟩) (fun hn => ⟨_, rfl, fun q => absurd rfl q, fun _ => hbad hn⟩))
  subst e
  have hneg : ¬ nI 0 ≤ x2 → K (some (.int (-1))) σ := fun q => hno a ha rfl (fun x hx _ e => q (by
    have := cntB_le (T a) x
    rw [← e]
    exact nI_pos' (by omega))) σ hI
  refine ⟨fun _ => sp_listBits hB (fun f hf => ⟨rfl, ?_⟩), hneg⟩
  have hI2 : InvX (uIf σ 4 f) N cap T o oi c P := hI.scr (Or.inl rfl)
  have loop : ∀ x, x ≤ 2 ^ N → (∀ y, y < x → T a y = true → nI (cntB (T a) y) ≠ x2) → WP g 0 45 (d + 4) M_X2_pick 29 [(0, .ref (eA g 0)), (1, .int (nI a)), (2, .int x2), (3, .int (nI (cntB (T a) x))), (4, .int (nI x))] [] (uIf σ 4 f) K := by
    refine up_to (P := fun x => (∀ y, y < x → T a y = true → nI (cntB (T a) y) ≠ x2) → WP g 0 45 (d + 4) M_X2_pick 29 [(0, .ref (eA g 0)), (1, .int (nI a)), (2, .int x2), (3, .int (nI (cntB (T a) x))), (4, .int (nI x))] [] (uIf σ 4 f) K) (2 ^ N) ?_ ?_
    · intro hall
      refine R_X2_pick_29 g (d + 3) _ _ _ _ _ K ⟨fun _ => hno a ha rfl hall _ hI2, fun z => ?_⟩
      rw [sV_uIf, hB.2.2.1, jshl1 (by omega)] at z
      exact absurd (nI_le (Nat.le_refl _) (by omega)) z
    · intro x hx ih hall
      have hpl := pos_lt (o := o) (N := N) x
      refine R_X2_pick_29 g (d + 3) _ _ _ _ _ K ⟨fun z => ?_, fun _ => ?_⟩
      · rw [sV_uIf, hB.2.2.1, jshl1 (by omega)] at z
        exact absurd ((nI_leI (by omega) (by omega)).mp z) (by omega)
      · rw [vp_iff (by omega), vp_iff (by omega), nI_clamp (by omega), nI_clamp (by omega), sI_uIf, hf x hx]
        refine ⟨by omega, by show x < 8192; omega, sp_has (d := d + 2) (lenJ_t (by omega)) (by omega) ⟨_, rfl, ?_⟩⟩
        rw [reg_bit hI2 ha hx, bI_0, nI_1', nI_1']
        have stp : cntB (T a) (x + 1) = cntB (T a) x + (T a x).toNat := rfl
        refine ⟨fun q => ?_, fun q => ⟨fun q2 => ?_, fun q2 => hok a x ha rfl hx (by simpa using q) q2 _ hI2⟩⟩
        · have := ih (fun y hy hT => ?_)
          · rw [stp, q] at this
            exact this
          · rcases (show y < x ∨ y = x by omega) with h | rfl
            · exact hall y h hT
            · rw [q] at hT
              cases hT
        · have := ih (fun y hy hT => ?_)
          · rw [stp, show T a x = true by simpa using q] at this
            exact this
          · rcases (show y < x ∨ y = x by omega) with h | rfl
            · exact hall y h hT
            · exact q2
  exact loop 0 (Nat.zero_le _) (fun y hy => absurd hy (Nat.not_lt_zero _))
theorem X_cheapest {x1 : Int32} (hI : InvX σ N cap T o oi c P) (hbad : ¬ isR x1 → K (some (.int (-2))) σ) (hok : ∀ a, a < 32 → x1 = nI a → ∀ σ', InvX σ' N cap T o oi c P → K (some (.int (oI (chF (T a) (csN c N) (2 ^ N))))) σ') : Runs g 0 45 (d + 4) M_X2_cheapest [.ref (eA g 0), .int x1] σ K := by
  have hB := hI.1
  have hpw := pwN hB.1.1 hB.1.2
  have hN := hB.1
  have hc : ∀ v, v < 12 → c v ≤ 1000000 := fun v hv => (hB.2.2.2.2.2.2.2.2.2 v hv).2
  refine E_X2_cheapest g (d + 3) _ σ K (sp_isReg (d := d + 2) (fun a ha e => ⟨_, rfl, fun _ => ?_, fun q => absurd q n10⟩) (fun hn => ⟨_, rfl, fun q => absurd rfl q, fun _ => hbad hn⟩))
  subst e
  refine sp_listBits hB (fun f hf => ⟨rfl, ?_⟩)
  have hI1 : InvX (uIf σ 4 f) N cap T o oi c P := hI.scr (Or.inl rfl)
  refine sp_listCosts (d := d + 1) hI1.1 (fun f5 hf5 => ⟨rfl, ?_⟩)
  have hI2 : InvX (uIf (uIf σ 4 f) 5 f5) N cap T o oi c P := hI1.scr (Or.inr rfl)
  have e0 : sV (uIf (uIf σ 4 f) 5 f5) 0 = nI N := hB.2.2.1
  have e4 : sI (uIf (uIf σ 4 f) 5 f5) 4 = f := by rw [sI_uIfn (by decide), sI_uIf]
  have e5 : sI (uIf (uIf σ 4 f) 5 f5) 5 = f5 := sI_uIf
  generalize uIf (uIf σ 4 f) 5 f5 = σ2 at *
  have loop : ∀ x, x ≤ 2 ^ N → WP g 0 45 (d + 4) M_X2_cheapest 30 [(0, .ref (eA g 0)), (1, .int (nI a)), (2, .int (oI (chF (T a) (csN c N) x))), (3, .int (nI x))] [] σ2 K := by
    refine up_to (P := fun x => WP g 0 45 (d + 4) M_X2_cheapest 30 [(0, .ref (eA g 0)), (1, .int (nI a)), (2, .int (oI (chF (T a) (csN c N) x))), (3, .int (nI x))] [] σ2 K) (2 ^ N) ?_ ?_
    · refine R_X2_cheapest_30 g (d + 3) _ _ _ _ K ⟨fun _ => hok a ha rfl _ hI2, fun z => ?_⟩
      rw [e0, jshl1 (by omega)] at z
      exact absurd (nI_le (Nat.le_refl _) (by omega)) z
    · intro x hx ih
      have hpl := pos_lt (o := o) (N := N) x
      refine R_X2_cheapest_30 g (d + 3) _ _ _ _ K ⟨fun z => ?_, fun _ => ?_⟩
      · rw [e0, jshl1 (by omega)] at z
        exact absurd ((nI_leI (by omega) (by omega)).mp z) (by omega)
      · rw [vp_iff (by omega), vp_iff (by omega), vp_iff (by omega), nI_clamp (by omega), nI_clamp (by omega), e4, hf x hx]
        refine ⟨by omega, by show x < 8192; omega, sp_has (d := d + 2) (lenJ_t (by omega)) (by omega) ⟨_, rfl, ?_⟩⟩
        rw [reg_bit hI2 ha hx, bI_0, nI_1', e5, hf5 x hx]
        have stp : chF (T a) (csN c N) (x + 1) = (match chF (T a) (csN c N) x with
          | none => if T a x then some x else none
          | some b => if T a x && decide (csN c N x < csN c N b) then some x else some b) := rfl
        rw [stp] at ih
        have hcx := csN_le (c := c) (x := x) hN.2 hc
        cases hch : chF (T a) (csN c N) x with
        | none =>
          rw [hch] at ih
          refine ⟨fun q => ?_, fun q => ⟨fun _ => ?_, fun q2 => absurd rfl q2⟩⟩
          · rw [q] at ih
            exact ih
          · rw [show T a x = true by simpa using q] at ih
            exact ih
        | some b =>
          rw [hch] at ih
          have hb := chF_lt hch
          have hcb := csN_le (c := c) (x := b) hN.2 hc
          refine ⟨fun q => ?_, fun q => ⟨fun q2 => absurd q2 (nI_m1 (by omega)), fun _ => ?_⟩⟩
          · rw [q] at ih
            exact ih
          · show x < 8192 ∧ vp_in (nI b) (lenI 5) ∧ ((f5 (nI b).toNatClampNeg ≤ nI (csN c N x) → WP g 0 45 (d + 4) M_X2_cheapest 30 [(0, .ref (eA g 0)), (1, .int (nI a)), (2, .int (nI b)), (3, .int (nI (x + 1)))] [] σ2 K) ∧ (¬ f5 (nI b).toNatClampNeg ≤ nI (csN c N x) → WP g 0 45 (d + 4) M_X2_cheapest 30 [(0, .ref (eA g 0)), (1, .int (nI a)), (2, .int (nI x)), (3, .int (nI (x + 1)))] [] σ2 K))
            rw [vp_iff (by omega), nI_clamp (by omega), hf5 b (by omega), nI_leI (by omega) (by omega)]
            rw [show T a x = true by simpa using q] at ih
            simp only [Bool.true_and, decide_eq_true_eq] at ih
            refine ⟨by omega, by show b < 8192; omega, fun q3 => ?_, fun q3 => ?_⟩
            · rw [if_neg (by omega)] at ih
              exact ih
            · rw [if_pos (by omega)] at ih
              exact ih
  exact loop 0 (Nat.zero_le _)
theorem X_dearest {x1 : Int32} (hI : InvX σ N cap T o oi c P) (hbad : ¬ isR x1 → K (some (.int (-2))) σ) (hok : ∀ a, a < 32 → x1 = nI a → ∀ σ', InvX σ' N cap T o oi c P → K (some (.int (oI (deF (T a) (csN c N) (2 ^ N))))) σ') : Runs g 0 45 (d + 4) M_X2_dearest [.ref (eA g 0), .int x1] σ K := by
  have hB := hI.1
  have hpw := pwN hB.1.1 hB.1.2
  have hN := hB.1
  have hc : ∀ v, v < 12 → c v ≤ 1000000 := fun v hv => (hB.2.2.2.2.2.2.2.2.2 v hv).2
  refine E_X2_dearest g (d + 3) _ σ K (sp_isReg (d := d + 2) (fun a ha e => ⟨_, rfl, fun _ => ?_, fun q => absurd q n10⟩) (fun hn => ⟨_, rfl, fun q => absurd rfl q, fun _ => hbad hn⟩))
  subst e
  refine sp_listBits hB (fun f hf => ⟨rfl, ?_⟩)
  have hI1 : InvX (uIf σ 4 f) N cap T o oi c P := hI.scr (Or.inl rfl)
  refine sp_listCosts (d := d + 1) hI1.1 (fun f5 hf5 => ⟨rfl, ?_⟩)
  have hI2 : InvX (uIf (uIf σ 4 f) 5 f5) N cap T o oi c P := hI1.scr (Or.inr rfl)
  have e0 : sV (uIf (uIf σ 4 f) 5 f5) 0 = nI N := hB.2.2.1
  have e4 : sI (uIf (uIf σ 4 f) 5 f5) 4 = f := by rw [sI_uIfn (by decide), sI_uIf]
  have e5 : sI (uIf (uIf σ 4 f) 5 f5) 5 = f5 := sI_uIf
  generalize uIf (uIf σ 4 f) 5 f5 = σ2 at *
  have loop : ∀ x, x ≤ 2 ^ N → WP g 0 45 (d + 4) M_X2_dearest 30 [(0, .ref (eA g 0)), (1, .int (nI a)), (2, .int (oI (deF (T a) (csN c N) x))), (3, .int (nI x))] [] σ2 K := by
    refine up_to (P := fun x => WP g 0 45 (d + 4) M_X2_dearest 30 [(0, .ref (eA g 0)), (1, .int (nI a)), (2, .int (oI (deF (T a) (csN c N) x))), (3, .int (nI x))] [] σ2 K) (2 ^ N) ?_ ?_
    · refine R_X2_dearest_30 g (d + 3) _ _ _ _ K ⟨fun _ => hok a ha rfl _ hI2, fun z => ?_⟩
      rw [e0, jshl1 (by omega)] at z
      exact absurd (nI_le (Nat.le_refl _) (by omega)) z
    · intro x hx ih
      have hpl := pos_lt (o := o) (N := N) x
      refine R_X2_dearest_30 g (d + 3) _ _ _ _ K ⟨fun z => ?_, fun _ => ?_⟩
      · rw [e0, jshl1 (by omega)] at z
        exact absurd ((nI_leI (by omega) (by omega)).mp z) (by omega)
      · rw [vp_iff (by omega), vp_iff (by omega), vp_iff (by omega), nI_clamp (by omega), nI_clamp (by omega), e4, hf x hx]
        refine ⟨by omega, by show x < 8192; omega, sp_has (d := d + 2) (lenJ_t (by omega)) (by omega) ⟨_, rfl, ?_⟩⟩
        rw [reg_bit hI2 ha hx, bI_0, nI_1', e5, hf5 x hx]
        have stp : deF (T a) (csN c N) (x + 1) = (if T a x then some (match deF (T a) (csN c N) x with | none => csN c N x | some b => max b (csN c N x)) else deF (T a) (csN c N) x) := rfl
        rw [stp] at ih
        have hcx := csN_le (c := c) (x := x) hN.2 hc
        refine ⟨fun q => ?_, fun q => ⟨by show x < 8192; omega, ?_⟩⟩
        · rw [q] at ih
          exact ih
        · rw [show T a x = true by simpa using q, if_pos rfl] at ih
          cases hde : deF (T a) (csN c N) x with
          | none =>
            rw [hde] at ih
            have : (oI none : Int32) < nI (csN c N x) := by
              refine Int32.lt_iff_toInt_lt.mpr ?_
              rw [nI_toInt (by omega)]
              have e2 : (oI none).toInt = -1 := by decide
              omega
            rw [if_pos this]
            exact ih
          | some b =>
            rw [hde] at ih
            have hb := deF_le (m := 12000000) (fun y => csN_le (c := c) (x := y) hN.2 hc) hde
            show WP g 0 45 (d + 4) M_X2_dearest 30 [(0, .ref (eA g 0)), (1, .int (nI a)), (2, .int (if nI b < nI (csN c N x) then nI (csN c N x) else nI b)), (3, .int (nI (x + 1)))] [] σ2 K
            by_cases cc : b < csN c N x
            · rw [if_pos ((nI_ltI (by omega) (by omega)).mpr cc)]
              simp only [Nat.max_eq_right (Nat.le_of_lt cc)] at ih
              exact ih
            · rw [if_neg (fun z => cc ((nI_ltI (by omega) (by omega)).mp z))]
              simp only [Nat.max_eq_left (Nat.not_lt.mp cc)] at ih
              exact ih
  exact loop 0 (Nat.zero_le _)
theorem sp_differsBy {a v : Nat} (hI : InvX σ N cap T o oi c P) (ha : a < 32) (hv : v < N) (h : K (some (.int (bI (difB (T a) N v)))) σ) : Runs g 0 45 (d + 2) M_X2_differsBy [.ref (eA g 0), .ref (eA g (11 + a)), .int (nI (N - 1 - oi v))] σ K := by
  obtain ⟨hB, hT, hP⟩ := id hI
  have hpw := pwN hB.1.1 hB.1.2
  have hN := hB.1
  have hp := hB.2.2.2.2.2.2.2.1
  have hov := (hp.2 v hv).1
  refine E_X2_differsBy g (d + 1) _ _ σ K ?_
  have loop : ∀ q, q ≤ 2 ^ (N - 6) → (∀ i, i < 64 * q → i < 2 ^ N → T a (sbt (spr o N i) v true) = T a (sbt (spr o N i) v false)) → WP g 0 45 (d + 2) M_X2_differsBy 2 [(0, .ref (eA g 0)), (1, .ref (eA g (11 + a))), (2, .int (nI (N - 1 - oi v))), (3, .int (nI q))] [] σ K := by
    refine up_to (P := fun q => (∀ i, i < 64 * q → i < 2 ^ N → T a (sbt (spr o N i) v true) = T a (sbt (spr o N i) v false)) → WP g 0 45 (d + 2) M_X2_differsBy 2 [(0, .ref (eA g 0)), (1, .ref (eA g (11 + a))), (2, .int (nI (N - 1 - oi v))), (3, .int (nI q))] [] σ K) (2 ^ (N - 6)) ?_ ?_
    · intro hall
      refine R_X2_differsBy_2 g (d + 1) _ _ _ σ K ⟨fun _ => ?_, fun z => ?_⟩
      · have : difB (T a) N v = false := difB_not.mpr fun x hx => by
          have hl := pos_lt (o := o) (N := N) x
          have := hall (pos o N x) (by omega) hl
          rw [spr_pos hp hx] at this
          exact this
        rw [this] at h
        exact h
      · rw [hB.2.2.2.2.1] at z
        exact absurd (nI_le (Nat.le_refl _) (by omega)) z
    · intro q hq ih hall
      refine R_X2_differsBy_2 g (d + 1) _ _ _ σ K ⟨fun z => ?_, fun _ => ?_⟩
      · rw [hB.2.2.2.2.1] at z
        exact absurd ((nI_leI (by omega) (by omega)).mp z) (by omega)
      · refine sp_fixedWord (one := true) (lenJ_t (by omega)) (by omega) (by omega) (fun w hw => ⟨w, rfl, sp_fixedWord (one := false) (lenJ_t (by omega)) (by omega) (by omega) (fun w2 hw2 => ⟨w2, rfl, ?_⟩)⟩)
        rw [cmp_0, nI_1']
        have ev : ∀ z, z < 64 → bt w z = (decide (64 * q + z < 2 ^ N) && T a (sbt (spr o N (64 * q + z)) v true)) ∧ bt w2 z = (decide (64 * q + z < 2 ^ N) && T a (sbt (spr o N (64 * q + z)) v false)) := fun z hz => by
          rw [hw z hz, hw2 z hz, tab_fix hB hT ha hv (by omega), tab_fix hB hT ha hv (by omega)]
          exact ⟨rfl, rfl⟩
        refine ⟨fun e => ih fun i hi hi2 => ?_, fun e => ?_⟩
        · rcases Nat.lt_or_ge i (64 * q) with hlt | hge
          · exact hall i hlt hi2
          · have hz := ev (i - 64 * q) (by omega)
            rw [e, show 64 * q + (i - 64 * q) = i by omega] at hz
            have := hz.1.symm.trans hz.2
            simpa [hi2] using this
        · have : difB (T a) N v = true := by
            refine Classical.byContradiction fun hn => e ?_
            have hn := difB_not.mp (by simpa using hn)
            apply bt_ext
            intro z hz
            rw [(ev z hz).1, (ev z hz).2, hn _ (spr_lt hp _)]
          rw [this] at h
          exact h
  exact loop 0 (Nat.zero_le _) (fun i hi => absurd hi (by omega))
theorem X_letters {x1 : Int32} (hI : InvX σ N cap T o oi c P) (hbad : ¬ isR x1 → K (some (.int (-2))) σ) (hok : ∀ a, a < 32 → x1 = nI a → K (some (.int (nI (orN (letF (T a) N) N)))) σ) : Runs g 0 45 (d + 3) M_X2_letters [.ref (eA g 0), .int x1] σ K := by
  have hB := hI.1
  have hpw := pwN hB.1.1 hB.1.2
  have hN := hB.1
  refine E_X2_letters g (d + 2) _ σ K (sp_isReg (d := d + 1) (fun a ha e => ⟨_, rfl, fun _ => ?_, fun q => absurd q n10⟩) (fun hn => ⟨_, rfl, fun q => absurd rfl q, fun _ => hbad hn⟩))
  subst e
  have loop : ∀ v, v ≤ N → WP g 0 45 (d + 3) M_X2_letters 14 [(0, .ref (eA g 0)), (1, .int (nI a)), (2, .int (nI (orN (letF (T a) N) v))), (3, .int (nI v))] [] σ K := by
    refine up_to (P := fun v => WP g 0 45 (d + 3) M_X2_letters 14 [(0, .ref (eA g 0)), (1, .int (nI a)), (2, .int (nI (orN (letF (T a) N) v))), (3, .int (nI v))] [] σ K) N ?_ ?_
    · refine R_X2_letters_14 g (d + 2) _ _ _ σ K ⟨fun _ => hok a ha rfl, fun z => ?_⟩
      rw [hB.2.2.1] at z
      exact absurd (nI_le (Nat.le_refl _) (by omega)) z
    · intro v hv ih
      refine R_X2_letters_14 g (d + 2) _ _ _ σ K ⟨fun z => ?_, fun _ => ?_⟩
      · rw [hB.2.2.1] at z
        exact absurd ((nI_leI (by omega) (by omega)).mp z) (by omega)
      · rw [vp_iff (by omega), nI_clamp (by omega), jshl1 (by omega), nI_or, nI_1']
        refine ⟨by omega, sp_placeOf hB hv ⟨_, rfl, sp_differsBy hI ha hv ⟨_, rfl, ?_⟩⟩⟩
        have stp : orN (letF (T a) N) (v + 1) = orN (letF (T a) N) v ||| (if difB (T a) N v then 2 ^ v else 0) := rfl
        rw [stp] at ih
        rw [bI_0]
        refine ⟨fun q => ?_, fun q => ?_⟩
        · rw [q] at ih
          simp only [Bool.false_eq_true, if_false, Nat.or_zero] at ih
          exact ih
        · rw [show difB (T a) N v = true by simpa using q, if_pos rfl] at ih
          exact ih
  exact loop 0 (Nat.zero_le _)
theorem X_size {x1 : Int32} (hI : InvX σ N cap T o oi c P) (hbad : ¬ isR x1 → K (some (.int (-2))) σ) (hok : ∀ a wk, a < 32 → x1 = nI a → (∀ k, k < N → Wid (FT T o N) N a (a + 1) k (wk k)) → ∀ σ', InvX σ' N cap T o oi c P → K (some (.int (nI (sumN wk N)))) σ') : Runs g 0 45 (d + 7) M_X2_size [.ref (eA g 0), .int x1] σ K := by
  refine E_X2_size g (d + 6) _ σ K (sp_isReg (d := d + 5) (fun a ha e => ⟨_, rfl, fun _ => ?_, fun q => absurd q n10⟩) (fun hn => ⟨_, rfl, fun q => absurd rfl q, fun _ => hbad hn⟩))
  subst e
  exact sp_forksOne hI ha (fun σ' wk hw h7 hwk => ⟨_, rfl, hok a wk ha rfl (fun k hk => (hwk k hk).1) σ' (hI.W hw)⟩)
theorem X_width {x1 x2 : Int32} (hI : InvX σ N cap T o oi c P) (hbad : ¬ (isR x1 ∧ isIn N x2) → K (some (.int (-2))) σ) (hok : ∀ a k w, a < 32 → k < N → x1 = nI a → x2 = nI k → Wid (FT T o N) N a (a + 1) k w → ∀ σ', InvX σ' N cap T o oi c P → K (some (.int (nI w))) σ') : Runs g 0 45 (d + 7) M_X2_width [.ref (eA g 0), .int x1, .int x2] σ K := by
  have hN := hI.1.1
  refine E_X2_width g (d + 6) _ _ σ K (sp_isReg (d := d + 5) (fun a ha e => ⟨_, rfl, fun q => absurd q n10, fun _ => ?_⟩) (fun hn => ⟨_, rfl, fun _ => hbad (fun q => hn q.1), fun q => absurd rfl q⟩))
  refine sp_isLevel (d := d + 5) hI.1 (fun k hk e2 => ⟨_, rfl, fun _ => ?_, fun q => absurd q n10⟩) (fun hn => ⟨_, rfl, fun q => absurd rfl q, fun _ => hbad (fun q => hn q.2)⟩)
  subst e e2
  refine sp_forksOne hI ha (fun σ' wk hw h7 hwk => ⟨_, rfl, ?_⟩)
  rw [vp_iff (by omega), nI_clamp (by omega), h7 k hk]
  exact ⟨by show k < 12; omega, hok a k (wk k) ha hk rfl rfl (hwk k hk).1 σ' (hI.W hw)⟩
theorem X_level {x1 x2 : Int32} (hI : InvX σ N cap T o oi c P) (hbad : ¬ (isIn N x1 ∧ (x2 = nI 0 ∨ x2 = nI 1)) → K (some (.int (-1))) σ) (hok0 : ∀ k, k < N → x1 = nI k → x2 = nI 0 → K (some (.int (nI (o k)))) σ) (hok1 : ∀ k w, k < N → x1 = nI k → x2 = nI 1 → Wid (FT T o N) N 0 32 k w → ∀ σ', InvX σ' N cap T o oi c P → K (some (.int (nI w))) σ') : Runs g 0 45 (d + 7) M_X2_level [.ref (eA g 0), .int x1, .int x2] σ K := by
  have hN := hI.1.1
  refine E_X2_level g (d + 6) _ _ σ K (sp_isLevel (d := d + 5) hI.1 (fun k hk e => ⟨_, rfl, fun _ => ?_, fun q => absurd q n10⟩) (fun hn => ⟨_, rfl, fun q => absurd rfl q, fun _ => hbad (fun q => hn q.1)⟩))
  subst e
  refine ⟨fun q0 => ⟨fun q1 => hbad (fun q => q.2.elim q0 q1), fun q1 => ?_⟩, fun q0 => ?_⟩
  · refine sp_forksAll hI (fun σ' wk hw h7 hwk => ⟨_, rfl, ?_⟩)
    rw [vp_iff (by omega), nI_clamp (by omega), h7 k hk]
    exact ⟨by show k < 12; omega, hok1 k (wk k) hk rfl q1 (hwk k hk).1 σ' (hI.W hw)⟩
  · rw [vp_iff (by omega), nI_clamp (by omega), hI.1.2.2.2.2.2.2.2.2.1 k hk]
    exact ⟨by show k < 12; omega, hok0 k hk rfl q0⟩
end CLS6

theorem xor_sbt (x v : Nat) : x ^^^ 2 ^ v = sbt x v (!x.testBit v) := by
  apply Nat.eq_of_testBit_eq
  intro b
  rw [Nat.testBit_xor, Nat.testBit_two_pow, testBit_sbt]
  by_cases e : b = v
  · rw [if_pos e, e, decide_eq_true rfl]; cases x.testBit v <;> rfl
  · rw [if_neg e, decide_eq_false (show ¬ v = b from fun q => e q.symm)]; cases x.testBit b <;> rfl
theorem dif_xor {f : Nat → Bool} {x v : Nat} : f x = f (x ^^^ 2 ^ v) ↔ f (sbt x v true) = f (sbt x v false) := by
  rw [xor_sbt]
  have hs : ∀ b, x.testBit v = b → sbt x v b = x := fun b h => sbt_self h
  cases hb : x.testBit v
  · have := hs false hb
    rw [this]
    exact ⟨fun h => h.symm, fun h => h.symm⟩
  · have := hs true hb
    rw [this]
    exact Iff.rfl
theorem cnt_all {f : Nat → Bool} : ∀ {n : Nat}, cntB f n = n ↔ ∀ x, x < n → f x = true
  | 0 => ⟨fun _ x hx => absurd hx (Nat.not_lt_zero _), fun _ => rfl⟩
  | n + 1 => by
    show cntB f n + (f n).toNat = n + 1 ↔ _
    have hle := cntB_le f n
    constructor
    · intro h x hx
      cases hb : f n
      · rw [hb] at h; simp at h; omega
      · rw [hb] at h
        have h1 : cntB f n = n := by simp at h; omega
        rcases (show x < n ∨ x = n by omega) with l | rfl
        · exact cnt_all.mp h1 x l
        · exact hb
    · intro h
      rw [cnt_all.mpr (fun x hx => h x (by omega)), h n (by omega)]
      rfl
theorem difB_xor {f : Nat → Bool} {N v : Nat} : difB f N v = false ↔ ∀ x, x < 2 ^ N → f x = f (x ^^^ 2 ^ v) := by
  rw [difB_not]
  exact ⟨fun h x hx => dif_xor.mpr (h x hx), fun h x hx => dif_xor.mp (h x hx)⟩
theorem bI_inj {a b : Bool} : bI a = bI b ↔ a = b := by cases a <;> cases b <;> decide
section MOD9
variable {g : Ev} {d : Nat} {σ : St} {K : Option Value → St → Prop} {N cap q : Nat} {T : Nat → Nat → Bool} {o oi c : Nat → Nat} {P : Nat → Bool}
theorem m_costOf {x : Nat} (hB : MB σ N cap o oi c) (hx : x < 2 ^ N) (h : K (some (.int (nI (csN c N x)))) σ) : Runs g 45 59 (d + 1) M_X3_costOf [.ref (eA g 45), .int (nI x)] σ K := by
  obtain ⟨hN, hcap, h8, h9, h10, hp, ho, hc⟩ := id hB
  have hpw := pwN hN.1 hN.2
  refine E_X3_costOf g d _ σ K ?_
  have loop : ∀ v, v ≤ N → WP g 45 59 (d + 1) M_X3_costOf 4 [(0, .ref (eA g 45)), (1, .int (nI x)), (2, .int (nI (csN c v x))), (3, .int (nI v))] [] σ K := by
    refine up_to (P := fun v => WP g 45 59 (d + 1) M_X3_costOf 4 [(0, .ref (eA g 45)), (1, .int (nI x)), (2, .int (nI (csN c v x))), (3, .int (nI v))] [] σ K) N ?_ ?_
    · exact R_X3_costOf_4 g d _ _ _ σ K ⟨fun _ => h, fun q => absurd (le8 hN h8) q⟩
    · intro v hv ih
      have e : csN c (v + 1) x = csN c v x + if x.testBit v then c v else 0 := rfl
      rw [e] at ih
      refine R_X3_costOf_4 g d _ _ _ σ K ⟨fun q => absurd q (ge8 hN h8 hv), fun _ => ?_⟩
      rw [jb (by omega) (by omega), vp_iff (by omega), nI_clamp (by omega), (hc v (by omega)).1, nI_1', nI_add, nI_add]
      refine ⟨fun hb => ?_, fun hb => ⟨by show v < 12; omega, ?_⟩⟩
      · rw [if_neg hb] at ih; exact ih
      · rw [if_pos hb] at ih; exact ih
  exact loop 0 (Nat.zero_le _)
theorem M_cheapest {x1 : Int32} (hI : InvM σ N cap T o oi c P q) (hbad : ¬ isR x1 → K (some (.int (-2))) σ) (hok : ∀ a, a < 32 → x1 = nI a → K (some (.int (oI (chF (T a) (csN c N) (2 ^ N))))) σ) : Runs g 45 59 (d + 4) M_X3_cheapest [.ref (eA g 45), .int x1] σ K := by
  obtain ⟨hB, hT, hP, hS⟩ := id hI
  obtain ⟨hN, hcap, h8, h9, h10, hp, ho, hc⟩ := id hB
  have hpw := pwN hN.1 hN.2
  refine E_X3_cheapest g (d + 3) _ σ K (m_isReg (d := d + 2) (fun a ha e1 => ⟨_, rfl, fun _ => ?_, fun q => absurd q n10⟩) (fun hn => ⟨_, rfl, fun q => absurd rfl q, fun _ => hbad hn⟩))
  subst e1
  have loop : ∀ x, x ≤ 2 ^ N → WP g 45 59 (d + 4) M_X3_cheapest 15 [(0, .ref (eA g 45)), (1, .int (nI a)), (2, .int (oI (chF (T a) (csN c N) x))), (3, .int (nI x))] [] σ K := by
    refine up_to (P := fun x => WP g 45 59 (d + 4) M_X3_cheapest 15 [(0, .ref (eA g 45)), (1, .int (nI a)), (2, .int (oI (chF (T a) (csN c N) x))), (3, .int (nI x))] [] σ K) (2 ^ N) ?_ ?_
    · exact R_X3_cheapest_15 g (d + 3) _ _ _ σ K ⟨fun _ => hok a ha rfl, fun q => absurd (le9 hN h9) q⟩
    · intro x hx ih
      have ec : chF (T a) (csN c N) (x + 1) = match chF (T a) (csN c N) x with | none => if T a x then some x else none | some b => if T a x && decide (csN c N x < csN c N b) then some x else some b := rfl
      rw [ec] at ih
      refine R_X3_cheapest_15 g (d + 3) _ _ _ σ K ⟨fun q => absurd q (ge9 hN h9 hx), fun _ => m_get (d := d + 2) hT hN ha hx ⟨_, rfl, fun e => ?_, fun e => ?_⟩⟩
      · rw [bI_0.mp e] at ih
        rw [nI_1']
        cases hch : chF (T a) (csN c N) x with
        | none => rw [hch] at ih; exact ih
        | some b => rw [hch] at ih; exact ih
      · have e := bI_n0 e
        rw [e] at ih
        rw [nI_1']
        cases hch : chF (T a) (csN c N) x with
        | none =>
          rw [hch] at ih
          exact ⟨fun _ => ih, fun q => absurd rfl q⟩
        | some b =>
          have hb := chF_lt hch
          rw [hch] at ih
          have l1 := csN_le (c := c) (m := N) (x := x) hN.2 (fun v hv => (hc v hv).2)
          have l2 := csN_le (c := c) (m := N) (x := b) hN.2 (fun v hv => (hc v hv).2)
          refine ⟨fun q => absurd q (nI_m1 (by omega)), fun _ => m_costOf (d := d + 2) hB hx ⟨_, rfl, m_costOf (d := d + 2) hB (by omega) ⟨_, rfl, ?_⟩⟩⟩
          rw [nI_leI (by omega) (by omega)]
          have ih : WP g 45 59 (d + 4) M_X3_cheapest 15 [(0, .ref (eA g 45)), (1, .int (nI a)), (2, .int (oI (if true && decide (csN c N x < csN c N b) then some x else some b))), (3, .int (nI (x + 1)))] [] σ K := ih
          refine ⟨fun l => ?_, fun l => ?_⟩
          · rw [decide_eq_false (show ¬ csN c N x < csN c N b by omega)] at ih; exact ih
          · rw [decide_eq_true (show csN c N x < csN c N b by omega)] at ih; exact ih
  exact loop 0 (Nat.zero_le _)
theorem M_dearest {x1 : Int32} (hI : InvM σ N cap T o oi c P q) (hbad : ¬ isR x1 → K (some (.int (-2))) σ) (hok : ∀ a, a < 32 → x1 = nI a → K (some (.int (oI (deF (T a) (csN c N) (2 ^ N))))) σ) : Runs g 45 59 (d + 4) M_X3_dearest [.ref (eA g 45), .int x1] σ K := by
  obtain ⟨hB, hT, hP, hS⟩ := id hI
  obtain ⟨hN, hcap, h8, h9, h10, hp, ho, hc⟩ := id hB
  have hpw := pwN hN.1 hN.2
  refine E_X3_dearest g (d + 3) _ σ K (m_isReg (d := d + 2) (fun a ha e1 => ⟨_, rfl, fun _ => ?_, fun q => absurd q n10⟩) (fun hn => ⟨_, rfl, fun q => absurd rfl q, fun _ => hbad hn⟩))
  subst e1
  have hcs : ∀ x, csN c N x ≤ 12000000 := fun x => csN_le hN.2 (fun v hv => (hc v hv).2)
  have loop : ∀ x, x ≤ 2 ^ N → WP g 45 59 (d + 4) M_X3_dearest 15 [(0, .ref (eA g 45)), (1, .int (nI a)), (2, .int (oI (deF (T a) (csN c N) x))), (3, .int (nI x))] [] σ K := by
    refine up_to (P := fun x => WP g 45 59 (d + 4) M_X3_dearest 15 [(0, .ref (eA g 45)), (1, .int (nI a)), (2, .int (oI (deF (T a) (csN c N) x))), (3, .int (nI x))] [] σ K) (2 ^ N) ?_ ?_
    · exact R_X3_dearest_15 g (d + 3) _ _ _ σ K ⟨fun _ => hok a ha rfl, fun q => absurd (le9 hN h9) q⟩
    · intro x hx ih
      have ec : deF (T a) (csN c N) (x + 1) = if T a x then some (match deF (T a) (csN c N) x with | none => csN c N x | some b => max b (csN c N x)) else deF (T a) (csN c N) x := rfl
      rw [ec] at ih
      refine R_X3_dearest_15 g (d + 3) _ _ _ σ K ⟨fun q => absurd q (ge9 hN h9 hx), fun _ => m_get (d := d + 2) hT hN ha hx ⟨_, rfl, fun e => ?_, fun e => m_costOf (d := d + 2) hB hx ⟨_, rfl, ?_⟩⟩⟩
      · rw [bI_0.mp e] at ih
        rw [nI_1']
        exact ih
      · rw [bI_n0 e, if_pos rfl] at ih
        rw [nI_1']
        have l1 := hcs x
        cases hd : deF (T a) (csN c N) x with
        | none =>
          rw [hd] at ih
          have : (oI none : Int32) < nI (csN c N x) := by
            show (-1 : Int32) < _
            exact Int32.lt_of_lt_of_le (by decide : (-1 : Int32) < 0) (nI_pos' (by omega))
          rw [if_pos this]
          exact ih
        | some b =>
          rw [hd] at ih
          have l2 := deF_le hcs hd
          have ih : WP g 45 59 (d + 4) M_X3_dearest 15 [(0, .ref (eA g 45)), (1, .int (nI a)), (2, .int (nI (max b (csN c N x)))), (3, .int (nI (x + 1)))] [] σ K := ih
          show WP g 45 59 (d + 4) M_X3_dearest 15 [(0, .ref (eA g 45)), (1, .int (nI a)), (2, .int (if nI b < nI (csN c N x) then nI (csN c N x) else nI b)), (3, .int (nI (x + 1)))] [] σ K
          by_cases l : b < csN c N x
          · rw [if_pos (nI_lt l (by omega))]
            rw [Nat.max_eq_right (by omega)] at ih
            exact ih
          · rw [if_neg (fun q => l ((nI_ltI (by omega) (by omega)).mp q))]
            rw [Nat.max_eq_left (by omega)] at ih
            exact ih
  exact loop 0 (Nat.zero_le _)
theorem m_differs {a v : Nat} (hN : 1 ≤ N ∧ N ≤ 12) (hT : MT (sI σ 46) N T) (h9 : sV σ 9 = nI (2 ^ N)) (ha : a < 32) (hv : v < N) (h : K (some (.int (bI (difB (T a) N v)))) σ) : Runs g 45 59 (d + 2) M_X3_differs [.ref (eA g 45), .int (nI a), .int (nI v)] σ K := by
  have hpw := pwN hN.1 hN.2
  refine E_X3_differs g (d + 1) _ _ σ K ?_
  have loop : ∀ x, x ≤ 2 ^ N → (∀ y, y < x → T a y = T a (y ^^^ 2 ^ v)) → WP g 45 59 (d + 2) M_X3_differs 2 [(0, .ref (eA g 45)), (1, .int (nI a)), (2, .int (nI v)), (3, .int (nI x))] [] σ K := by
    refine up_to (P := fun x => (∀ y, y < x → T a y = T a (y ^^^ 2 ^ v)) → WP g 45 59 (d + 2) M_X3_differs 2 [(0, .ref (eA g 45)), (1, .int (nI a)), (2, .int (nI v)), (3, .int (nI x))] [] σ K) (2 ^ N) ?_ ?_
    · intro hy
      rw [difB_xor.mpr hy] at h
      exact R_X3_differs_2 g (d + 1) _ _ _ σ K ⟨fun _ => h, fun q => absurd (le9 hN h9) q⟩
    · intro x hx ih hy
      have hxl : x ^^^ 2 ^ v < 2 ^ N := by rw [xor_sbt]; exact sbt_lt hx hv
      refine R_X3_differs_2 g (d + 1) _ _ _ σ K ⟨fun q => absurd q (ge9 hN h9 hx), fun _ => m_get (d := d) hT hN ha hx ⟨_, rfl, ?_⟩⟩
      rw [jshl1 (by omega), nI_xor]
      refine m_get (d := d) hT hN ha hxl ⟨_, rfl, fun e => ?_, fun e => ?_⟩
      · rw [nI_1']
        refine ih fun y hy' => ?_
        rcases (show y < x ∨ y = x by omega) with l | rfl
        · exact hy y l
        · exact bI_inj.mp e
      · have : difB (T a) N v = true := by
          cases hd : difB (T a) N v
          · exact absurd (bI_inj.mpr (difB_xor.mp hd x hx)) e
          · rfl
        rw [this] at h
        exact h
  exact loop 0 (Nat.zero_le _) (fun y hy => absurd hy (Nat.not_lt_zero _))
theorem M_letters {x1 : Int32} (hI : InvM σ N cap T o oi c P q) (hbad : ¬ isR x1 → K (some (.int (-2))) σ) (hok : ∀ a, a < 32 → x1 = nI a → K (some (.int (nI (orN (letF (T a) N) N)))) σ) : Runs g 45 59 (d + 4) M_X3_letters [.ref (eA g 45), .int x1] σ K := by
  obtain ⟨hB, hT, hP, hS⟩ := id hI
  obtain ⟨hN, hcap, h8, h9, h10, hp, ho, hc⟩ := id hB
  have hpw := pwN hN.1 hN.2
  refine E_X3_letters g (d + 3) _ σ K (m_isReg (d := d + 2) (fun a ha e1 => ⟨_, rfl, fun _ => ?_, fun q => absurd q n10⟩) (fun hn => ⟨_, rfl, fun q => absurd rfl q, fun _ => hbad hn⟩))
  subst e1
  have loop : ∀ v, v ≤ N → WP g 45 59 (d + 4) M_X3_letters 15 [(0, .ref (eA g 45)), (1, .int (nI a)), (2, .int (nI (orN (letF (T a) N) v))), (3, .int (nI v))] [] σ K := by
    refine up_to (P := fun v => WP g 45 59 (d + 4) M_X3_letters 15 [(0, .ref (eA g 45)), (1, .int (nI a)), (2, .int (nI (orN (letF (T a) N) v))), (3, .int (nI v))] [] σ K) N ?_ ?_
    · exact R_X3_letters_15 g (d + 3) _ _ _ σ K ⟨fun _ => hok a ha rfl, fun q => absurd (le8 hN h8) q⟩
    · intro v hv ih
      have e : orN (letF (T a) N) (v + 1) = orN (letF (T a) N) v ||| (if difB (T a) N v then 2 ^ v else 0) := rfl
      rw [e] at ih
      refine R_X3_letters_15 g (d + 3) _ _ _ σ K ⟨fun q => absurd q (ge8 hN h8 hv), fun _ => m_differs (d := d + 1) hN hT h9 ha hv ⟨_, rfl, ?_⟩⟩
      rw [jshl1 (by omega), nI_or, nI_or, nI_1']
      refine ⟨fun q => ?_, fun q => ?_⟩
      · rw [bI_0.mp q] at ih; exact ih
      · rw [bI_n0 q] at ih; exact ih
  exact loop 0 (Nat.zero_le _)
theorem M_size {x1 : Int32} (hI : InvM σ N cap T o oi c P q) (hq : q < 2 ^ 30) (hbad : ¬ isR x1 → K (some (.int (-2))) σ) (hok : ∀ a wk, a < 32 → x1 = nI a → (∀ k, k < N → Wid (FT T o N) N a (a + 1) k (wk k)) → ∀ σ', InvM σ' N cap T o oi c P (q + 200) → K (some (.int (nI (sumN wk N)))) σ') : Runs g 45 59 (d + 4) M_X3_size [.ref (eA g 45), .int x1] σ K := by
  obtain ⟨hB, hT, hP, hS⟩ := id hI
  obtain ⟨hN, hcap, h8, h9, h10, hp, ho, hc⟩ := id hB
  refine E_X3_size g (d + 3) _ σ K (m_isReg (d := d + 2) (fun a ha e1 => ⟨_, rfl, fun q => absurd q n10, fun _ => ?_⟩) (fun hn => ⟨_, rfl, fun _ => hbad hn, fun q => absurd rfl q⟩))
  subst e1
  rw [nI_1']
  exact m_forksT (d := d + 1) hI hq (Or.inl rfl) hp ho (by omega) (by omega) (fun τ wk hM hfr h54 hW hle => ⟨_, rfl, hok a wk ha rfl (fun k hk => (hW k hk).1) τ (hM.le (by omega))⟩)
theorem M_width {x1 x2 : Int32} (hI : InvM σ N cap T o oi c P q) (hq : q < 2 ^ 30) (hbad : ¬ (isR x1 ∧ isIn N x2) → K (some (.int (-2))) σ) (hok : ∀ a k w, a < 32 → k < N → x1 = nI a → x2 = nI k → Wid (FT T o N) N a (a + 1) k w → ∀ σ', InvM σ' N cap T o oi c P (q + 200) → K (some (.int (nI w))) σ') : Runs g 45 59 (d + 4) M_X3_width [.ref (eA g 45), .int x1, .int x2] σ K := by
  obtain ⟨hB, hT, hP, hS⟩ := id hI
  obtain ⟨hN, hcap, h8, h9, h10, hp, ho, hc⟩ := id hB
  refine E_X3_width g (d + 3) _ _ σ K (m_isReg (d := d + 2) (fun a ha e1 => ⟨_, rfl, fun q => absurd q n10, fun _ => ?_⟩) (fun hn => ⟨_, rfl, fun _ => hbad (fun q => hn q.1), fun q => absurd rfl q⟩))
  rw [h8]
  refine rng_lt (by omega) (fun k hk e2 => ?_) (fun hn => hbad (fun q => hn q.2))
  subst e1 e2
  rw [nI_1', vp_iff (by omega), nI_clamp (by omega)]
  refine m_forksT (d := d + 1) hI hq (Or.inl rfl) hp ho (by omega) (by omega) (fun τ wk hM hfr h54 hW hle => ⟨_, rfl, by show k < 12; omega, ?_⟩)
  rw [h54 k hk]
  exact hok a k (wk k) ha hk rfl rfl (hW k hk).1 τ (hM.le (by omega))
theorem M_point {x1 : Int32} (hI : InvM σ N cap T o oi c P q) (hbad : ¬ isR x1 → K (some (.int (-2))) σ) (hok : ∀ a, a < 32 → x1 = nI a → ∀ σ', InvM σ' N cap T o oi c (T a) q → K (some (.int (nI 0))) σ') : Runs g 45 59 (d + 4) M_X3_point [.ref (eA g 45), .int x1] σ K := by
  obtain ⟨hB, hT, hP, hS⟩ := id hI
  obtain ⟨hN, hcap, h8, h9, h10, hp, ho, hc⟩ := id hB
  have hpw := pwN hN.1 hN.2
  refine E_X3_point g (d + 3) _ σ K (m_isReg (d := d + 2) (fun a ha e1 => ⟨_, rfl, fun _ => ?_, fun q => absurd q n10⟩) (fun hn => ⟨_, rfl, fun q => absurd rfl q, fun _ => hbad hn⟩))
  subst e1
  refine fillA (z := 48) (n := 2 ^ N) (h := T a) (lv := fun x => [(0, .ref (eA g 45)), (1, .int (nI a)), (2, .int x)]) (fun x f hx hf nx => ?_) (fun f hf => ?_)
  · refine R_X3_point_13 g (d + 3) _ _ _ _ ⟨fun c => absurd c (ge9 hN h9 hx), fun _ => m_getv (d := d + 2) (v := T a x) ha (by omega) (by rw [sI_uIfn (by decide)]; exact hT a x ha hx) ⟨_, rfl, ?_⟩⟩
    rw [vp_iff (by omega), nI_clamp (by omega), nI_1', uI_uIf, bI_vp]
    exact ⟨by show x < 4096; omega, nx⟩
  · refine R_X3_point_13 g (d + 3) _ _ _ _ ⟨fun _ => hok a ha rfl _ ⟨hB.I (by decide) (by decide), ?_, ?_, hS.I (by decide)⟩, fun c => absurd (le9 hN h9) c⟩
    · rw [sI_uIfn (by decide)]; exact hT
    · rw [sI_uIf]; exact hf
theorem m_first (hI : InvM σ N cap T o oi c P q) (hno : (∀ k, k < N → difB P N (o k) = false) → K (some (.int (-1))) σ) (hok : ∀ k, k < N → difB P N (o k) = true → (∀ k', k' < k → difB P N (o k') = false) → K (some (.int (nI (o k)))) σ) : Runs g 45 59 (d + 1) M_X3_firstLetter [.ref (eA g 45)] σ K := by
  obtain ⟨hB, hT, hP, hS⟩ := id hI
  obtain ⟨hN, hcap, h8, h9, h10, hp, ho, hc⟩ := id hB
  have hpw := pwN hN.1 hN.2
  refine E_X3_firstLetter g d σ K ?_
  have loop : ∀ k, k ≤ N → (∀ k', k' < k → difB P N (o k') = false) → WP g 45 59 (d + 1) M_X3_firstLetter 2 [(0, .ref (eA g 45)), (1, .int (nI k))] [] σ K := by
    refine up_to (P := fun k => (∀ k', k' < k → difB P N (o k') = false) → WP g 45 59 (d + 1) M_X3_firstLetter 2 [(0, .ref (eA g 45)), (1, .int (nI k))] [] σ K) N ?_ ?_
    · intro hk
      exact R_X3_firstLetter_2 g d _ σ K ⟨fun _ => hno hk, fun q => absurd (le8 hN h8) q⟩
    · intro k hk ih hy
      have hok' := hp.1 k hk
      refine R_X3_firstLetter_2 g d _ σ K ⟨fun q => absurd q (ge8 hN h8 hk), fun _ => ?_⟩
      have inner : ∀ x, x ≤ 2 ^ N → (∀ y, y < x → P y = P (y ^^^ 2 ^ o k)) → WP g 45 59 (d + 1) M_X3_firstLetter 12 [(0, .ref (eA g 45)), (1, .int (nI k)), (2, .int (nI x))] [] σ K := by
        refine up_to (P := fun x => (∀ y, y < x → P y = P (y ^^^ 2 ^ o k)) → WP g 45 59 (d + 1) M_X3_firstLetter 12 [(0, .ref (eA g 45)), (1, .int (nI k)), (2, .int (nI x))] [] σ K) (2 ^ N) ?_ ?_
        · intro hx
          refine R_X3_firstLetter_12 g d _ _ σ K ⟨fun _ => ?_, fun q => absurd (le9 hN h9) q⟩
          rw [nI_1']
          refine ih fun k' hk' => ?_
          rcases (show k' < k ∨ k' = k by omega) with l | rfl
          · exact hy k' l
          · exact difB_xor.mpr hx
        · intro x hx ih2 hz
          have hxl : x ^^^ 2 ^ o k < 2 ^ N := by rw [xor_sbt]; exact sbt_lt hx hok'.1
          refine R_X3_firstLetter_12 g d _ _ σ K ⟨fun q => absurd q (ge9 hN h9 hx), fun _ => ?_⟩
          rw [nI_clamp (show k < 2 ^ 31 by omega), ho k hk, jshl1 (by omega), nI_xor, vp_iff (by omega), vp_iff (by omega), vp_iff (by omega), nI_clamp (by omega), nI_clamp (by omega), hP x hx, hP _ hxl, nI_1', bI_inj]
          refine ⟨by show x < 4096; omega, by show k < 12; omega, by show _ < 4096; omega, fun e => ih2 fun y hy' => ?_, fun e => ⟨by show k < 12; omega, hok k hk ?_ hy⟩⟩
          · rcases (show y < x ∨ y = x by omega) with l | rfl
            · exact hz y l
            · exact e
          · cases hd : difB P N (o k)
            · exact absurd (difB_xor.mp hd x hx) e
            · rfl
      exact inner 0 (Nat.zero_le _) (fun y hy => absurd hy (Nat.not_lt_zero _))
  exact loop 0 (Nat.zero_le _) (fun y hy => absurd hy (Nat.not_lt_zero _))
theorem M_go {one : Bool} (hI : InvM σ N cap T o oi c P q) (hno : (∀ k, k < N → difB P N (o k) = false) → K (some (.int (nI 0))) σ) (hok : ∀ k, k < N → difB P N (o k) = true → (∀ k', k' < k → difB P N (o k') = false) → ∀ σ', InvM σ' N cap T o oi c (fun x => P (sbt x (o k) one)) q → K (some (.int (nI 1))) σ') : Runs g 45 59 (d + 4) M_X3_go [.ref (eA g 45), .int (bI one)] σ K := by
  obtain ⟨hB, hT, hP, hS⟩ := id hI
  obtain ⟨hN, hcap, h8, h9, h10, hp, ho, hc⟩ := id hB
  have hpw := pwN hN.1 hN.2
  refine E_X3_go g (d + 3) _ σ K (m_first (d := d + 2) hI (fun hn => ⟨_, rfl, fun q => absurd rfl q, fun _ => hno hn⟩) (fun k hk h1 h2 => ⟨_, rfl, fun _ => ?_, fun q => absurd q (nI_m1 (by have := hp.1 k hk; omega))⟩))
  have hok' := hp.1 k hk
  have hfin := hok k hk h1 h2
  refine fillA (z := 47) (n := 2 ^ N) (h := fun x => P (sbt x (o k) one)) (lv := fun x => [(0, .ref (eA g 45)), (1, .int (bI one)), (2, .int (nI (o k))), (3, .int x)]) (fun x f hx hf nx => ?_) (fun f hf => ?_)
  · have hsl := sbt_lt (b := one) hx hok'.1
    refine R_X3_go_14 g (d + 3) _ _ _ _ _ ⟨fun c => absurd c (ge9 hN h9 hx), fun _ => m_with (d := d + 2) (by omega) ⟨_, rfl, ?_⟩⟩
    rw [vp_iff (by omega), vp_iff (by omega), nI_clamp (by omega), nI_clamp (by omega), nI_1', uI_uIf, sI_uIfn (by decide), hP _ hsl, bI_vp]
    exact ⟨by show _ < 4096; omega, by show x < 4096; omega, nx⟩
  · refine R_X3_go_14 g (d + 3) _ _ _ _ _ ⟨fun _ => ?_, fun c => absurd (le9 hN h9) c⟩
    have hI' : InvM (uIf σ 47 f) N cap T o oi c P q := hI.made (Or.inl rfl)
    refine fillA (z := 48) (n := 2 ^ N) (h := fun x => P (sbt x (o k) one)) (lv := fun x => [(0, .ref (eA g 45)), (3, .int x)]) (fun x f1 hx hf1 nx => ?_) (fun f1 hf1 => ?_)
    · refine R_X3_go_47 g (d + 3) _ _ _ ⟨fun c => absurd c (ge9 hN h9 hx), fun _ => ?_⟩
      rw [vp_iff (by omega), vp_iff (by omega), nI_clamp (by omega), nI_1', uI_uIf, sI_uIfn (by decide), sI_uIf, hf x hx, bI_vp]
      exact ⟨by show x < 4096; omega, by show x < 4096; omega, nx⟩
    · refine R_X3_go_47 g (d + 3) _ _ _ ⟨fun _ => hfin _ ⟨hI'.1.I (by decide) (by decide), ?_, ?_, hI'.2.2.2.I (by decide)⟩, fun c => absurd (le9 hN h9) c⟩
      · rw [sI_uIfn (by decide)]; exact hI'.2.1
      · rw [sI_uIf]; exact hf1
theorem M_at (hI : InvM σ N cap T o oi c P q) (hno : (∀ k, k < N → difB P N (o k) = false) → K (some (.int (if P 0 then -3 else -2))) σ) (hok : ∀ k, k < N → difB P N (o k) = true → (∀ k', k' < k → difB P N (o k') = false) → K (some (.int (nI (o k)))) σ) : Runs g 45 59 (d + 4) M_X3_at [.ref (eA g 45)] σ K := by
  obtain ⟨hB, hT, hP, hS⟩ := id hI
  obtain ⟨hN, hcap, h8, h9, h10, hp, ho, hc⟩ := id hB
  have hpw := pwN hN.1 hN.2
  refine E_X3_at g (d + 3) σ K (m_first (d := d + 2) hI (fun hn => ⟨_, rfl, fun _ => ?_, fun q => absurd rfl q⟩) (fun k hk h1 h2 => ⟨_, rfl, fun q => absurd q (nI_m1 (by have := hp.1 k hk; omega)), fun _ => hok k hk h1 h2⟩))
  have hn := hno hn
  rw [vp_iff (by omega), nI_clamp (by omega), hP 0 (by omega)]
  refine ⟨by show 0 < 4096; omega, fun e => ?_, fun e => ?_⟩
  · rw [bI_0.mp e] at hn; exact hn
  · rw [bI_n0 e] at hn; exact hn
theorem M_level {x1 x2 : Int32} (hI : InvM σ N cap T o oi c P q) (hq : q < 2 ^ 30) (hbad : ¬ (isIn N x1 ∧ (x2 = nI 0 ∨ x2 = nI 1)) → K (some (.int (-1))) σ) (hok0 : ∀ k, k < N → x1 = nI k → x2 = nI 0 → K (some (.int (nI (o k)))) σ) (hok1 : ∀ k w, k < N → x1 = nI k → x2 = nI 1 → Wid (FT T o N) N 0 32 k w → ∀ σ', InvM σ' N cap T o oi c P (q + 200) → K (some (.int (nI w))) σ') : Runs g 45 59 (d + 4) M_X3_level [.ref (eA g 45), .int x1, .int x2] σ K := by
  obtain ⟨hB, hT, hP, hS⟩ := id hI
  obtain ⟨hN, hcap, h8, h9, h10, hp, ho, hc⟩ := id hB
  refine E_X3_level g (d + 3) _ _ σ K ?_
  rw [h8]
  refine rng_ge (by omega) (fun k hk e1 => rng_le (by omega) (fun t ht e2 => ?_) (fun hn => hbad (fun q => hn (q.2.elim (fun e => ⟨0, by omega, e⟩) (fun e => ⟨1, by omega, e⟩))))) (fun hn => hbad (fun q => hn q.1))
  subst e1
  rw [vp_iff (by omega), vp_iff (by omega), nI_clamp (by omega), ho k hk]
  refine ⟨fun hne => ?_, fun he => ⟨by show k < 12; omega, hok0 k hk rfl he⟩⟩
  have ht1 : t = 1 := by
    rcases (show t = 0 ∨ t = 1 by omega) with h | h
    · exact absurd (by rw [e2, h]) hne
    · exact h
  subst ht1
  refine m_forksT (d := d + 1) hI hq (Or.inl rfl) hp ho (by omega) (by omega) (fun τ wk hM hfr h54 hW hle => ⟨_, rfl, by show k < 12; omega, ?_⟩)
  rw [h54 k hk]
  exact hok1 k (wk k) hk rfl e2 (hW k hk).1 τ (hM.le (by omega))
theorem m_mixed (hI : InvM σ N cap T o oi c P q) (h : K (some (.int (nI (cntB (fun r => mixB (T r) N) 32)))) σ) : Runs g 45 59 (d + 3) M_X3_mixed [.ref (eA g 45)] σ K := by
  obtain ⟨hB, hT, hP, hS⟩ := id hI
  obtain ⟨hN, hcap, h8, h9, h10, hp, ho, hc⟩ := id hB
  have hpw := pwN hN.1 hN.2
  refine E_X3_mixed g (d + 2) σ K ?_
  have loop : ∀ r, r ≤ 32 → WP g 45 59 (d + 3) M_X3_mixed 4 [(0, .ref (eA g 45)), (1, .int (nI (cntB (fun r => mixB (T r) N) r))), (2, .int (nI r))] [] σ K := by
    refine up_to (P := fun r => WP g 45 59 (d + 3) M_X3_mixed 4 [(0, .ref (eA g 45)), (1, .int (nI (cntB (fun r => mixB (T r) N) r))), (2, .int (nI r))] [] σ K) 32 ?_ ?_
    · exact R_X3_mixed_4 g (d + 2) _ _ σ K ⟨fun _ => h, fun q => absurd (nI_le (Nat.le_refl _) (by omega)) q⟩
    · intro r hr ih
      have e : cntB (fun r => mixB (T r) N) (r + 1) = cntB (fun r => mixB (T r) N) r + (mixB (T r) N).toNat := rfl
      rw [e] at ih
      have hcl := cntB_le (T r) (2 ^ N)
      have no : mixB (T r) N = false → WP g 45 59 (d + 3) M_X3_mixed 4 [(0, .ref (eA g 45)), (1, .int (nI (cntB (fun r => mixB (T r) N) r) + nI 0)), (2, .int (nI r + nI 1))] [] σ K := fun hm => by
        rw [hm] at ih
        rw [nI_add, nI_1']
        exact ih
      refine R_X3_mixed_4 g (d + 2) _ _ σ K ⟨fun q => absurd ((nI_leI (by omega) (by omega)).mp q) (by omega), fun _ => m_many (d := d) hN hT h9 hr ⟨_, rfl, fun l => no ?_, fun l => m_many (d := d) hN hT h9 hr ⟨_, rfl, fun l2 => no ?_, fun l2 => ?_⟩⟩⟩
      · rw [nI_leI (by omega) (by omega)] at l
        exact mixB_not.mpr (Or.inl (cnt_none.mp (by omega)))
      · rw [h9, nI_leI (by omega) (by omega)] at l2
        exact mixB_not.mpr (Or.inr (cnt_all.mp (by omega)))
      · rw [nI_leI (by omega) (by omega)] at l
        rw [h9, nI_leI (by omega) (by omega)] at l2
        have hm : mixB (T r) N = true := by
          cases hm : mixB (T r) N
          · rcases mixB_not.mp hm with z | z
            · have := cnt_none.mpr z; omega
            · have := cnt_all.mpr z; omega
          · rfl
        rw [hm] at ih
        rw [nI_1', nI_1']
        exact ih
  exact loop 0 (Nat.zero_le _)
theorem M_count {x1 : Int32} (hI : InvM σ N cap T o oi c P q) (hq : q < 2 ^ 30) (hbad : (¬ ∃ j, j < 4 ∧ x1 = nI j) → K (some (.int (-1))) σ) (h0 : x1 = nI 0 → K (some (.int (nI N))) σ) (h1 : x1 = nI 1 → K (some (.int (nI cap))) σ) (h2 : x1 = nI 2 → ∀ wk, (∀ k, k < N → Wid (FT T o N) N 0 32 k (wk k)) → ∀ σ', InvM σ' N cap T o oi c P (q + 200) → K (some (.int (nI (sumN wk N)))) σ') (h3 : x1 = nI 3 → K (some (.int (nI (cntB (fun r => mixB (T r) N) 32)))) σ) : Runs g 45 59 (d + 4) M_X3_count [.ref (eA g 45), .int x1] σ K := by
  obtain ⟨hB, hT, hP, hS⟩ := id hI
  obtain ⟨hN, hcap, h8, h9, h10, hp, ho, hc⟩ := id hB
  refine E_X3_count g (d + 3) _ σ K ?_
  rw [h8, h10]
  refine ⟨h0, h1, fun e => m_forksT (d := d + 1) hI hq (Or.inl rfl) hp ho (by omega) (by omega) (fun τ wk hM hfr h54 hW hle => ⟨_, rfl, h2 e wk (fun k hk => (hW k hk).1) τ (hM.le (by omega))⟩), fun e => m_mixed (d := d) hI ⟨_, rfl, h3 e⟩, fun hr => hbad ?_⟩
  rintro ⟨j, hj, e⟩
  rw [e] at hr
  rcases hr with hr | hr
  · exact nI_pos (by omega) hr
  · rw [nI_ltI (by omega) (by omega)] at hr; omega
end MOD9

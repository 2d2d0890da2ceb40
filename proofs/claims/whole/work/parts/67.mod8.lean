theorem rng_le {A B : Prop} {x : Int32} {m : Nat} (hm : m + 1 < 2 ^ 31) (hB : ∀ t, t < m + 1 → x = nI t → B) (hA : ¬ isIn (m + 1) x → A) : (x < nI 0 → A) ∧ (¬ x < nI 0 → ((x ≤ nI m → B) ∧ (¬ x ≤ nI m → A))) := by
  rcases nI_cases x hm with ⟨t, ht, e⟩ | hx
  · refine ⟨fun q => absurd q (by rw [e]; exact nI_pos (by omega)), fun _ => ⟨fun _ => hB t ht e, fun q => absurd ?_ q⟩⟩
    rw [e]; exact nI_le (by omega) (by omega)
  · have hn : ¬ isIn (m + 1) x := fun ⟨t, ht, e⟩ => hx (by rw [e]; exact nI_rng ht (by omega))
    refine ⟨fun _ => hA hn, fun q => ⟨fun q2 => absurd ⟨Int32.not_lt.mp q, Int32.lt_of_le_of_lt q2 (nI_lt (by omega) hm)⟩ hx, fun _ => hA hn⟩⟩
theorem rng_lt {A B : Prop} {x : Int32} {n : Nat} (hn : n < 2 ^ 31) (hB : ∀ t, t < n → x = nI t → B) (hA : ¬ isIn n x → A) : (x < nI 0 → A) ∧ (¬ x < nI 0 → ((x < nI n → B) ∧ (¬ x < nI n → A))) := by
  rcases nI_cases x hn with ⟨t, ht, e⟩ | hx
  · refine ⟨fun q => absurd q (by rw [e]; exact nI_pos (by omega)), fun _ => ⟨fun _ => hB t ht e, fun q => absurd ?_ q⟩⟩
    rw [e]; exact nI_lt ht (by omega)
  · have hn : ¬ isIn n x := fun ⟨t, ht, e⟩ => hx (by rw [e]; exact nI_rng ht (by omega))
    refine ⟨fun _ => hA hn, fun q => ⟨fun q2 => absurd ⟨Int32.not_lt.mp q, q2⟩ hx, fun _ => hA hn⟩⟩
theorem rng_ge {A B : Prop} {x : Int32} {n : Nat} (hn : n < 2 ^ 31) (hB : ∀ t, t < n → x = nI t → B) (hA : ¬ isIn n x → A) : (x < nI 0 → A) ∧ (¬ x < nI 0 → ((nI n ≤ x → A) ∧ (¬ nI n ≤ x → B))) := by
  have := rng_lt hn hB hA
  refine ⟨this.1, fun q => ⟨fun q2 => (this.2 q).2 (Int32.not_lt.mpr q2), fun q2 => (this.2 q).1 (Int32.not_le.mp q2)⟩⟩
theorem sumT_succ (all : Bool) (mask v : Nat) (f : Nat → Bool) (h : mask.testBit v = true) (x : Nat) : sumT all mask (v + 1) f x = (if all then sumT all mask v f (sbt x v true) && sumT all mask v f (sbt x v false) else sumT all mask v f (sbt x v true) || sumT all mask v f (sbt x v false)) := by
  show (if mask.testBit v then fun x => if all then sumT all mask v f (sbt x v true) && sumT all mask v f (sbt x v false) else sumT all mask v f (sbt x v true) || sumT all mask v f (sbt x v false) else sumT all mask v f) x = _
  rw [if_pos h]
theorem sumT_skip (all : Bool) (mask v : Nat) (f : Nat → Bool) (h : mask.testBit v = false) : sumT all mask (v + 1) f = sumT all mask v f := by
  show (if mask.testBit v then fun x => if all then sumT all mask v f (sbt x v true) && sumT all mask v f (sbt x v false) else sumT all mask v f (sbt x v true) || sumT all mask v f (sbt x v false) else sumT all mask v f) = _
  rw [h]; rfl
section MOD8
variable {g : Ev} {d : Nat} {σ : St} {K : Option Value → St → Prop} {N cap q : Nat} {T : Nat → Nat → Bool} {o oi c : Nat → Nat} {P : Nat → Bool}
theorem m_sumv {x1 x3 : Int32} {v : Nat} {all : Bool} {S S' : Nat → Bool} (hN : 1 ≤ N ∧ N ≤ 12) (h9 : sV σ 9 = nI (2 ^ N)) (hv : v < N) (hS : ∀ x, S' x = (if all then S (sbt x v true) && S (sbt x v false) else S (sbt x v true) || S (sbt x v false))) {f0 : Nat → Int32} (hf0 : ∀ x, x < 2 ^ N → f0 x = bI (S x))
    (h : ∀ f, (∀ x, x < 2 ^ N → f x = bI (S' x)) → WP g 45 59 (d + 4) M_X3_sum 66 [(0, .ref (eA g 45)), (1, .int x1), (3, .int x3), (4, .int (bI all)), (5, .int (nI (v + 1)))] [] (uIf σ 47 f) K) :
    WP g 45 59 (d + 4) M_X3_sum 90 [(0, .ref (eA g 45)), (1, .int x1), (3, .int x3), (4, .int (bI all)), (5, .int (nI v)), (6, .int (nI 0))] [] (uIf σ 47 f0) K := by
  have hpw := pwN hN.1 hN.2
  have loop : ∀ x, x ≤ 2 ^ N → ∀ f, (∀ z, z < 2 ^ N → f z = bI (if sbt z v false < x then S' z else S z)) → WP g 45 59 (d + 4) M_X3_sum 90 [(0, .ref (eA g 45)), (1, .int x1), (3, .int x3), (4, .int (bI all)), (5, .int (nI v)), (6, .int (nI x))] [] (uIf σ 47 f) K := by
    refine up_to (P := fun x => ∀ f, (∀ z, z < 2 ^ N → f z = bI (if sbt z v false < x then S' z else S z)) → WP g 45 59 (d + 4) M_X3_sum 90 [(0, .ref (eA g 45)), (1, .int x1), (3, .int x3), (4, .int (bI all)), (5, .int (nI v)), (6, .int (nI x))] [] (uIf σ 47 f) K) (2 ^ N) ?_ ?_
    · intro f hf
      refine R_X3_sum_90 g (d + 3) _ _ _ _ _ _ K ⟨fun _ => ?_, fun c => absurd (le9 hN h9) c⟩
      rw [nI_1']
      refine h f fun x hx => ?_
      rw [hf x hx, if_pos (sbt_lt hx hv)]
    · intro x hx ih f hf
      refine R_X3_sum_90 g (d + 3) _ _ _ _ _ _ K ⟨fun c => absurd c (ge9 hN h9 hx), fun _ => ?_⟩
      rw [jb (by omega) (by omega)]
      refine ⟨fun hb => ?_, fun hb => ?_⟩
      · have hb : x.testBit v = false := eq_false_of_ne_true hb
        have hxs : sbt x v false = x := sbt_self hb
        have hy : x ||| 2 ^ v = sbt x v true := rfl
        have hyl := sbt_lt (b := true) hx hv
        have hys : sbt (sbt x v true) v false = x := by rw [sbt_sbt, hxs]
        have fx : f x = bI (S x) := by rw [hf x hx, hxs, if_neg (by omega)]
        have fy : f (sbt x v true) = bI (S (sbt x v true)) := by rw [hf _ hyl, hys, if_neg (by omega)]
        have Sx : S' x = (if all then S (sbt x v true) && S x else S (sbt x v true) || S x) := by rw [hS, hxs]
        have Sy : S' (sbt x v true) = S' x := by rw [hS, hS, sbt_sbt, sbt_sbt]
        have vx : x < lenZ 47 := by show x < 4096; omega
        have vy : sbt x v true < lenZ 47 := by show _ < 4096; omega
        have lf : ∀ b : Bool, b = S' x → x < lenZ 47 ∧ sbt x v true < lenZ 47 ∧ WP g 45 59 (d + 4) M_X3_sum 90 [(0, .ref (eA g 45)), (1, .int x1), (3, .int x3), (4, .int (bI all)), (5, .int (nI v)), (6, .int (nI x + nI 1))] [] (uI (uI (uIf σ 47 f) 47 x (vp_nar .boolean (bI b))) 47 (sbt x v true) (vp_nar .boolean (bI b))) K := by
          intro b hbv
          refine ⟨vx, vy, ?_⟩
          rw [nI_1', uI_uIf, uI_uIf, bI_vp]
          refine ih _ fun z hz => ?_
          by_cases e1 : z = sbt x v true
          · rw [e1, upd_eq, hys, if_pos (by omega), Sy, hbv]
          · rw [upd_ne e1]
            by_cases e2 : z = x
            · rw [e2, upd_eq, hxs, if_pos (by omega), hbv]
            · rw [upd_ne e2, hf z hz]
              have : sbt z v false ≠ x := fun e => by
                cases hzb : z.testBit v
                · rw [sbt_self hzb] at e; exact e2 e
                · exact e1 (by rw [← e, sbt_sbt, sbt_self hzb])
              by_cases l : sbt z v false < x
              · rw [if_pos l, if_pos (by omega)]
              · rw [if_neg l, if_neg (by omega)]
        rw [jshl1 (by omega), nI_or, hy, vp_iff (by omega), vp_iff (by omega), nI_clamp (by omega), nI_clamp (by omega), sI_uIf, fx, fy]
        cases all
        · refine ⟨fun _ => ⟨vx, fun e => lf true ?_, fun e => ⟨vy, fun e2 => lf false ?_, fun e2 => lf true ?_⟩⟩, fun e => absurd rfl e⟩
          · rw [Sx, bI_n0 e]; simp
          · rw [Sx, bI_0.mp e, bI_0.mp e2]; rfl
          · rw [Sx, bI_n0 e2]; rfl
        · refine ⟨fun e => absurd e (by decide), fun _ => ⟨vx, fun e => lf false ?_, fun e => ⟨vy, fun e2 => lf false ?_, fun e2 => lf true ?_⟩⟩⟩
          · rw [Sx, bI_0.mp e]; simp
          · rw [Sx, bI_0.mp e2]; rfl
          · rw [Sx, bI_n0 e, bI_n0 e2]; rfl
      · rw [nI_1']
        refine ih f fun z hz => ?_
        have : sbt z v false ≠ x := fun e => by
          rw [← e, testBit_sbt, if_pos rfl] at hb
          cases hb
        rw [hf z hz]
        by_cases l : sbt z v false < x
        · rw [if_pos l, if_pos (by omega)]
        · rw [if_neg l, if_neg (by omega)]
  exact loop 0 (Nat.zero_le _) f0 fun z hz => by rw [hf0 z hz, if_neg (Nat.not_lt_zero _)]
theorem M_sum {x1 x2 x3 : Int32} {all : Bool} (hI : InvM σ N cap T o oi c P q) (hq : q < 2 ^ 30) (hbad : ¬ (isR x1 ∧ isR x2 ∧ isIn (2 ^ N) x3) → K (some (.int (-2))) σ) (hok : ∀ j a m, j < 32 → a < 32 → m < 2 ^ N → x1 = nI j → x2 = nI a → x3 = nI m → KM N cap T o oi c P q j (sumT all m N (T a)) K) : Runs g 45 59 (d + 4) M_X3_sum [.ref (eA g 45), .int x1, .int x2, .int x3, .int (bI all)] σ K := by
  obtain ⟨hB, hT, hP, hS⟩ := id hI
  obtain ⟨hN, hcap, h8, h9, h10, hp, ho, hc⟩ := id hB
  have hpw := pwN hN.1 hN.2
  refine E_X3_sum g (d + 3) _ _ _ _ σ K (m_isReg (d := d + 2) (fun j hj e1 => ⟨_, rfl, fun q => absurd q n10, fun _ => m_isReg (d := d + 2) (fun a ha e2 => ⟨_, rfl, fun q => absurd q n10, fun _ => ?_⟩) (fun hn => ⟨_, rfl, fun _ => hbad (fun q => hn q.2.1), fun q => absurd rfl q⟩)⟩) (fun hn => ⟨_, rfl, fun _ => hbad (fun q => hn q.1), fun q => absurd rfl q⟩))
  rw [h9]
  refine rng_lt (by omega) (fun m hm e3 => ?_) (fun hn => hbad (fun q => hn q.2.2))
  subst e1 e2 e3
  replace hok := hok j a m hj ha hm rfl rfl rfl
  refine fillA (z := 47) (n := 2 ^ N) (h := T a) (lv := fun x => [(0, .ref (eA g 45)), (1, .int (nI j)), (2, .int (nI a)), (3, .int (nI m)), (4, .int (bI all)), (5, .int x)]) (fun x f hx hf nx => ?_) (fun f hf => ?_)
  · refine R_X3_sum_34 g (d + 3) _ _ _ _ _ _ _ ⟨fun c => absurd c (ge9 hN h9 hx), fun _ => m_getv (d := d + 2) (v := T a x) ha (by omega) (by rw [sI_uIfn (by decide)]; exact hT a x ha hx) ⟨_, rfl, ?_⟩⟩
    rw [vp_iff (by omega), nI_clamp (by omega), nI_1', uI_uIf, bI_vp]
    exact ⟨by show x < 4096; omega, nx⟩
  · refine R_X3_sum_34 g (d + 3) _ _ _ _ _ _ _ ⟨fun _ => ?_, fun c => absurd (le9 hN h9) c⟩
    have loop : ∀ v, v ≤ N → ∀ f, (∀ x, x < 2 ^ N → f x = bI (sumT all m v (T a) x)) → WP g 45 59 (d + 4) M_X3_sum 66 [(0, .ref (eA g 45)), (1, .int (nI j)), (3, .int (nI m)), (4, .int (bI all)), (5, .int (nI v))] [] (uIf σ 47 f) K := by
      refine up_to (P := fun v => ∀ f, (∀ x, x < 2 ^ N → f x = bI (sumT all m v (T a) x)) → WP g 45 59 (d + 4) M_X3_sum 66 [(0, .ref (eA g 45)), (1, .int (nI j)), (3, .int (nI m)), (4, .int (bI all)), (5, .int (nI v))] [] (uIf σ 47 f) K) N ?_ ?_
      · intro f hf
        exact R_X3_sum_66 g (d + 3) _ _ _ _ _ _ ⟨fun _ => m_puts (d := d) hI hq hj hf hok, fun c => absurd (le8 hN h8) c⟩
      · intro v hv ih f hf
        refine R_X3_sum_66 g (d + 3) _ _ _ _ _ _ ⟨fun c => absurd c (ge8 hN h8 hv), fun _ => ?_⟩
        rw [jb0 (by omega) (by omega), nI_1']
        refine ⟨fun hb => m_sumv hN h9 hv (sumT_succ all m v (T a) (by simpa using hb)) hf ih, fun hb => ih f ?_⟩
        rw [sumT_skip _ _ _ _ hb]
        exact hf
    exact loop 0 (Nat.zero_le _) f hf
theorem M_fresh {x1 x2 : Int32} (hS : MS σ q) (hbad : ¬ ((∃ n, 1 ≤ n ∧ n ≤ 12 ∧ x1 = nI n) ∧ isIn 20001 x2) → K (some (.int (nI 0))) σ) (hok : ∀ n p, 1 ≤ n → n ≤ 12 → p < 20001 → x1 = nI n → x2 = nI p → ∀ σ', InvM σ' n p (fun _ _ => false) (fun k => k) (fun k => k) (fun _ => 0) (fun _ => false) q → K (some (.int (nI 1))) σ') : Runs g 45 59 (d + 4) M_X3_fresh [.ref (eA g 45), .int x1, .int x2] σ K := by
  refine E_X3_fresh g (d + 3) _ _ σ K ?_
  suffices hs : ∀ n p, 1 ≤ n → n ≤ 12 → p < 20001 → x1 = nI n → x2 = nI p → WP g 45 59 (d + 4) M_X3_fresh 46 [(0, .ref (eA g 45)), (3, .int (nI 0))] [] (uV (uV (uV σ 8 x1) 9 (jshl (nI 1) (sV (uV σ 8 x1) 8))) 10 x2) K by
    rcases nI_cases x1 (show 13 < 2 ^ 31 by omega) with ⟨n, hn, e⟩ | hx
    · by_cases h1 : 1 ≤ n
      · refine ⟨fun c => ?_, fun _ => ⟨fun c => ?_, fun _ => rng_le (by omega) (fun p hp e2 => hs n p h1 (by omega) hp e e2) (fun hn => hbad (fun q => hn q.2))⟩⟩
        · rw [e, nI_ltI (by omega) (by omega)] at c; omega
        · rw [e, nI_ltI (by omega) (by omega)] at c; omega
      · have hb : ¬ ((∃ n, 1 ≤ n ∧ n ≤ 12 ∧ x1 = nI n) ∧ isIn 20001 x2) := fun ⟨⟨n', q1, q2, q3⟩, _⟩ => by
          rw [e] at q3
          have := nI_inj (by omega) (by omega) q3
          omega
        refine ⟨fun _ => hbad hb, fun c => absurd ?_ c⟩
        rw [e]; exact nI_lt (by omega) (by omega)
    · have hb : ¬ ((∃ n, 1 ≤ n ∧ n ≤ 12 ∧ x1 = nI n) ∧ isIn 20001 x2) := fun ⟨⟨n', q1, q2, q3⟩, _⟩ => hx (by rw [q3]; exact nI_rng (by omega) (by omega))
      refine ⟨fun _ => hbad hb, fun c1 => ⟨fun _ => hbad hb, fun c2 => absurd ?_ hx⟩⟩
      have h1 : nI 1 ≤ x1 := Int32.not_lt.mp c1
      have h2 : x1 ≤ nI 12 := Int32.not_lt.mp c2
      exact ⟨Int32.le_trans (by decide) h1, Int32.lt_of_le_of_lt h2 (by decide)⟩
  intro n p h1 h2 hpp e1 e2
  subst e1 e2
  have hpw := pwN h1 h2
  rw [sV_uV, jshl1 (by omega)]
  refine fillA (z := 46) (n := 131072) (h := fun _ => false) (lv := fun x => [(0, .ref (eA g 45)), (3, .int x)]) (fun x f hx hf nx => ?_) (fun f hf => ?_)
  · refine R_X3_fresh_46 g (d + 3) _ _ _ ⟨fun c => absurd ((nI_leI (by omega) (by omega)).mp c) (by omega), fun _ => ?_⟩
    rw [vp_iff (by omega), nI_clamp (by omega), nI_1', uI_uIf]
    exact ⟨hx, nx⟩
  · refine R_X3_fresh_46 g (d + 3) _ _ _ ⟨fun _ => ?_, fun c => absurd (nI_le (Nat.le_refl _) (by omega)) c⟩
    generalize hτ : uIf (uV (uV (uV σ 8 (nI n)) 9 (nI (2 ^ n))) 10 (nI p)) 46 f = τ
    have hS' : MS τ q := by
      obtain ⟨s, a, b, cc⟩ := hS
      rw [← hτ]
      exact ⟨s, a, by rw [sV_uIf, sV_uVn (by decide), sV_uVn (by decide), sV_uVn (by decide)]; exact b, by rw [sI_uIfn (by decide)]; exact cc⟩
    have t8 : sV τ 8 = nI n := by rw [← hτ, sV_uIf, sV_uVn (by decide), sV_uVn (by decide), sV_uV]
    have t9 : sV τ 9 = nI (2 ^ n) := by rw [← hτ, sV_uIf, sV_uVn (by decide), sV_uV]
    have t10 : sV τ 10 = nI p := by rw [← hτ, sV_uIf, sV_uV]
    have t46 : sI τ 46 = f := by rw [← hτ, sI_uIf]
    have loop : ∀ v, v ≤ 12 → ∀ f49 f50, (∀ y, y < v → f49 y = nI 0) → (∀ y, y < v → f50 y = nI y) → WP g 45 59 (d + 4) M_X3_fresh 67 [(0, .ref (eA g 45)), (3, .int (nI v))] [] (uIf (uIf τ 49 f49) 50 f50) K := by
      refine up_to (P := fun v => ∀ f49 f50, (∀ y, y < v → f49 y = nI 0) → (∀ y, y < v → f50 y = nI y) → WP g 45 59 (d + 4) M_X3_fresh 67 [(0, .ref (eA g 45)), (3, .int (nI v))] [] (uIf (uIf τ 49 f49) 50 f50) K) 12 ?_ ?_
      · intro f49 f50 q49 q50
        refine R_X3_fresh_67 g (d + 3) _ _ _ ⟨fun _ => m_done (d := d + 2) (fun f48 q48 => ⟨_, rfl, hok n p h1 h2 hpp rfl rfl _ ⟨⟨⟨h1, h2⟩, by omega, t8, t9, t10, Prm.id n, fun k hk => ?_, fun v hv => ⟨?_, Nat.zero_le _⟩⟩, ?_, ?_, ?_⟩⟩), fun c => absurd (nI_le (Nat.le_refl _) (by omega)) c⟩
        · rw [sI_uIfn (by decide), sI_uIf]; exact q50 k (by omega)
        · rw [sI_uIfn (by decide), sI_uIfn (by decide), sI_uIf]; exact q49 v hv
        · rw [sI_uIfn (by decide), sI_uIfn (by decide), sI_uIfn (by decide), t46]
          exact fun r x hr hx => hf _ (by omega)
        · rw [sI_uIf]
          exact fun x hx => q48 x (by omega)
        · exact ((hS'.I (by decide)).I (by decide)).I (by decide)
      · intro v hv ih f49 f50 q49 q50
        refine R_X3_fresh_67 g (d + 3) _ _ _ ⟨fun c => absurd ((nI_leI (by omega) (by omega)).mp c) (by omega), fun _ => ?_⟩
        rw [vp_iff (by omega), vp_iff (by omega), nI_clamp (by omega), nI_1']
        refine ⟨by show v < 12; omega, by show v < 12; omega, ?_⟩
        have e : uI (uI (uIf (uIf τ 49 f49) 50 f50) 49 v (nI 0)) 50 v (nI v) = uIf (uIf τ 49 (upd f49 v (nI 0))) 50 (upd f50 v (nI v)) := by
          rw [uIf_comm (k := 49) (k' := 50) (by decide), uI_uIf, uIf_comm (k := 50) (k' := 49) (by decide), uI_uIf]
        rw [e]
        refine ih _ _ (fun y hy => ?_) (fun y hy => ?_)
        · by_cases e9 : y = v
          · rw [e9, upd_eq]
          · rw [upd_ne e9]; exact q49 y (by omega)
        · by_cases e9 : y = v
          · rw [e9, upd_eq]
          · rw [upd_ne e9]; exact q50 y (by omega)
    have := loop 0 (Nat.zero_le _) (sI τ 49) (sI (uIf τ 49 (sI τ 49)) 50) (fun y hy => absurd hy (Nat.not_lt_zero _)) (fun y hy => absurd hy (Nat.not_lt_zero _))
    rw [uIf_self, uIf_self] at this
    exact this
theorem M_cost {x1 x2 : Int32} (hI : InvM σ N cap T o oi c P q) (hbad : ¬ (isIn N x1 ∧ isIn 1000001 x2) → K (some (.int (-2))) σ) (hok : ∀ v w, v < N → w < 1000001 → x1 = nI v → x2 = nI w → ∀ σ', InvM σ' N cap T o oi (va_up c v w) P q → K (some (.int (nI (c v)))) σ') : Runs g 45 59 (d + 4) M_X3_cost [.ref (eA g 45), .int x1, .int x2] σ K := by
  obtain ⟨hB, hT, hP, hS⟩ := id hI
  obtain ⟨hN, hcap, h8, h9, h10, hp, ho, hc⟩ := id hB
  refine E_X3_cost g (d + 3) _ _ σ K (m_isLetter (d := d + 2) hN.2 h8 (fun v hv e1 => ⟨_, rfl, fun q => absurd q n10, fun _ => rng_le (by omega) (fun w hw e2 => ?_) (fun hn => hbad (fun q => hn q.2))⟩) (fun hn => ⟨_, rfl, fun _ => hbad (fun q => hn q.1), fun q => absurd rfl q⟩))
  subst e1 e2
  rw [vp_iff (by omega), nI_clamp (by omega), (hc v (by omega)).1, uI_f]
  refine ⟨by show v < 12; omega, by show v < 12; omega, hok v w hv hw rfl rfl _ ⟨⟨hN, hcap, h8, h9, h10, hp, ?_, fun v' hv' => ?_⟩, ?_, ?_, hS.I (by decide)⟩⟩
  · rw [sI_uIfn (by decide)]; exact ho
  · rw [sI_uIf]
    by_cases e : v' = v
    · rw [e, upd_eq, up_eq]; exact ⟨rfl, by omega⟩
    · rw [upd_ne e, up_ne e]; exact hc v' hv'
  · rw [sI_uIfn (by decide)]; exact hT
  · rw [sI_uIfn (by decide)]; exact hP
theorem M_same {x1 x2 : Int32} (hI : InvM σ N cap T o oi c P q) (hbad : ¬ (isR x1 ∧ isR x2) → K (some (.int (-2))) σ) (hok : ∀ a b, a < 32 → b < 32 → x1 = nI a → x2 = nI b → ((∀ x, x < 2 ^ N → T a x = T b x) → K (some (.int (nI 1))) σ) ∧ (¬ (∀ x, x < 2 ^ N → T a x = T b x) → K (some (.int (nI 0))) σ)) : Runs g 45 59 (d + 4) M_X3_same [.ref (eA g 45), .int x1, .int x2] σ K := by
  obtain ⟨hB, hT, hP, hS⟩ := id hI
  obtain ⟨hN, hcap, h8, h9, h10, hp, ho, hc⟩ := id hB
  have hpw := pwN hN.1 hN.2
  refine E_X3_same g (d + 3) _ _ σ K (m_isReg (d := d + 2) (fun a ha e1 => ⟨_, rfl, fun q => absurd q n10, fun _ => m_isReg (d := d + 2) (fun b hb e2 => ⟨_, rfl, fun _ => ?_, fun q => absurd q n10⟩) (fun hn => ⟨_, rfl, fun q => absurd rfl q, fun _ => hbad (fun q => hn q.2)⟩)⟩) (fun hn => ⟨_, rfl, fun _ => hbad (fun q => hn q.1), fun q => absurd rfl q⟩))
  subst e1 e2
  obtain ⟨k1, k0⟩ := hok a b ha hb rfl rfl
  have loop : ∀ x, x ≤ 2 ^ N → (∀ y, y < x → T a y = T b y) → WP g 45 59 (d + 4) M_X3_same 21 [(0, .ref (eA g 45)), (1, .int (nI a)), (2, .int (nI b)), (3, .int (nI x))] [] σ K := by
    refine up_to (P := fun x => (∀ y, y < x → T a y = T b y) → WP g 45 59 (d + 4) M_X3_same 21 [(0, .ref (eA g 45)), (1, .int (nI a)), (2, .int (nI b)), (3, .int (nI x))] [] σ K) (2 ^ N) ?_ ?_
    · intro hy
      exact R_X3_same_21 g (d + 3) _ _ _ σ K ⟨fun _ => k1 hy, fun c => absurd (le9 hN h9) c⟩
    · intro x hx ih hy
      refine R_X3_same_21 g (d + 3) _ _ _ σ K ⟨fun c => absurd c (ge9 hN h9 hx), fun _ => m_get (d := d + 2) hT hN ha hx ⟨_, rfl, m_get (d := d + 2) hT hN hb hx ⟨_, rfl, fun e => ?_, fun e => k0 fun z => e (by rw [z x hx])⟩⟩⟩
      rw [nI_1']
      have hxx : T a x = T b x := by
        revert e
        cases T a x <;> cases T b x <;> first | (intro _; rfl) | (intro e; exact absurd e (by decide))
      refine ih fun y hy' => ?_
      rcases (show y < x ∨ y = x by omega) with l | rfl
      · exact hy y l
      · exact hxx
  exact loop 0 (Nat.zero_le _) (fun y hy => absurd hy (Nat.not_lt_zero _))
theorem M_tells {x1 x2 : Int32} (hI : InvM σ N cap T o oi c P q) (hbad : ¬ (isR x1 ∧ isIn (2 ^ N) x2) → K (some (.int (-2))) σ) (hok : ∀ a x, a < 32 → x < 2 ^ N → x1 = nI a → x2 = nI x → K (some (.int (bI (T a x)))) σ) : Runs g 45 59 (d + 4) M_X3_tells [.ref (eA g 45), .int x1, .int x2] σ K := by
  obtain ⟨hB, hT, hP, hS⟩ := id hI
  obtain ⟨hN, hcap, h8, h9, h10, hp, ho, hc⟩ := id hB
  have hpw := pwN hN.1 hN.2
  refine E_X3_tells g (d + 3) _ _ σ K (m_isReg (d := d + 2) (fun a ha e1 => ⟨_, rfl, fun q => absurd q n10, fun _ => ?_⟩) (fun hn => ⟨_, rfl, fun _ => hbad (fun q => hn q.1), fun q => absurd rfl q⟩))
  rw [h9]
  refine rng_lt (by omega) (fun x hx e2 => ?_) (fun hn => hbad (fun q => hn q.2))
  subst e1 e2
  have hk := hok a x ha hx rfl rfl
  refine m_get (d := d + 2) hT hN ha hx ⟨_, rfl, fun e => ?_, fun e => ?_⟩
  · rw [bI_0.mp e] at hk; exact hk
  · rw [bI_n0 e] at hk; exact hk
theorem M_many {x1 : Int32} (hI : InvM σ N cap T o oi c P q) (hbad : ¬ isR x1 → K (some (.int (-2))) σ) (hok : ∀ a, a < 32 → x1 = nI a → K (some (.int (nI (cntB (T a) (2 ^ N))))) σ) : Runs g 45 59 (d + 4) M_X3_many [.ref (eA g 45), .int x1] σ K := by
  obtain ⟨hB, hT, hP, hS⟩ := id hI
  obtain ⟨hN, hcap, h8, h9, h10, hp, ho, hc⟩ := id hB
  refine E_X3_many g (d + 3) _ σ K (m_isReg (d := d + 2) (fun a ha e1 => ⟨_, rfl, fun q => absurd q n10, fun _ => ?_⟩) (fun hn => ⟨_, rfl, fun _ => hbad hn, fun q => absurd rfl q⟩))
  subst e1
  exact m_many (d := d + 1) hN hT h9 ha ⟨_, rfl, hok a ha rfl⟩
theorem M_pick {x1 x2 : Int32} (hI : InvM σ N cap T o oi c P q) (hbad : ¬ isR x1 → K (some (.int (-2))) σ) (hno : ∀ a, a < 32 → x1 = nI a → (∀ x, x < 2 ^ N → T a x = true → nI (cntB (T a) x) ≠ x2) → K (some (.int (-1))) σ) (hok : ∀ a x, a < 32 → x1 = nI a → x < 2 ^ N → T a x = true → nI (cntB (T a) x) = x2 → K (some (.int (nI x))) σ) : Runs g 45 59 (d + 4) M_X3_pick [.ref (eA g 45), .int x1, .int x2] σ K := by
  obtain ⟨hB, hT, hP, hS⟩ := id hI
  obtain ⟨hN, hcap, h8, h9, h10, hp, ho, hc⟩ := id hB
  have hpw := pwN hN.1 hN.2
  refine E_X3_pick g (d + 3) _ _ σ K (m_isReg (d := d + 2) (fun a ha e1 => ⟨_, rfl, fun _ => ?_, fun q => absurd q n10⟩) (fun hn => ⟨_, rfl, fun q => absurd rfl q, fun _ => hbad hn⟩))
  subst e1
  have loop : ∀ x, x ≤ 2 ^ N → (∀ y, y < x → T a y = true → nI (cntB (T a) y) ≠ x2) → WP g 45 59 (d + 4) M_X3_pick 16 [(0, .ref (eA g 45)), (1, .int (nI a)), (2, .int x2), (3, .int (nI (cntB (T a) x))), (4, .int (nI x))] [] σ K := by
    refine up_to (P := fun x => (∀ y, y < x → T a y = true → nI (cntB (T a) y) ≠ x2) → WP g 45 59 (d + 4) M_X3_pick 16 [(0, .ref (eA g 45)), (1, .int (nI a)), (2, .int x2), (3, .int (nI (cntB (T a) x))), (4, .int (nI x))] [] σ K) (2 ^ N) ?_ ?_
    · intro hy
      exact R_X3_pick_16 g (d + 3) _ _ _ _ σ K ⟨fun _ => hno a ha rfl hy, fun c => absurd (le9 hN h9) c⟩
    · intro x hx ih hy
      have ec : cntB (T a) (x + 1) = cntB (T a) x + (T a x).toNat := rfl
      rw [ec] at ih
      refine R_X3_pick_16 g (d + 3) _ _ _ _ σ K ⟨fun c => absurd c (ge9 hN h9 hx), fun _ => m_get (d := d + 2) hT hN ha hx ⟨_, rfl, fun e => ⟨fun hne => ?_, fun he => hok a x ha rfl hx (bI_n0 e) he⟩, fun e => ?_⟩⟩
      · rw [bI_n0 e] at ih
        rw [nI_1', nI_1']
        refine ih fun y hy' ht => ?_
        rcases (show y < x ∨ y = x by omega) with l | rfl
        · exact hy y l ht
        · exact hne
      · have e := bI_0.mp e
        rw [e] at ih
        rw [nI_1']
        refine ih fun y hy' ht => ?_
        rcases (show y < x ∨ y = x by omega) with l | rfl
        · exact hy y l ht
        · rw [e] at ht; cases ht
  exact loop 0 (Nat.zero_le _) (fun y hy => absurd hy (Nat.not_lt_zero _))
end MOD8

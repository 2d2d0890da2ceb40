/-- summing letter by letter -/
def sumT (all : Bool) (mask : Nat) : Nat → (Nat → Bool) → (Nat → Bool)
  | 0, f => f
  | v + 1, f => if mask.testBit v then fun x => if all then sumT all mask v f (sbt x v true) && sumT all mask v f (sbt x v false) else sumT all mask v f (sbt x v true) || sumT all mask v f (sbt x v false) else sumT all mask v f
def op2 (all a b : Bool) : Bool := if all then a && b else a || b
section CLS3
variable {g : Ev} {d : Nat} {σ : St} {K : Option Value → St → Prop} {N cap : Nat} {T : Nat → Nat → Bool} {o oi c : Nat → Nat} {P : Nat → Bool}
/-- a register's bit at a position where a letter is fixed -/
theorem tab_fix {a i v : Nat} {one : Bool} (hB : XB σ N cap o oi c) (hT : XT (sL σ) N T o) (ha : a < 32) (hv : v < N) (hi : i < 64 * 2 ^ (N - 6)) : tb (sL σ (11 + a)) (sbt i (N - 1 - oi v) one) = (decide (i < 2 ^ N) && T a (sbt (spr o N i) v one)) := by
  have hp := hB.2.2.2.2.2.2.2.1
  have hov := (hp.2 v hv).1
  have h1 : sbt i (N - 1 - oi v) one < 64 * 2 ^ (N - 6) := by
    rw [all64] at hi ⊢
    exact sbt_lt hi (by omega)
  rw [hT.1 a ha _ h1]
  have e : decide (sbt i (N - 1 - oi v) one < 2 ^ N) = decide (i < 2 ^ N) := by rw [decide_eq_decide]; exact sbt_lt_iff (by omega)
  simp only
  rw [e, spr_sbt hp hv]
theorem X_fix {x1 x2 x3 : Int32} {one : Bool} (hI : InvX σ N cap T o oi c P) (hbad : ¬ (isR x1 ∧ isR x2 ∧ isIn N x3) → K (some (.int (-2))) σ) (hok : ∀ j a v, j < 32 → a < 32 → v < N → x1 = nI j → x2 = nI a → x3 = nI v → KP N cap T o oi c P j (fun x => T a (sbt x v one)) K) : Runs g 0 45 (d + 7) M_X2_fix [.ref (eA g 0), .int x1, .int x2, .int x3, .int (bI one)] σ K := by
  obtain ⟨hB, hT, hP⟩ := id hI
  have hpw := pwN hB.1.1 hB.1.2
  have hN := hB.1
  have hp := hB.2.2.2.2.2.2.2.1
  refine E_X2_fix g (d + 6) _ _ _ _ σ K (sp_isReg (d := d + 5) (fun j hj e => ⟨_, rfl, fun q => absurd q n10, fun _ => ?_⟩) (fun hn => ⟨_, rfl, fun _ => hbad (fun q => hn q.1), fun q => absurd rfl q⟩))
  refine sp_isReg (d := d + 5) (fun a ha e2 => ⟨_, rfl, fun q => absurd q n10, fun _ => ?_⟩) (fun hn => ⟨_, rfl, fun _ => hbad (fun q => hn q.2.1), fun q => absurd rfl q⟩)
  refine sp_isLetter (d := d + 5) hB (fun v hv e3 => ⟨_, rfl, fun _ => ?_, fun q => absurd q n10⟩) (fun hn => ⟨_, rfl, fun q => absurd rfl q, fun _ => hbad (fun q => hn q.2.2)⟩)
  subst e e2 e3
  have hov := (hp.2 v hv).1
  have hK := hok j a v hj ha hv rfl rfl rfl
  refine sp_placeOf (d := d + 4) hB hv ⟨_, rfl, vp32, ?_⟩
  rw [cy43]
  have loop : ∀ q, q ≤ 2 ^ (N - 6) → ∀ f, (∀ q', q' < q → ∀ z, z < 64 → bt (f q') z = (decide (64 * q' + z < 2 ^ N) && T a (sbt (spr o N (64 * q' + z)) v one))) → WP g 0 45 (d + 7) M_X2_fix 44 [(0, .ref (eA g 0)), (1, .int (nI j)), (2, .int (nI a)), (4, .int (bI one)), (5, .int (nI (N - 1 - oi v))), (6, .ref (eA g 43)), (7, .int (nI q))] [] (uLf σ 43 f) K := by
    refine up_to (P := fun q => ∀ f, (∀ q', q' < q → ∀ z, z < 64 → bt (f q') z = (decide (64 * q' + z < 2 ^ N) && T a (sbt (spr o N (64 * q' + z)) v one))) → WP g 0 45 (d + 7) M_X2_fix 44 [(0, .ref (eA g 0)), (1, .int (nI j)), (2, .int (nI a)), (4, .int (bI one)), (5, .int (nI (N - 1 - oi v))), (6, .ref (eA g 43)), (7, .int (nI q))] [] (uLf σ 43 f) K) (2 ^ (N - 6)) ?_ ?_
    · intro f hf
      refine R_X2_fix_44 g (d + 6) _ _ _ _ _ _ _ K ⟨fun _ => sp_keepP hI hj f hf hK, fun q => ?_⟩
      rw [sV_uLf, hB.2.2.2.2.1] at q
      exact absurd (nI_le (Nat.le_refl _) (by omega)) q
    · intro q hq ih f hf
      refine R_X2_fix_44 g (d + 6) _ _ _ _ _ _ _ K ⟨fun z => ?_, fun _ => ?_⟩
      · rw [sV_uLf, hB.2.2.2.2.1] at z
        exact absurd ((nI_leI (by omega) (by omega)).mp z) (by omega)
      · rw [vp_iff (by omega), nI_clamp (by omega), vp_iff (by omega), nI_clamp (n := q) (by omega)]
        refine ⟨by omega, sp_fixedWord (d := d + 5) (lenJ_t (by omega)) (by omega) (by omega) (fun w hw => ⟨w, rfl, ?_⟩)⟩
        rw [nI_1', uL_is, uLf_uLf, sL_uLf]
        refine ⟨by show q < 64; omega, ih _ fun q' hq' z hz => ?_⟩
        by_cases e : q' = q
        · subst e
          rw [updL_eq, hw z hz, sL_uLfn (by omega), tab_fix hB hT ha hv (by omega)]
        · rw [updL_ne e]
          exact hf q' (by omega) z hz
  have := loop 0 (Nat.zero_le _) (sL σ 43) (fun q hq => absurd hq (Nat.not_lt_zero _))
  rw [uLf_self] at this
  exact this
theorem X_put {x1 x2 x3 x4 : Int32} (hI : InvX σ N cap T o oi c P) (hbad : ¬ (isR x1 ∧ isR x2 ∧ isIn N x3 ∧ isR x4) → K (some (.int (-2))) σ) (hok : ∀ j a v b, j < 32 → a < 32 → v < N → b < 32 → x1 = nI j → x2 = nI a → x3 = nI v → x4 = nI b → KP N cap T o oi c P j (fun x => T a (sbt x v (T b x))) K) : Runs g 0 45 (d + 7) M_X2_put [.ref (eA g 0), .int x1, .int x2, .int x3, .int x4] σ K := by
  obtain ⟨hB, hT, hP⟩ := id hI
  have hpw := pwN hB.1.1 hB.1.2
  have hN := hB.1
  have hp := hB.2.2.2.2.2.2.2.1
  refine E_X2_put g (d + 6) _ _ _ _ σ K (sp_isReg (d := d + 5) (fun j hj e => ⟨_, rfl, fun q => absurd q n10, fun _ => ?_⟩) (fun hn => ⟨_, rfl, fun _ => hbad (fun q => hn q.1), fun q => absurd rfl q⟩))
  refine sp_isReg (d := d + 5) (fun a ha e2 => ⟨_, rfl, fun q => absurd q n10, fun _ => ?_⟩) (fun hn => ⟨_, rfl, fun _ => hbad (fun q => hn q.2.1), fun q => absurd rfl q⟩)
  refine sp_isLetter (d := d + 5) hB (fun v hv e3 => ⟨_, rfl, fun q => absurd q n10, fun _ => ?_⟩) (fun hn => ⟨_, rfl, fun _ => hbad (fun q => hn q.2.2.1), fun q => absurd rfl q⟩)
  refine sp_isReg (d := d + 5) (fun b hb e4 => ⟨_, rfl, fun _ => ?_, fun q => absurd q n10⟩) (fun hn => ⟨_, rfl, fun q => absurd rfl q, fun _ => hbad (fun q => hn q.2.2.2)⟩)
  subst e e2 e3 e4
  have hov := (hp.2 v hv).1
  have hK := hok j a v b hj ha hv hb rfl rfl rfl rfl
  refine sp_placeOf (d := d + 4) hB hv ⟨_, rfl, vp32, ?_⟩
  rw [cy43]
  have loop : ∀ q, q ≤ 2 ^ (N - 6) → ∀ f, (∀ q', q' < q → ∀ z, z < 64 → bt (f q') z = (decide (64 * q' + z < 2 ^ N) && T a (sbt (spr o N (64 * q' + z)) v (T b (spr o N (64 * q' + z)))))) → WP g 0 45 (d + 7) M_X2_put 52 [(0, .ref (eA g 0)), (1, .int (nI j)), (2, .int (nI a)), (4, .int (nI b)), (5, .int (nI (N - 1 - oi v))), (6, .ref (eA g 43)), (7, .int (nI q))] [] (uLf σ 43 f) K := by
    refine up_to (P := fun q => ∀ f, (∀ q', q' < q → ∀ z, z < 64 → bt (f q') z = (decide (64 * q' + z < 2 ^ N) && T a (sbt (spr o N (64 * q' + z)) v (T b (spr o N (64 * q' + z)))))) → WP g 0 45 (d + 7) M_X2_put 52 [(0, .ref (eA g 0)), (1, .int (nI j)), (2, .int (nI a)), (4, .int (nI b)), (5, .int (nI (N - 1 - oi v))), (6, .ref (eA g 43)), (7, .int (nI q))] [] (uLf σ 43 f) K) (2 ^ (N - 6)) ?_ ?_
    · intro f hf
      refine R_X2_put_52 g (d + 6) _ _ _ _ _ _ _ K ⟨fun _ => sp_keepP hI hj f hf hK, fun q => ?_⟩
      rw [sV_uLf, hB.2.2.2.2.1] at q
      exact absurd (nI_le (Nat.le_refl _) (by omega)) q
    · intro q hq ih f hf
      refine R_X2_put_52 g (d + 6) _ _ _ _ _ _ _ K ⟨fun z => ?_, fun _ => ?_⟩
      · rw [sV_uLf, hB.2.2.2.2.1] at z
        exact absurd ((nI_leI (by omega) (by omega)).mp z) (by omega)
      · rw [vp_iff (by omega), nI_clamp (by omega), vp_iff (by omega), vp_iff (by omega), nI_clamp (n := b) (by omega), nI_clamp (n := q) (by omega), lenJ_t (t := b) (by omega), vp_iff (by omega)]
        refine ⟨by omega, sp_fixedWord (d := d + 5) (one := true) (lenJ_t (by omega)) (by omega) (by omega) (fun w hw => ⟨w, rfl, by omega, sp_fixedWord (d := d + 5) (one := false) (lenJ_t (by omega)) (by omega) (by omega) (fun w2 hw2 => ⟨w2, rfl, by omega, by omega, sp_chosenWord (d := d + 5) (fun w3 hw3 => ⟨w3, rfl, ?_⟩)⟩)⟩)⟩
        rw [nI_1', uL_is, uLf_uLf, sL_uLf]
        refine ⟨by show q < 64; omega, ih _ fun q' hq' z hz => ?_⟩
        by_cases e : q' = q
        · subst e
          rw [updL_eq, hw3 z hz, hw z hz, hw2 z hz, sL_uLfn (by omega), sL_uLfn (by omega), tab_fix hB hT ha hv (by omega), tab_fix hB hT ha hv (by omega), tab_bit hT hb hq hz]
          by_cases hlt : 64 * q' + z < 2 ^ N
          · cases hb9 : T b (spr o N (64 * q' + z)) <;> simp [hlt]
          · simp [hlt]
        · rw [updL_ne e]
          exact hf q' (by omega) z hz
  have := loop 0 (Nat.zero_le _) (sL σ 43) (fun q hq => absurd hq (Nat.not_lt_zero _))
  rw [uLf_self] at this
  exact this
theorem X_trade {x1 x2 x3 x4 : Int32} (hI : InvX σ N cap T o oi c P) (hbad : ¬ (isR x1 ∧ isR x2 ∧ isIn N x3 ∧ isIn N x4) → K (some (.int (-2))) σ) (hok : ∀ j a u v, j < 32 → a < 32 → u < N → v < N → x1 = nI j → x2 = nI a → x3 = nI u → x4 = nI v → KP N cap T o oi c P j (fun x => T a (swb x u v)) K) : Runs g 0 45 (d + 7) M_X2_trade [.ref (eA g 0), .int x1, .int x2, .int x3, .int x4] σ K := by
  obtain ⟨hB, hT, hP⟩ := id hI
  have hpw := pwN hB.1.1 hB.1.2
  have hN := hB.1
  have hp := hB.2.2.2.2.2.2.2.1
  refine E_X2_trade g (d + 6) _ _ _ _ σ K (sp_isReg (d := d + 5) (fun j hj e => ⟨_, rfl, fun q => absurd q n10, fun _ => ?_⟩) (fun hn => ⟨_, rfl, fun _ => hbad (fun q => hn q.1), fun q => absurd rfl q⟩))
  refine sp_isReg (d := d + 5) (fun a ha e2 => ⟨_, rfl, fun q => absurd q n10, fun _ => ?_⟩) (fun hn => ⟨_, rfl, fun _ => hbad (fun q => hn q.2.1), fun q => absurd rfl q⟩)
  refine sp_isLetter (d := d + 5) hB (fun u hu e3 => ⟨_, rfl, fun q => absurd q n10, fun _ => ?_⟩) (fun hn => ⟨_, rfl, fun _ => hbad (fun q => hn q.2.2.1), fun q => absurd rfl q⟩)
  refine sp_isLetter (d := d + 5) hB (fun v hv e4 => ⟨_, rfl, fun _ => ?_, fun q => absurd q n10⟩) (fun hn => ⟨_, rfl, fun q => absurd rfl q, fun _ => hbad (fun q => hn q.2.2.2)⟩)
  subst e e2 e3 e4
  have hou := (hp.2 u hu).1
  have hov := (hp.2 v hv).1
  have hK := hok j a u v hj ha hu hv rfl rfl rfl rfl
  refine sp_copyToSpare (d := d + 5) hB ha (fun f hf => ⟨rfl, vp32, ?_⟩)
  have hB1 : XB (uLf σ 43 f) N cap o oi c := hB
  refine sp_placeOf (d := d + 4) hB1 hu ⟨_, rfl, sp_placeOf (d := d + 4) hB1 hv ⟨_, rfl, ?_⟩⟩
  rw [cy43, sV_uLf, hB.2.2.2.2.1]
  refine sp_exchange (d := d + 4) (m := N - 6) rfl (by omega) (by omega) (by omega) (fun f2 hf2 _ => ⟨rfl, ?_⟩)
  rw [uLf_uLf]
  refine sp_keepP (h := fun x => T a (swb x u v)) hI hj f2 (fun q hq z hz => ?_) hK
  have h1 := hf2 (64 * q + z) (by omega)
  rw [tb_at _ hz, sL_uLf] at h1
  have hlt : swb (64 * q + z) (N - 1 - oi u) (N - 1 - oi v) < 64 * 2 ^ (N - 6) := by
    rw [all64]
    refine swb_lt ?_ (by omega) (by omega)
    rw [← all64]
    omega
  rw [h1, hf _ hlt, hT.1 a ha _ hlt]
  have e : decide (swb (64 * q + z) (N - 1 - oi u) (N - 1 - oi v) < 2 ^ N) = decide (64 * q + z < 2 ^ N) := by rw [decide_eq_decide]; exact swb_lt_iff (by omega) (by omega)
  simp only
  rw [e, spr_swb hp hu hv]
/-- sumSpare: place p of the spare table -/
theorem sp_sumSpare {p : Nat} {all : Bool} {f0 : Nat → Int64} (hB : XB σ N cap o oi c) (hp : p < N) (h : ∀ f, (∀ i, i < 64 * 2 ^ (N - 6) → tb f i = op2 all (tb f0 (sbt i p true)) (tb f0 (sbt i p false))) → K none (uLf σ 43 f)) : Runs g 0 45 (d + 2) M_X2_sumSpare [.ref (eA g 0), .int (nI p), .int (bI all)] (uLf σ 43 f0) K := by
  have hpw := pwN hB.1.1 hB.1.2
  have hN := hB.1
  refine E_X2_sumSpare g (d + 1) _ _ _ K ⟨vp32, ?_⟩
  rw [cy43]
  have loop : ∀ q, q ≤ 2 ^ (N - 6) → ∀ f, (∀ q', q' < 2 ^ (N - 6) → ∀ z, z < 64 → bt (f q') z = if q' < q then op2 all (tb f0 (sbt (64 * q' + z) p true)) (tb f0 (sbt (64 * q' + z) p false)) else bt (f0 q') z) → WP g 0 45 (d + 2) M_X2_sumSpare 11 [(0, .ref (eA g 0)), (1, .int (nI p)), (2, .int (bI all)), (3, .ref (eA g 43)), (4, .int (nI q))] [] (uLf σ 43 f) K := by
    refine up_to (P := fun q => ∀ f, (∀ q', q' < 2 ^ (N - 6) → ∀ z, z < 64 → bt (f q') z = if q' < q then op2 all (tb f0 (sbt (64 * q' + z) p true)) (tb f0 (sbt (64 * q' + z) p false)) else bt (f0 q') z) → WP g 0 45 (d + 2) M_X2_sumSpare 11 [(0, .ref (eA g 0)), (1, .int (nI p)), (2, .int (bI all)), (3, .ref (eA g 43)), (4, .int (nI q))] [] (uLf σ 43 f) K) (2 ^ (N - 6)) ?_ ?_
    · intro f hf
      refine R_X2_sumSpare_11 g (d + 1) _ _ _ _ _ K ⟨fun _ => h f fun i hi => ?_, fun q => ?_⟩
      · obtain ⟨a, b, rfl, hb⟩ := split64 i
        rw [tb_at _ hb, hf a (by omega) b hb, if_pos (by omega)]
      · rw [sV_uLf, hB.2.2.2.2.1] at q
        exact absurd (nI_le (Nat.le_refl _) (by omega)) q
    · intro q hq ih f hf
      refine R_X2_sumSpare_11 g (d + 1) _ _ _ _ _ K ⟨fun z => ?_, fun _ => ?_⟩
      · rw [sV_uLf, hB.2.2.2.2.1] at z
        exact absurd ((nI_leI (by omega) (by omega)).mp z) (by omega)
      · refine sp_fixedWord (one := true) rfl (by omega) (by omega) (fun w hw => ⟨w, rfl, sp_fixedWord (one := false) rfl (by omega) (by omega) (fun w2 hw2 => ⟨w2, rfl, ?_⟩)⟩)
        rw [sL_uLf] at hw hw2
        rw [vp_iff (by omega), nI_1', nI_clamp (by omega), uL_is, uL_is, uLf_uLf, uLf_uLf, sL_uLf, bI_0]
        -- a bit of the table as it stands
        have now : ∀ i, i < 64 * 2 ^ (N - 6) → tb f i = if i / 64 < q then op2 all (tb f0 (sbt i p true)) (tb f0 (sbt i p false)) else tb f0 i := fun i hi => by
          obtain ⟨a, b, rfl, hb⟩ := split64 i
          rw [tb_at _ hb, hf a (by omega) b hb, tb_at _ hb, show (64 * a + b) / 64 = a by omega]
        have key : ∀ z, z < 64 → op2 all (bt w z) (bt w2 z) = op2 all (tb f0 (sbt (64 * q + z) p true)) (tb f0 (sbt (64 * q + z) p false)) := fun z hz => by
          have hi : 64 * q + z < 64 * 2 ^ (N - 6) := by omega
          have l1 : ∀ b, sbt (64 * q + z) p b < 64 * 2 ^ (N - 6) := fun b => by
            rw [all64] at hi ⊢
            exact sbt_lt hi (by omega)
          rw [hw z hz, hw2 z hz, now _ (l1 true), now _ (l1 false)]
          simp only [sbt_sbt]
          have hdq : (64 * q + z) / 64 = q := by omega
          cases ht : (64 * q + z).testBit p
          · have e0 : sbt (64 * q + z) p false = 64 * q + z := sbt_self ht
            rw [e0, hdq, if_neg (Nat.lt_irrefl _)]
            generalize tb f0 (sbt (64 * q + z) p true) = A
            generalize tb f0 (64 * q + z) = B
            unfold op2
            by_cases hc : sbt (64 * q + z) p true / 64 < q
            · simp only [if_pos hc]
              cases all <;> cases A <;> cases B <;> rfl
            · simp only [if_neg hc]
          · have e0 : sbt (64 * q + z) p true = 64 * q + z := sbt_self ht
            rw [e0, hdq, if_neg (Nat.lt_irrefl _)]
            generalize tb f0 (sbt (64 * q + z) p false) = A
            generalize tb f0 (64 * q + z) = B
            unfold op2
            by_cases hc : sbt (64 * q + z) p false / 64 < q
            · simp only [if_pos hc]
              cases all <;> cases A <;> cases B <;> rfl
            · simp only [if_neg hc]
        have go : ∀ w9 : Int64, (∀ z, z < 64 → bt w9 z = op2 all (bt w z) (bt w2 z)) → WP g 0 45 (d + 2) M_X2_sumSpare 11 [(0, .ref (eA g 0)), (1, .int (nI p)), (2, .int (bI all)), (3, .ref (eA g 43)), (4, .int (nI (q + 1)))] [] (uLf σ 43 (vp_updL f q w9)) K := by
          intro w9 hw9
          refine ih _ fun q' hq' z hz => ?_
          by_cases e : q' = q
          · subst e
            rw [updL_eq, if_pos (by omega), hw9 z hz, key z hz]
          · rw [updL_ne e, hf q' hq' z hz]
            by_cases hlt : q' < q
            · rw [if_pos hlt, if_pos (by omega)]
            · rw [if_neg hlt, if_neg (by omega)]
        refine ⟨fun ha => ⟨by show q < 64; omega, go _ fun z hz => ?_⟩, fun ha => ⟨by show q < 64; omega, go _ fun z hz => ?_⟩⟩
        · rw [bt_or, ha]
          rfl
        · rw [bt_and, show all = true by simpa using ha]
          rfl
  exact loop 0 (Nat.zero_le _) f0 (fun q' hq' z hz => by rw [if_neg (Nat.not_lt_zero _)])
theorem X_sum {x1 x2 x3 : Int32} {all : Bool} (hI : InvX σ N cap T o oi c P) (hbad : ¬ (isR x1 ∧ isR x2 ∧ isIn (2 ^ N) x3) → K (some (.int (-2))) σ) (hok : ∀ j a m, j < 32 → a < 32 → m < 2 ^ N → x1 = nI j → x2 = nI a → x3 = nI m → KP N cap T o oi c P j (sumT all m N (T a)) K) : Runs g 0 45 (d + 7) M_X2_sum [.ref (eA g 0), .int x1, .int x2, .int x3, .int (bI all)] σ K := by
  obtain ⟨hB, hT, hP⟩ := id hI
  have hpw := pwN hB.1.1 hB.1.2
  have hN := hB.1
  have hp := hB.2.2.2.2.2.2.2.1
  refine E_X2_sum g (d + 6) _ _ _ _ σ K (sp_isReg (d := d + 5) (fun j hj e => ⟨_, rfl, fun q => absurd q n10, fun _ => ?_⟩) (fun hn => ⟨_, rfl, fun _ => hbad (fun q => hn q.1), fun q => absurd rfl q⟩))
  refine sp_isReg (d := d + 5) (fun a ha e2 => ⟨_, rfl, fun q => absurd q n10, fun _ => ?_⟩) (fun hn => ⟨_, rfl, fun _ => hbad (fun q => hn q.2.1), fun q => absurd rfl q⟩)
  refine sp_isAss (d := d + 5) hB (fun m hm e3 => ⟨_, rfl, fun _ => ?_, fun q => absurd q n10⟩) (fun hn => ⟨_, rfl, fun q => absurd rfl q, fun _ => hbad (fun q => hn q.2.2)⟩)
  subst e e2 e3
  have hK := hok j a m hj ha hm rfl rfl rfl
  refine sp_copyToSpare (d := d + 5) hB ha (fun f hf => ⟨rfl, ?_⟩)
  have loop : ∀ v, v ≤ N → ∀ f, (∀ i, i < 64 * 2 ^ (N - 6) → tb f i = (decide (i < 2 ^ N) && sumT all m v (T a) (spr o N i))) → WP g 0 45 (d + 7) M_X2_sum 33 [(0, .ref (eA g 0)), (1, .int (nI j)), (3, .int (nI m)), (4, .int (bI all)), (5, .int (nI v))] [] (uLf σ 43 f) K := by
    refine up_to (P := fun v => ∀ f, (∀ i, i < 64 * 2 ^ (N - 6) → tb f i = (decide (i < 2 ^ N) && sumT all m v (T a) (spr o N i))) → WP g 0 45 (d + 7) M_X2_sum 33 [(0, .ref (eA g 0)), (1, .int (nI j)), (3, .int (nI m)), (4, .int (bI all)), (5, .int (nI v))] [] (uLf σ 43 f) K) N ?_ ?_
    · intro f hf
      refine R_X2_sum_33 g (d + 6) _ _ _ _ _ K ⟨fun _ => sp_keepP hI hj f (fun q hq z hz => ?_) hK, fun q => ?_⟩
      · rw [← tb_at _ hz]
        exact hf _ (by omega)
      · rw [sV_uLf, hB.2.2.1] at q
        exact absurd (nI_le (Nat.le_refl _) (by omega)) q
    · intro v hv ih f hf
      have hov := (hp.2 v hv).1
      have hB1 : XB (uLf σ 43 f) N cap o oi c := hB
      refine R_X2_sum_33 g (d + 6) _ _ _ _ _ K ⟨fun z => ?_, fun _ => ?_⟩
      · rw [sV_uLf, hB.2.2.1] at z
        exact absurd ((nI_leI (by omega) (by omega)).mp z) (by omega)
      · rw [bit_and1 (by omega) (by omega), nI_1']
        cases hmb : m.testBit v
        · refine ⟨fun _ => ih f fun i hi => ?_, fun q => absurd rfl q⟩
          rw [hf i hi]
          show _ = (decide (i < 2 ^ N) && (if m.testBit v then _ else sumT all m v (T a)) (spr o N i))
          rw [hmb]
          rfl
        · refine ⟨fun q => absurd q n10, fun _ => sp_placeOf (d := d + 4) hB1 hv ⟨_, rfl, sp_sumSpare (d := d + 4) hB (by omega) (fun f2 hf2 => ⟨rfl, ih f2 fun i hi => ?_⟩)⟩⟩
          have l1 : ∀ b, sbt i (N - 1 - oi v) b < 64 * 2 ^ (N - 6) := fun b => by
            rw [all64] at hi ⊢
            exact sbt_lt hi (by omega)
          rw [hf2 i hi, hf _ (l1 true), hf _ (l1 false)]
          have ed : ∀ b, decide (sbt i (N - 1 - oi v) b < 2 ^ N) = decide (i < 2 ^ N) := fun b => by rw [decide_eq_decide]; exact sbt_lt_iff (by omega)
          rw [ed, ed, spr_sbt hp hv, spr_sbt hp hv]
          show _ = (decide (i < 2 ^ N) && (if m.testBit v then fun x => if all then sumT all m v (T a) (sbt x v true) && sumT all m v (T a) (sbt x v false) else sumT all m v (T a) (sbt x v true) || sumT all m v (T a) (sbt x v false) else sumT all m v (T a)) (spr o N i))
          rw [hmb]
          unfold op2
          by_cases hlt : i < 2 ^ N <;> cases all <;> simp [hlt]
  refine loop 0 (Nat.zero_le _) f (fun i hi => ?_)
  rw [hf i hi]
  exact hT.1 a ha i hi
end CLS3

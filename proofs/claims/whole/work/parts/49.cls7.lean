theorem sbt_mod {i q m : Nat} {b : Bool} (h : m ≤ q) : sbt i q b % 2 ^ m = i % 2 ^ m := by
  apply Nat.eq_of_testBit_eq
  intro z
  rw [Nat.testBit_mod_two_pow, Nat.testBit_mod_two_pow, testBit_sbt]
  by_cases hz : z < m
  · rw [if_neg (by omega)]
  · simp [hz]
theorem sbt_mod2 {i m : Nat} {b : Bool} : sbt i m b % 2 ^ (m + 1) = (if b then 2 ^ m else 0) + i % 2 ^ m := by
  have hl : i % 2 ^ m < 2 ^ m := Nat.mod_lt _ (Nat.two_pow_pos m)
  have e : (if b then 2 ^ m else 0) + i % 2 ^ m = 2 ^ m * b.toNat + i % 2 ^ m := by cases b <;> simp
  rw [e]
  apply Nat.eq_of_testBit_eq
  intro z
  rw [Nat.testBit_mod_two_pow, testBit_sbt, Nat.testBit_two_pow_mul_add _ hl, Nat.testBit_mod_two_pow]
  by_cases c1 : z < m
  · rw [if_pos c1, if_neg (by omega)]
    simp [c1, show z < m + 1 by omega]
  · rw [if_neg c1]
    by_cases c2 : z = m
    · subst c2
      rw [if_pos rfl, Nat.sub_self]
      cases b <;> simp
    · rw [if_neg c2]
      have : ∀ b : Bool, b.toNat.testBit (z - m) = false := fun b => Nat.testBit_lt_two_pow (Nat.lt_of_le_of_lt (Bool.toNat_le b) (Nat.one_lt_two_pow (by omega)))
      rw [this]
      simp [show ¬ z < m + 1 by omega]
theorem mixB_not {f : Nat → Bool} {N : Nat} : mixB f N = false ↔ (∀ x, x < 2 ^ N → f x = false) ∨ ∀ x, x < 2 ^ N → f x = true := by
  unfold mixB
  rw [Bool.and_eq_false_iff, List.any_eq_false, List.any_eq_false]
  constructor
  · rintro (h | h)
    · exact Or.inl fun x hx => by simpa using h x (List.mem_range.mpr hx)
    · exact Or.inr fun x hx => by simpa using h x (List.mem_range.mpr hx)
  · rintro (h | h)
    · exact Or.inl fun x hx => by simpa using h x (List.mem_range.mp hx)
    · exact Or.inr fun x hx => by simpa using h x (List.mem_range.mp hx)
section CLS7
variable {g : Ev} {d : Nat} {σ : St} {K : Option Value → St → Prop} {N cap : Nat} {T : Nat → Nat → Bool} {o oi c : Nat → Nat} {P : Nat → Bool}
theorem all_yes {j : Nat} (hB : XB σ N cap o oi c) (hT : XT (sL σ) N T o) (hj : j < 32) : (∀ q, q < 2 ^ (N - 6) → sL σ (11 + j) q = sW σ) ↔ ∀ x, x < 2 ^ N → T j x = true := by
  have hpw := pwN hB.1.1 hB.1.2
  have hp := hB.2.2.2.2.2.2.2.1
  constructor
  · intro h x hx
    have hl := pos_lt (o := o) (N := N) x
    have := hT.1 j hj (pos o N x) (by omega)
    simp only at this
    rw [spr_pos hp hx] at this
    unfold tb at this
    rw [h _ (by omega), hB.2.2.2.2.2.1 _ (by omega), whole_bit (j := pos o N x / 64) (by omega) (by omega), show 64 * (pos o N x / 64) + pos o N x % 64 = pos o N x by omega] at this
    simpa [hl] using this.symm
  · intro h q hq
    apply bt_ext
    intro b hb
    rw [tab_bit hT hj hq hb, h _ (spr_lt hp _), Bool.and_true, hB.2.2.2.2.2.1 b hb, whole_bit hq hb]
theorem sp_unsettled (hI : InvX σ N cap T o oi c P) (h : K (some (.int (nI (cntB (fun r => mixB (T r) N) 32)))) σ) : Runs g 0 45 (d + 2) M_X2_unsettledRegisters [.ref (eA g 0)] σ K := by
  obtain ⟨hB, hT, hP⟩ := id hI
  refine E_X2_unsettledRegisters g (d + 1) σ K ?_
  have loop : ∀ r, r ≤ 32 → WP g 0 45 (d + 2) M_X2_unsettledRegisters 4 [(0, .ref (eA g 0)), (1, .int (nI (cntB (fun r => mixB (T r) N) r))), (2, .int (nI r))] [] σ K := by
    refine up_to (P := fun r => WP g 0 45 (d + 2) M_X2_unsettledRegisters 4 [(0, .ref (eA g 0)), (1, .int (nI (cntB (fun r => mixB (T r) N) r))), (2, .int (nI r))] [] σ K) 32 ?_ ?_
    · exact R_X2_unsettledRegisters_4 g (d + 1) _ _ σ K ⟨fun _ => h, fun z => absurd (nI_le (Nat.le_refl _) (by omega)) z⟩
    · intro r hr ih
      have stp : cntB (fun r => mixB (T r) N) (r + 1) = cntB (fun r => mixB (T r) N) r + (mixB (T r) N).toNat := rfl
      rw [stp] at ih
      refine R_X2_unsettledRegisters_4 g (d + 1) _ _ σ K ⟨fun z => absurd ((nI_leI (by omega) (by omega)).mp z) (by omega), fun _ => ?_⟩
      rw [nI_1', nI_1']
      refine sp_isAll hB hr (fun q => ⟨_, rfl, fun _ => ?_, fun z => absurd z n10⟩) (fun q => ⟨_, rfl, fun z => absurd rfl z, fun _ => sp_isAll hB hr (fun q2 => ⟨_, rfl, fun _ => ?_, fun z => absurd z n10⟩) (fun q2 => ⟨_, rfl, fun z => absurd rfl z, fun _ => ?_⟩)⟩)
      · rw [mixB_not.mpr (Or.inl ((all_no hB hT hr).mp q))] at ih
        exact ih
      · rw [mixB_not.mpr (Or.inr ((all_yes hB hT hr).mp q2))] at ih
        exact ih
      · have : mixB (T r) N = true := by
          refine Classical.byContradiction fun hn => ?_
          rcases mixB_not.mp (by simpa using hn) with h1 | h1
          · exact q ((all_no hB hT hr).mpr h1)
          · exact q2 ((all_yes hB hT hr).mpr h1)
        rw [this] at ih
        exact ih
  exact loop 0 (Nat.zero_le _)
theorem X_count {x1 : Int32} (hI : InvX σ N cap T o oi c P) (hbad : (¬ ∃ j, j < 4 ∧ x1 = nI j) → K (some (.int (-1))) σ) (h0 : x1 = nI 0 → K (some (.int (nI N))) σ) (h1 : x1 = nI 1 → K (some (.int (nI cap))) σ) (h2 : x1 = nI 2 → ∀ wk, (∀ k, k < N → Wid (FT T o N) N 0 32 k (wk k)) → ∀ σ', InvX σ' N cap T o oi c P → K (some (.int (nI (sumN wk N)))) σ') (h3 : x1 = nI 3 → K (some (.int (nI (cntB (fun r => mixB (T r) N) 32)))) σ) : Runs g 0 45 (d + 7) M_X2_count [.ref (eA g 0), .int x1] σ K := by
  refine E_X2_count g (d + 6) _ σ K ⟨fun q => ?_, fun q => ?_, fun q => ?_, fun q => ?_, fun q => hbad ?_⟩
  · rw [hI.1.2.2.1]
    exact h0 q
  · rw [hI.1.2.2.2.1]
    exact h1 q
  · exact sp_forksAll hI (fun σ' wk hw h7 hwk => ⟨_, rfl, h2 q wk (fun k hk => (hwk k hk).1) σ' (hI.W hw)⟩)
  · exact sp_unsettled (d := d + 4) hI ⟨_, rfl, h3 q⟩
  · rintro ⟨j, hj, rfl⟩
    rcases q with q | q
    · exact nI_pos (by omega) q
    · have := (nI_ltI (by omega) (by omega)).mp q
      omega
theorem X_point {x1 : Int32} (hI : InvX σ N cap T o oi c P) (hbad : ¬ isR x1 → K (some (.int (-2))) σ) (hok : ∀ a, a < 32 → x1 = nI a → ∀ σ', InvX σ' N cap T o oi c (T a) → K (some (.int (nI 0))) σ') : Runs g 0 45 (d + 2) M_X2_point [.ref (eA g 0), .int x1] σ K := by
  have hB := hI.1
  refine E_X2_point g (d + 1) _ σ K (sp_isReg (fun a ha e => ⟨_, rfl, fun _ => ?_, fun q => absurd q n10⟩) (fun hn => ⟨_, rfl, fun q => absurd rfl q, fun _ => hbad hn⟩))
  subst e
  refine sp_pointAt ⟨rfl, hok a ha rfl _ ⟨hB.pt, hI.2.1, a, 0, 0, ?_, ?_, ?_, Or.inl ha, Nat.zero_le _, Nat.two_pow_pos _, Nat.dvd_zero _, fun x hx => ?_⟩⟩
  · rw [sV_uVn (by decide), sV_uVn (by decide), sV_uV]
  · rw [sV_uVn (by decide), sV_uV]
  · rw [sV_uV]
  · have := pos_lt (o := o) (N := N) x
    rw [Nat.sub_zero, Nat.mod_eq_of_lt this, Nat.zero_add]
    exact (reg_bit hI ha hx).symm
/-- the fork at which the pointer is -/
theorem sp_pfork (hI : InvX σ N cap T o oi c P) (h : ∀ pt ps k, sV σ 3 = nI pt → sV σ 4 = nI ps → (pt < 32 ∨ pt = 33) → k ≤ N → ps < 2 ^ N → 2 ^ (N - k) ∣ ps → (∀ x, x < 2 ^ N → P x = tb (sL σ (11 + pt)) (ps + pos o N x % 2 ^ (N - k))) → (∀ k', k' < k → difB P N (o k') = false) → (k < N → difB P N (o k) = true) → K (some (.int (nI k))) σ) : Runs g 0 45 (d + 3) M_X2_pointerFork [.ref (eA g 0)] σ K := by
  obtain ⟨hB, hT, pt, ps, pl, v3, v4, v5, hpt, hpl, hps, hdv, hP⟩ := hI
  have hpw := pwN hB.1.1 hB.1.2
  have hN := hB.1
  have hp := hB.2.2.2.2.2.2.2.1
  refine E_X2_pointerFork g (d + 2) σ K ?_
  rw [v3, v5, vp_iff (by omega), nI_clamp (by omega)]
  refine ⟨by omega, ?_⟩
  have nodep : ∀ k k', k' < k → k ≤ N → (∀ x, x < 2 ^ N → P x = tb (sL σ (11 + pt)) (ps + pos o N x % 2 ^ (N - k))) → difB P N (o k') = false := by
    intro k k' hk' hk hPk
    have hok := hp.1 k' (by omega)
    refine difB_not.mpr fun x hx => ?_
    rw [hPk _ (sbt_lt hx hok.1), hPk _ (sbt_lt hx hok.1), pos_sbt hp hok.1 hx, pos_sbt hp hok.1 hx, hok.2, sbt_mod (by omega), sbt_mod (by omega)]
  have loop : ∀ k, k ≤ N → 2 ^ (N - k) ∣ ps → (∀ x, x < 2 ^ N → P x = tb (sL σ (11 + pt)) (ps + pos o N x % 2 ^ (N - k))) → WP g 0 45 (d + 3) M_X2_pointerFork 15 [(0, .ref (eA g 0)), (1, .ref (eA g (11 + pt))), (2, .int (nI k))] [] σ K := by
    refine up_to (P := fun k => 2 ^ (N - k) ∣ ps → (∀ x, x < 2 ^ N → P x = tb (sL σ (11 + pt)) (ps + pos o N x % 2 ^ (N - k))) → WP g 0 45 (d + 3) M_X2_pointerFork 15 [(0, .ref (eA g 0)), (1, .ref (eA g (11 + pt))), (2, .int (nI k))] [] σ K) N ?_ ?_
    · intro hd hPk
      refine R_X2_pointerFork_15 g (d + 2) _ _ σ K ⟨fun _ => ?_, fun z => ?_⟩
      · rw [hB.2.2.1]
        exact h pt ps N v3 v4 hpt (Nat.le_refl _) hps hd hPk (fun k' hk' => nodep N k' hk' (Nat.le_refl _) hPk) (fun q => absurd q (Nat.lt_irrefl _))
      · rw [hB.2.2.1] at z
        exact absurd (nI_le (Nat.le_refl _) (by omega)) z
    · intro k hk ih hd hPk
      have hpow : 2 ^ (N - k) = 2 * 2 ^ (N - 1 - k) := by rw [← Nat.pow_succ']; congr 1; omega
      have hpos := Nat.two_pow_pos (N - 1 - k)
      have hup := align_lt (m := 0) hd hps (Nat.sub_le N k)
      have hd2 : 2 ^ (N - 1 - k) ∣ ps := Nat.dvd_trans ⟨2, by rw [hpow, Nat.mul_comm]⟩ hd
      have hok := hp.1 k hk
      have sm : ∀ y b, sbt y (N - 1 - k) b % 2 ^ (N - k) = (if b then 2 ^ (N - 1 - k) else 0) + y % 2 ^ (N - 1 - k) := fun y b => by
        rw [show N - k = N - 1 - k + 1 by omega]
        exact sbt_mod2
      have two : ∀ x b, x < 2 ^ N → P (sbt x (o k) b) = tb (sL σ (11 + pt)) (ps + ((if b then 2 ^ (N - 1 - k) else 0) + pos o N x % 2 ^ (N - 1 - k))) := fun x b hx => by
        rw [hPk _ (sbt_lt hx hok.1), pos_sbt hp hok.1 hx, hok.2, sm]
      refine R_X2_pointerFork_15 g (d + 2) _ _ σ K ⟨fun z => ?_, fun _ => ?_⟩
      · rw [hB.2.2.1] at z
        exact absurd ((nI_leI (by omega) (by omega)).mp z) (by omega)
      · refine sp_placeAt (d := d + 1) hB hk ⟨_, rfl, ?_⟩
        rw [v4, jshl1 (by omega), nI_add, nI_1']
        refine sp_alike (d := d) (lenJ_t (by omega)) (lenJ_t (by omega)) (by omega) hd2 (Nat.dvd_add hd2 (Nat.dvd_refl _)) (by omega) (by omega) (fun q => ⟨_, rfl, fun _ => ?_, fun z => absurd z n10⟩) (fun q => ⟨_, rfl, fun z => absurd rfl z, fun _ => ?_⟩)
        · refine ih (by rw [show N - (k + 1) = N - 1 - k by omega]; exact hd2) (fun x hx => ?_)
          have hl : pos o N x % 2 ^ (N - 1 - k) < 2 ^ (N - 1 - k) := Nat.mod_lt _ hpos
          have hx2 := two x (x.testBit (o k)) hx
          rw [sbt_self rfl] at hx2
          rw [hx2, show N - (k + 1) = N - 1 - k by omega]
          cases x.testBit (o k)
          · simp
          · simp only [if_true]
            rw [← Nat.add_assoc]
            exact (q _ hl).symm
        · refine h pt ps k v3 v4 hpt (by omega) hps hd hPk (fun k' hk' => nodep k k' hk' (by omega) hPk) (fun _ => ?_)
          refine Classical.byContradiction fun hn => q fun j hj => ?_
          have hjN : j < 2 ^ N := by omega
          have := difB_not.mp (by simpa using hn) (spr o N j) (spr_lt hp _)
          rw [two _ true (spr_lt hp _), two _ false (spr_lt hp _), pos_spr hp hjN, Nat.mod_eq_of_lt hj] at this
          simp only [if_true, Bool.false_eq_true, if_false, Nat.zero_add] at this
          rw [← Nat.add_assoc] at this
          exact this.symm
  exact loop pl hpl hdv hP
theorem X_go {high : Bool} (hI : InvX σ N cap T o oi c P) (hno : (∀ k, k < N → difB P N (o k) = false) → K (some (.int (nI 0))) σ) (hok : ∀ k, k < N → difB P N (o k) = true → (∀ k', k' < k → difB P N (o k') = false) → ∀ σ', InvX σ' N cap T o oi c (fun x => P (sbt x (o k) high)) → K (some (.int (nI 1))) σ') : Runs g 0 45 (d + 4) M_X2_go [.ref (eA g 0), .int (bI high)] σ K := by
  have hB := hI.1
  have hpw := pwN hB.1.1 hB.1.2
  have hN := hB.1
  have hp := hB.2.2.2.2.2.2.2.1
  refine E_X2_go g (d + 3) _ σ K (sp_pfork hI (fun pt ps k v3 v4 hpt hk hps hd hPk hno' hyes => ⟨_, rfl, ?_⟩))
  rw [hB.2.2.1, nI_eq (by omega) (by omega), bI_0, nI_1']
  refine ⟨fun q => ?_, fun q => hno (fun k' hk' => hno' k' (by omega))⟩
  have hkN : k < N := by omega
  have hok1 := hp.1 k hkN
  have hpow : 2 ^ (N - k) = 2 * 2 ^ (N - 1 - k) := by rw [← Nat.pow_succ']; congr 1; omega
  have hup := align_lt (m := 0) hd hps (Nat.sub_le N k)
  have hpos := Nat.two_pow_pos (N - 1 - k)
  have hd2 : 2 ^ (N - 1 - k) ∣ ps := Nat.dvd_trans ⟨2, by rw [hpow, Nat.mul_comm]⟩ hd
  have two : ∀ x b, x < 2 ^ N → P (sbt x (o k) b) = tb (sL σ (11 + pt)) (ps + ((if b then 2 ^ (N - 1 - k) else 0) + pos o N x % 2 ^ (N - 1 - k))) := fun x b hx => by
    rw [hPk _ (sbt_lt hx hok1.1), pos_sbt hp hok1.1 hx, hok1.2, show N - k = N - 1 - k + 1 by omega, sbt_mod2]
  refine ⟨fun e => ?_, fun e => sp_placeAt (d := d + 2) hB hkN ⟨_, rfl, ?_⟩⟩
  · refine hok k hkN (hyes hkN) hno' _ ⟨hB.fr (fun z hz => by rw [sV_uVn (by omega)]) rfl hB.2.2.2.2.2.2.1 rfl rfl, hI.2.1, pt, ps, k + 1, ?_, ?_, sV_uV, hpt, by omega, hps, ?_, fun x hx => ?_⟩
    · rw [sV_uVn (by decide)]; exact v3
    · rw [sV_uVn (by decide)]; exact v4
    · rw [show N - (k + 1) = N - 1 - k by omega]; exact hd2
    · show P (sbt x (o k) high) = _
      rw [two x high hx, e, show N - (k + 1) = N - 1 - k by omega]
      simp
      rfl
  · rw [v4, jshl1 (by omega), nI_add]
    refine hok k hkN (hyes hkN) hno' _ ⟨hB.fr (fun z hz => by rw [sV_uVn (by omega), sV_uVn (by omega)]) rfl hB.2.2.2.2.2.2.1 rfl rfl, hI.2.1, pt, ps + 2 ^ (N - 1 - k), k + 1, ?_, ?_, sV_uV, hpt, by omega, by omega, ?_, fun x hx => ?_⟩
    · rw [sV_uVn (by decide), sV_uVn (by decide)]; exact v3
    · rw [sV_uVn (by decide), sV_uV]
    · rw [show N - (k + 1) = N - 1 - k by omega]; exact Nat.dvd_add hd2 (Nat.dvd_refl _)
    · show P (sbt x (o k) high) = _
      rw [two x high hx, show high = true by simpa using e, show N - (k + 1) = N - 1 - k by omega, if_pos rfl, ← Nat.add_assoc]
      rfl
theorem X_at (hI : InvX σ N cap T o oi c P) (hno : (∀ k, k < N → difB P N (o k) = false) → K (some (.int (if P 0 then -3 else -2))) σ) (hok : ∀ k, k < N → difB P N (o k) = true → (∀ k', k' < k → difB P N (o k') = false) → K (some (.int (nI (o k)))) σ) : Runs g 0 45 (d + 4) M_X2_at [.ref (eA g 0)] σ K := by
  have hB := hI.1
  have hpw := pwN hB.1.1 hB.1.2
  have hN := hB.1
  refine E_X2_at g (d + 3) σ K (sp_pfork hI (fun pt ps k v3 v4 hpt hk hps hd hPk hno' hyes => ⟨_, rfl, ?_⟩))
  rw [hB.2.2.1, nI_leI (by omega) (by omega), v3, v4]
  refine ⟨fun q => ?_, fun q => ?_⟩
  · have hkN : k = N := by omega
    subst hkN
    have h9 := hno hno'
    have e0 : P 0 = tb (sL σ (11 + pt)) ps := by
      rw [hPk 0 (Nat.two_pow_pos _), Nat.sub_self, Nat.pow_zero, Nat.mod_one, Nat.add_zero]
    rw [vp_iff (by omega), nI_clamp (by omega)]
    refine ⟨by omega, sp_has (d := d + 2) (lenJ_t (by omega)) (by omega) ⟨_, rfl, ?_⟩⟩
    rw [← e0, bI_0]
    refine ⟨fun e => ?_, fun e => ?_⟩
    · rw [e] at h9
      exact h9
    · rw [show P 0 = true by simpa using e] at h9
      exact h9
  · have hkN : k < N := by omega
    rw [vp_iff (by omega), nI_clamp (by omega), hB.2.2.2.2.2.2.2.2.1 k hkN]
    exact ⟨by show k < 12; omega, hok k hkN (hyes hkN) hno'⟩
end CLS7

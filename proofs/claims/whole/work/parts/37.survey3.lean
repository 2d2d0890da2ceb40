theorem room_left {L : Nat → Nat → Int64} {tt : Nat → Nat} {a b n k fc t s : Nat} {fn : Nat → Nat × Nat} (hn : n ≤ 12) (hk : k ≤ n) (hab : b - a ≤ 32) (hfrom : ∀ i, i < fc → ∃ r, a ≤ r ∧ r < b ∧ (fn i).1 = tt r ∧ (fn i).2 < 2 ^ n ∧ 2 ^ (n - k) ∣ (fn i).2)
    (hd : ∀ i j, i < fc → j < fc → eqP (L (11 + (fn i).1)) (L (11 + (fn j).1)) (fn i).2 (fn j).2 (n - k) → i = j) (hr : ∃ r, a ≤ r ∧ r < b ∧ t = tt r) (hs : s < 2 ^ n) (hds : 2 ^ (n - k) ∣ s) (hnew : ∀ i, i < fc → ¬ eqP (L (11 + (fn i).1)) (L (11 + t)) (fn i).2 s (n - k)) : fc < 8192 := by
  obtain ⟨r0, e1, e2, e3⟩ := hr
  have ch : ∀ i, ∃ r, i < fc + 1 → a ≤ r ∧ r < b ∧ (va_up fn fc (t, s) i).1 = tt r ∧ (va_up fn fc (t, s) i).2 < 2 ^ n ∧ 2 ^ (n - k) ∣ (va_up fn fc (t, s) i).2 := fun i => by
    by_cases hi : i < fc
    · obtain ⟨r, q⟩ := hfrom i hi
      refine ⟨r, fun _ => ?_⟩
      rw [up_ne (by omega)]
      exact q
    · by_cases hi2 : i = fc
      · refine ⟨r0, fun _ => ?_⟩
        rw [hi2, up_eq]
        exact ⟨e1, e2, e3, hs, hds⟩
      · exact ⟨0, fun q => absurd q (by omega)⟩
  have := most_found (F := tabF L tt) (m := fc + 1) (fn := fun i => ((ch i).choose, (va_up fn fc (t, s) i).2)) hn hk hab (fun i hi => by
    obtain ⟨q1, q2, q3, q4, q5⟩ := (ch i).choose_spec hi
    exact ⟨q1, q2, q4, q5⟩) (fun i j hi hj hE => by
    obtain ⟨q1, q2, q3, q4, q5⟩ := (ch i).choose_spec hi
    obtain ⟨p1, p2, p3, p4, p5⟩ := (ch j).choose_spec hj
    have hE' : eqP (L (11 + (va_up fn fc (t, s) i).1)) (L (11 + (va_up fn fc (t, s) j).1)) (va_up fn fc (t, s) i).2 (va_up fn fc (t, s) j).2 (n - k) := fun q hq => by
      have := hE q hq
      unfold tabF at this
      simp only at this
      rw [← q3, ← p3] at this
      exact this
    by_cases c1 : i = fc <;> by_cases c2 : j = fc
    · omega
    · rw [c1, up_eq, up_ne c2] at hE'
      exact absurd (fun q hq => (hE' q hq).symm) (hnew j (by omega))
    · rw [c2, up_eq, up_ne c1] at hE'
      exact absurd hE' (hnew i (by omega))
    · rw [up_ne c1, up_ne c2] at hE'
      exact hd i j (by omega) (by omega) hE')
  omega
section SURVEY3
variable {g : Ev} {d : Nat} {σ : St} {K : Option Value → St → Prop}
/-- a find at a level: what is listed grows by at most one, and covers the part -/
theorem sp_find2 {tt : Nat → Nat} {a b n k c fc t s : Nat} {fn : Nat → Nat × Nat} (hS : SV σ (n - k) c fc fn) (hn : n ≤ 12) (hk : k ≤ n) (hab : b - a ≤ 32) (hcap : fc < 2 ^ c) (ht : t < 34)
    (hfrom : ∀ i, i < fc → ∃ r, a ≤ r ∧ r < b ∧ (fn i).1 = tt r ∧ (fn i).2 < 2 ^ n ∧ 2 ^ (n - k) ∣ (fn i).2) (hr : ∃ r, a ≤ r ∧ r < b ∧ t = tt r) (hs : s < 2 ^ n) (hds : 2 ^ (n - k) ∣ s)
    (h : ∀ σ' fc' fn', Sfr σ σ' → SV σ' (n - k) c fc' fn' → fc ≤ fc' → fc' ≤ fc + 1 → (∀ i, i < fc → fn' i = fn i) → (∀ i, i < fc' → ∃ r, a ≤ r ∧ r < b ∧ (fn' i).1 = tt r ∧ (fn' i).2 < 2 ^ n ∧ 2 ^ (n - k) ∣ (fn' i).2) → (∃ i, i < fc' ∧ eqP (sL σ (11 + (fn' i).1)) (sL σ (11 + t)) (fn' i).2 s (n - k)) → K none σ') :
    Runs g 0 45 (d + 3) M_X1_find [.ref (eA g 6), .ref (eA g 1), .int (nI t), .int (nI s), .int (nI (2 ^ (n - k)))] σ K := by
  have h2n : 2 ^ n ≤ 4096 := (Nat.pow_le_pow_right (by omega) hn : 2 ^ n ≤ 2 ^ 12)
  refine sp_find hS (by omega) ht (by omega) hds hcap (fun hnew => room_left hn hk hab hfrom hS.2.2.2.2.2.2.2.1 hr hs hds hnew) (fun ⟨i, hi, hE⟩ => ?_) (fun hnew σ' hf hS' => ?_)
  · exact h σ fc fn ⟨rfl, rfl, rfl, fun _ _ => rfl, fun _ _ _ => rfl⟩ hS (Nat.le_refl _) (by omega) (fun _ _ => rfl) hfrom ⟨i, hi, hE⟩
  · refine h σ' (fc + 1) _ hf hS' (by omega) (Nat.le_refl _) (fun i hi => up_ne (by omega)) (fun i hi => ?_) ⟨fc, by omega, ?_⟩
    · by_cases c1 : i = fc
      · rw [c1, up_eq]
        obtain ⟨r, q1, q2, q3⟩ := hr
        exact ⟨r, q1, q2, q3, hs, hds⟩
      · rw [up_ne c1]
        exact hfrom i (by omega)
    · rw [up_eq]
      exact fun _ _ => rfl
/-- cut: to the next level; it answers the width of this one -/
theorem sp_cut {tt : Nat → Nat} {a b n k fc : Nat} {fn : Nat → Nat × Nat} (hS : SL σ (n - k) fc fn) (hL : LV (sL σ) tt a b n k fc fn) (hn : n ≤ 12) (hk : k < n) (hab : b - a ≤ 32)
    (h : ∀ σ' c' fc' fn' w, Vfr σ σ' → SV σ' (n - (k + 1)) c' fc' fn' → LV (sL σ) tt a b n (k + 1) fc' fn' → Wid (tabF (sL σ) tt) n a b k w → w ≤ 8192 → K (some (.int (nI w))) σ') :
    Runs g 0 45 (d + 4) M_X1_cut [.ref (eA g 6), .ref (eA g 1), .int (nI (2 ^ (n - (k + 1))))] σ K := by
  obtain ⟨v6, hfc, hR, hnm, hok, hd⟩ := hS
  have h2n : 2 ^ n ≤ 4096 := (Nat.pow_le_pow_right (by omega) hn : 2 ^ n ≤ 2 ^ 12)
  have hpow : 2 ^ (n - k) = 2 * 2 ^ (n - (k + 1)) := by rw [← Nat.pow_succ']; congr 1; omega
  have hp0 : 0 < 2 ^ (n - (k + 1)) := Nat.two_pow_pos _
  have hdv : 2 ^ (n - (k + 1)) ∣ 2 ^ (n - k) := ⟨2, by rw [hpow, Nat.mul_comm]⟩
  have hup : ∀ i, i < fc → (fn i).2 + 2 ^ (n - k) ≤ 2 ^ n := fun i hi => by
    obtain ⟨r, -, -, -, q4, q5⟩ := hL.1 i hi
    exact align_lt (m := 0) q5 q4 (Nat.sub_le n k)
  refine E_X1_cut g (d + 3) _ σ K ?_
  have eV : sV (uR (uR σ 1 (sR σ 0)) 0 (sR σ 1)) 6 = nI fc := v6
  have eR0 : sR (uR (uR σ 1 (sR σ 0)) 0 (sR σ 1)) 0 = sR σ 1 := by
    show va_up (va_up (sR σ) 1 (sR σ 0)) 0 (sR σ 1) 0 = _
    rw [up_eq]
  have eR1 : sR (uR (uR σ 1 (sR σ 0)) 0 (sR σ 1)) 1 = sR σ 0 := by
    show va_up (va_up (sR σ) 1 (sR σ 0)) 0 (sR σ 1) 1 = _
    rw [up_ne (by decide), up_eq]
  have hR0 : okR (uR (uR σ 1 (sR σ 0)) 0 (sR σ 1)) := by
    unfold okR
    rw [eR0, eR1]
    rcases hR with ⟨x, y⟩ | ⟨x, y⟩
    · exact Or.inr ⟨y, x⟩
    · exact Or.inl ⟨y, x⟩
  have hV0 : Vfr σ (uR (uR σ 1 (sR σ 0)) 0 (sR σ 1)) := ⟨rfl, rfl, fun _ => hR0, fun _ _ _ => rfl, fun _ _ _ _ => rfl⟩
  rw [eV, pk_mul]
  refine sp_clear (by omega) hR0 (fun σ1 c hr1 hi1 hv1 hc hx hS1 => ⟨rfl, ?_⟩)
  have hr10 : sR σ1 0 = sR σ 1 := by rw [hr1, eR0]
  have hr11 : sR σ1 1 = sR σ 0 := by rw [hr1, eR1]
  obtain ⟨r1, r2, r3, r4, r5, r6, r7⟩ := lenI_R hR
  have hcap : ∀ m, m < 2 * fc → m ≤ 8192 → m < 2 ^ c := fun m h1 h2 => by
    rcases hx with q | q
    · omega
    · rw [q]
      omega
  have loop : ∀ i, i ≤ fc → ∀ (σ2 : St) (fc2 : Nat) (fn2 : Nat → Nat × Nat) (w : Nat) (pos : Nat → Nat), Vfr σ σ2 → sR σ2 = sR σ1 → (∀ q, q < fc → sI σ2 (sR σ 1) q = nI (nmz (fn q))) → SV σ2 (n - (k + 1)) c fc2 fn2 → fc2 ≤ 2 * i →
      (∀ j, j < fc2 → ∃ r, a ≤ r ∧ r < b ∧ (fn2 j).1 = tt r ∧ (fn2 j).2 < 2 ^ n ∧ 2 ^ (n - (k + 1)) ∣ (fn2 j).2) →
      (∀ q, q < i → (∃ j, j < fc2 ∧ eqP (sL σ (11 + (fn2 j).1)) (sL σ (11 + (fn q).1)) (fn2 j).2 (fn q).2 (n - (k + 1))) ∧ ∃ j, j < fc2 ∧ eqP (sL σ (11 + (fn2 j).1)) (sL σ (11 + (fn q).1)) (fn2 j).2 ((fn q).2 + 2 ^ (n - (k + 1))) (n - (k + 1))) →
      w ≤ i → (∀ q, q < w → pos q < i ∧ ¬ eqP (sL σ (11 + (fn (pos q)).1)) (sL σ (11 + (fn (pos q)).1)) (fn (pos q)).2 ((fn (pos q)).2 + 2 ^ (n - k - 1)) (n - k - 1)) → (∀ q q', q < w → q' < w → pos q = pos q' → q = q') →
      (∀ q, q < i → ¬ eqP (sL σ (11 + (fn q).1)) (sL σ (11 + (fn q).1)) (fn q).2 ((fn q).2 + 2 ^ (n - k - 1)) (n - k - 1) → ∃ z, z < w ∧ pos z = q) →
      WP g 0 45 (d + 4) M_X1_cut 38 [(0, .ref (eA g 6)), (1, .ref (eA g 1)), (2, .int (nI (2 ^ (n - (k + 1))))), (4, .int (nI fc)), (5, .int (nI w)), (6, .int (nI i))] [] σ2 K := by
    refine up_to (P := fun i => ∀ (σ2 : St) (fc2 : Nat) (fn2 : Nat → Nat × Nat) (w : Nat) (pos : Nat → Nat), Vfr σ σ2 → sR σ2 = sR σ1 → (∀ q, q < fc → sI σ2 (sR σ 1) q = nI (nmz (fn q))) → SV σ2 (n - (k + 1)) c fc2 fn2 → fc2 ≤ 2 * i →
      (∀ j, j < fc2 → ∃ r, a ≤ r ∧ r < b ∧ (fn2 j).1 = tt r ∧ (fn2 j).2 < 2 ^ n ∧ 2 ^ (n - (k + 1)) ∣ (fn2 j).2) →
      (∀ q, q < i → (∃ j, j < fc2 ∧ eqP (sL σ (11 + (fn2 j).1)) (sL σ (11 + (fn q).1)) (fn2 j).2 (fn q).2 (n - (k + 1))) ∧ ∃ j, j < fc2 ∧ eqP (sL σ (11 + (fn2 j).1)) (sL σ (11 + (fn q).1)) (fn2 j).2 ((fn q).2 + 2 ^ (n - (k + 1))) (n - (k + 1))) →
      w ≤ i → (∀ q, q < w → pos q < i ∧ ¬ eqP (sL σ (11 + (fn (pos q)).1)) (sL σ (11 + (fn (pos q)).1)) (fn (pos q)).2 ((fn (pos q)).2 + 2 ^ (n - k - 1)) (n - k - 1)) → (∀ q q', q < w → q' < w → pos q = pos q' → q = q') →
      (∀ q, q < i → ¬ eqP (sL σ (11 + (fn q).1)) (sL σ (11 + (fn q).1)) (fn q).2 ((fn q).2 + 2 ^ (n - k - 1)) (n - k - 1) → ∃ z, z < w ∧ pos z = q) →
      WP g 0 45 (d + 4) M_X1_cut 38 [(0, .ref (eA g 6)), (1, .ref (eA g 1)), (2, .int (nI (2 ^ (n - (k + 1))))), (4, .int (nI fc)), (5, .int (nI w)), (6, .int (nI i))] [] σ2 K) fc ?_ ?_
    · intro σ2 fc2 fn2 w pos hv hr hup2 hS2 hfc2 hfrom hcov hw hp1 hp2 hp3
      refine R_X1_cut_38 g (d + 3) _ _ _ _ σ2 K ⟨fun _ => h σ2 c fc2 fn2 w hv hS2 ⟨hfrom, fun r s q1 q2 q3 q4 => ?_⟩ (hL.wid hd pos hp1 hp2 hp3 hk) (by omega), fun q => absurd (nI_le (Nat.le_refl _) (by omega)) q⟩
      -- the part at s is a half of a part of level k
      obtain ⟨m, rfl⟩ := q4
      have hsum : 2 ^ (n - k) * (m / 2) + 2 ^ (n - (k + 1)) * (m % 2) = 2 ^ (n - (k + 1)) * m := by
        rw [hpow, show 2 * 2 ^ (n - (k + 1)) * (m / 2) = 2 ^ (n - (k + 1)) * (2 * (m / 2)) by rw [Nat.mul_comm 2, Nat.mul_assoc], ← Nat.mul_add]
        congr 1
        omega
      obtain ⟨i, hi, hE⟩ := hL.2 r (2 ^ (n - k) * (m / 2)) q1 q2 (by omega) ⟨_, rfl⟩
      obtain ⟨⟨j0, c1, c2⟩, ⟨j1, c3, c4⟩⟩ := hcov i hi
      rcases Nat.mod_two_eq_zero_or_one m with hm | hm
      · rw [hm, Nat.mul_zero, Nat.add_zero] at hsum
        refine ⟨j0, c1, fun z hz => ?_⟩
        rw [c2 z hz, hE z (by omega), hsum]
      · rw [hm, Nat.mul_one] at hsum
        refine ⟨j1, c3, fun z hz => ?_⟩
        rw [c4 z hz, Nat.add_assoc, hE _ (by omega), ← hsum, Nat.add_assoc]
    · intro i hi ih σ2 fc2 fn2 w pos hv hr hup2 hS2 hfc2 hfrom hcov hw hp1 hp2 hp3
      obtain ⟨o1, o2, o3⟩ := hok i hi
      obtain ⟨r, l1, l2, l3, l4, l5⟩ := hL.1 i hi
      have hu := hup i hi
      have eL2 : sL σ2 = sL σ := hv.1
      have hR2 : okR σ2 := hS2.2.2.2.2.1
      refine R_X1_cut_38 g (d + 3) _ _ _ _ σ2 K ⟨fun q => absurd ((nI_leI (by omega) (by omega)).mp q) (by omega), fun _ => ?_⟩
      rw [hr, hr10, r1, nI_clamp (by omega), hup2 i hi, nm_t o1 o2, nm_s o1 o2, vp_iff (by omega), vp_iff (by omega), nI_clamp (by omega), nI_add, nI_1', nI_1']
      have hal : 2 ^ (n - (k + 1)) ∣ (fn i).2 := Nat.dvd_trans hdv l5
      have hal2 : 2 ^ (n - (k + 1)) ∣ (fn i).2 + 2 ^ (n - (k + 1)) := Nat.dvd_add hal (Nat.dvd_refl _)
      have hfc8 : fc2 ≤ 8192 := hS2.2.2.2.1
      refine ⟨⟨r2, by omega⟩, ⟨r2, by omega⟩, sp_find2 (tt := tt) (a := a) (b := b) (n := n) (k := k + 1) hS2 hn (by omega) hab (hcap _ (by omega) hfc8) o1 hfrom ⟨r, l1, l2, l3⟩ l4 hal (fun σ3 fc3 fn3 f3 hS3 g1 g2 g3 hfrom3 hcov3 => ⟨rfl, o1, o1, ?_⟩)⟩
      have eL3 : sL σ3 = sL σ := f3.1.trans eL2
      have hv3 : Vfr σ σ3 := hv.tr (f3.V hR2)
      have hr3 : sR σ3 = sR σ1 := f3.2.2.1.trans hr
      have hup3 : ∀ q, q < fc → sI σ3 (sR σ 1) q = nI (nmz (fn q)) := fun q hq => by
        rw [f3.2.2.2.2 (sR σ 1) r5 (by rw [hr, hr11]; exact fun e => r7 e.symm)]
        exact hup2 q hq
      have hk1 : n - k - 1 = n - (k + 1) := by omega
      rw [eL2] at hcov3
      refine sp_alike (lenJ_t o1) (lenJ_t o1) (by omega) hal hal2 (by omega) (by omega) (fun hq => ⟨_, rfl, fun _ => ?_, fun q => absurd q (by decide)⟩) (fun hq => ⟨_, rfl, fun q => absurd rfl q, fun _ => ?_⟩)
      · rw [eL3] at hq
        obtain ⟨j, hj, hE⟩ := hcov3
        refine ih σ3 fc3 fn3 w pos hv3 hr3 hup3 hS3 (by omega) hfrom3 (fun q hq2 => ?_) (by omega) (fun q hq2 => ⟨by have := (hp1 q hq2).1; omega, (hp1 q hq2).2⟩) hp2 (fun q hq2 hn2 => ?_)
        · rcases (show q < i ∨ q = i by omega) with hlt | rfl
          · obtain ⟨⟨j0, c1, c2⟩, ⟨j1, c3, c4⟩⟩ := hcov q hlt
            refine ⟨⟨j0, by omega, ?_⟩, ⟨j1, by omega, ?_⟩⟩
            · rw [g3 j0 c1]; exact c2
            · rw [g3 j1 c3]; exact c4
          · exact ⟨⟨j, hj, hE⟩, ⟨j, hj, fun z hz => (hE z hz).trans (hq z hz)⟩⟩
        · rcases (show q < i ∨ q = i by omega) with hlt | rfl
          · exact hp3 q hlt hn2
          · rw [hk1] at hn2
            exact absurd hq hn2
      · rw [eL3] at hq
        have hfc8' : fc3 ≤ 8192 := hS3.2.2.2.1
        obtain ⟨jA, hjA, hEA⟩ := hcov3
        refine sp_find2 (tt := tt) (a := a) (b := b) (n := n) (k := k + 1) hS3 hn (by omega) hab (hcap _ (by omega) hfc8') o1 hfrom3 ⟨r, l1, l2, l3⟩ (by omega) hal2 (fun σ4 fc4 fn4 f4 hS4 u1 u2 u3 hfrom4 hcov4 => ⟨rfl, ?_⟩)
        have hr4 : sR σ4 = sR σ1 := f4.2.2.1.trans hr3
        have hup4 : ∀ q, q < fc → sI σ4 (sR σ 1) q = nI (nmz (fn q)) := fun q hq => by
          rw [f4.2.2.2.2 (sR σ 1) r5 (by rw [hr3, hr11]; exact fun e => r7 e.symm)]
          exact hup3 q hq
        rw [eL3] at hcov4
        have hne : ∀ q, q < w → pos q ≠ i := fun q hq2 e => by
          have := (hp1 q hq2).1
          omega
        refine ih σ4 fc4 fn4 (w + 1) (va_up pos w i) (hv3.tr (f4.V hS3.2.2.2.2.1)) hr4 hup4 hS4 (by omega) hfrom4 (fun q hq2 => ?_) (by omega) (fun q hq2 => ?_) (fun q q' hq2 hq3 e => ?_) (fun q hq2 hn2 => ?_)
        · rcases (show q < i ∨ q = i by omega) with hlt | rfl
          · obtain ⟨⟨j0, c1, c2⟩, ⟨j1, c3, c4⟩⟩ := hcov q hlt
            refine ⟨⟨j0, by omega, ?_⟩, ⟨j1, by omega, ?_⟩⟩
            · rw [u3 j0 (by omega), g3 j0 c1]; exact c2
            · rw [u3 j1 (by omega), g3 j1 c3]; exact c4
          · refine ⟨⟨jA, by omega, ?_⟩, hcov4⟩
            rw [u3 jA hjA]
            exact hEA
        · by_cases c1 : q = w
          · rw [c1, up_eq, hk1]
            exact ⟨by omega, hq⟩
          · rw [up_ne c1]
            have := hp1 q (by omega)
            exact ⟨by omega, this.2⟩
        · by_cases c1 : q = w <;> by_cases c2 : q' = w
          · omega
          · rw [c1, up_eq, up_ne c2] at e
            exact absurd e.symm (hne q' (by omega))
          · rw [c2, up_eq, up_ne c1] at e
            exact absurd e (hne q (by omega))
          · rw [up_ne c1, up_ne c2] at e
            exact hp2 q q' (by omega) (by omega) e
        · rcases (show q < i ∨ q = i by omega) with hlt | rfl
          · obtain ⟨z, hz, hpz⟩ := hp3 q hlt hn2
            exact ⟨z, by omega, by rw [up_ne (by omega)]; exact hpz⟩
          · exact ⟨w, by omega, up_eq⟩
  exact loop 0 (Nat.zero_le _) σ1 0 (fun _ => (0, 0)) 0 (fun _ => 0) (hV0.tr hv1) rfl (fun q hq => by
    rw [hi1 (sR σ 1) r5]
    exact hnm q hq) (hS1 _ _) (Nat.le_refl _) (fun j hj => absurd hj (Nat.not_lt_zero _)) (fun q hq => absurd hq (Nat.not_lt_zero _)) (Nat.le_refl _) (fun q hq => absurd hq (Nat.not_lt_zero _)) (fun q q' hq => absurd hq (Nat.not_lt_zero _)) (fun q hq => absurd hq (Nat.not_lt_zero _))
end SURVEY3

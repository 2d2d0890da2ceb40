/-- the list alone, without the slots -/
def SL (σ : St) (e fc : Nat) (fn : Nat → Nat × Nat) : Prop :=
  sV σ 6 = nI fc ∧ fc ≤ 8192 ∧ okR σ ∧ (∀ i, i < fc → sI σ (sR σ 1) i = nI (nmz (fn i))) ∧ (∀ i, i < fc → (fn i).1 < 34 ∧ (fn i).2 < 4096 ∧ 2 ^ e ∣ (fn i).2) ∧
  (∀ i j, i < fc → j < fc → eqP (sL σ (11 + (fn i).1)) (sL σ (11 + (fn j).1)) (fn i).2 (fn j).2 e → i = j)
theorem SV.SL {σ : St} {e c fc : Nat} {fn : Nat → Nat × Nat} (h : SV σ e c fc fn) : SL σ e fc fn := ⟨h.2.2.1, h.2.2.2.1, h.2.2.2.2.1, h.2.2.2.2.2.1, h.2.2.2.2.2.2.1, h.2.2.2.2.2.2.2.1⟩
/-- the list has a name for each part at level k of the tables tt r, r from a to b -/
def LV (L : Nat → Nat → Int64) (tt : Nat → Nat) (a b n k fc : Nat) (fn : Nat → Nat × Nat) : Prop :=
  (∀ i, i < fc → ∃ r, a ≤ r ∧ r < b ∧ (fn i).1 = tt r ∧ (fn i).2 < 2 ^ n ∧ 2 ^ (n - k) ∣ (fn i).2) ∧
  ∀ r s, a ≤ r → r < b → s < 2 ^ n → 2 ^ (n - k) ∣ s → ∃ i, i < fc ∧ eqP (L (11 + (fn i).1)) (L (11 + tt r)) (fn i).2 s (n - k)
def Vfr (σ σ' : St) : Prop := sL σ' = sL σ ∧ sW σ' = sW σ ∧ (okR σ → okR σ') ∧ (∀ k, k ≠ 6 → k ≠ 7 → sV σ' k = sV σ k) ∧ ∀ k, k ≠ 8 → k ≠ 9 → k ≠ 10 → sI σ' k = sI σ k
theorem Vfr.rf {σ : St} : Vfr σ σ := ⟨rfl, rfl, id, fun _ _ _ => rfl, fun _ _ _ _ => rfl⟩
theorem Vfr.tr {σ σ1 σ2 : St} (h : Vfr σ σ1) (h' : Vfr σ1 σ2) : Vfr σ σ2 := ⟨h'.1.trans h.1, h'.2.1.trans h.2.1, fun q => h'.2.2.1 (h.2.2.1 q), fun k a b => (h'.2.2.2.1 k a b).trans (h.2.2.2.1 k a b), fun k a b c => (h'.2.2.2.2 k a b c).trans (h.2.2.2.2 k a b c)⟩
theorem Sfr.V {σ σ' : St} (hR : okR σ) (h : Sfr σ σ') : Vfr σ σ' := by
  obtain ⟨a, b, c, e, f⟩ := h
  refine ⟨a, b, fun q => ?_, fun k h1 _ => e k h1, fun k h2 h3 h4 => f k h4 ?_⟩
  · unfold okR
    rw [c]
    exact q
  · rcases hR with ⟨-, r⟩ | ⟨-, r⟩ <;> rw [r] <;> assumption
def Wfr (σ σ' : St) : Prop := sL σ' = sL σ ∧ sW σ' = sW σ ∧ (okR σ → okR σ') ∧ (∀ k, k ≠ 6 → k ≠ 7 → sV σ' k = sV σ k) ∧ ∀ k, k ≠ 7 → k ≠ 8 → k ≠ 9 → k ≠ 10 → sI σ' k = sI σ k
theorem Wfr.rf {σ : St} : Wfr σ σ := ⟨rfl, rfl, id, fun _ _ _ => rfl, fun _ _ _ _ _ => rfl⟩
theorem Wfr.tr {σ σ1 σ2 : St} (h : Wfr σ σ1) (h' : Wfr σ1 σ2) : Wfr σ σ2 := ⟨h'.1.trans h.1, h'.2.1.trans h.2.1, fun q => h'.2.2.1 (h.2.2.1 q), fun k a b => (h'.2.2.2.1 k a b).trans (h.2.2.2.1 k a b), fun k a b c d => (h'.2.2.2.2 k a b c d).trans (h.2.2.2.2 k a b c d)⟩
theorem Vfr.W {σ σ' : St} (h : Vfr σ σ') : Wfr σ σ' := ⟨h.1, h.2.1, h.2.2.1, h.2.2.2.1, fun k _ b c d => h.2.2.2.2 k b c d⟩
def tabF (L : Nat → Nat → Int64) (tt : Nat → Nat) : Nat → Nat → Bool := fun r i => tb (L (11 + tt r)) i
/-- what the parts listed tell of the width -/
theorem LV.wid {L : Nat → Nat → Int64} {tt : Nat → Nat} {a b n k fc w : Nat} {fn : Nat → Nat × Nat} (h : LV L tt a b n k fc fn) (hd : ∀ i j, i < fc → j < fc → eqP (L (11 + (fn i).1)) (L (11 + (fn j).1)) (fn i).2 (fn j).2 (n - k) → i = j)
    (pos : Nat → Nat) (hp : ∀ q, q < w → pos q < fc ∧ ¬ eqP (L (11 + (fn (pos q)).1)) (L (11 + (fn (pos q)).1)) (fn (pos q)).2 ((fn (pos q)).2 + 2 ^ (n - k - 1)) (n - k - 1)) (hi : ∀ q q', q < w → q' < w → pos q = pos q' → q = q')
    (hc : ∀ i, i < fc → ¬ eqP (L (11 + (fn i).1)) (L (11 + (fn i).1)) (fn i).2 ((fn i).2 + 2 ^ (n - k - 1)) (n - k - 1) → ∃ q, q < w ∧ pos q = i) (hk : k < n) : Wid (tabF L tt) n a b k w := by
  have hpow : 2 ^ (n - k) = 2 * 2 ^ (n - k - 1) := by rw [← Nat.pow_succ']; congr 1; omega
  have ch : ∀ i, ∃ r, i < fc → a ≤ r ∧ r < b ∧ (fn i).1 = tt r ∧ (fn i).2 < 2 ^ n ∧ 2 ^ (n - k) ∣ (fn i).2 := fun i => by
    by_cases hi : i < fc
    · obtain ⟨r, hr⟩ := h.1 i hi
      exact ⟨r, fun _ => hr⟩
    · exact ⟨0, fun q => absurd q hi⟩
  refine ⟨fun q => ((ch (pos q)).choose, (fn (pos q)).2), fun q hq => ?_, fun q q' hq hq' hE => ?_, fun z hz => ?_⟩
  · obtain ⟨p1, p2⟩ := hp q hq
    obtain ⟨r1, r2, r3, r4, r5⟩ := (ch (pos q)).choose_spec p1
    refine ⟨⟨r1, r2, r4, r5⟩, fun hall => p2 fun j hj => ?_⟩
    have := hall j hj
    unfold tabF at this
    simp only at this
    rw [← r3] at this
    exact this
  · obtain ⟨p1, -⟩ := hp q hq
    obtain ⟨p1', -⟩ := hp q' hq'
    obtain ⟨r1, r2, r3, r4, r5⟩ := (ch (pos q)).choose_spec p1
    obtain ⟨r1', r2', r3', r4', r5'⟩ := (ch (pos q')).choose_spec p1'
    refine hi q q' hq hq' (hd _ _ p1 p1' fun j hj => ?_)
    have := hE j hj
    unfold tabF at this
    simp only at this
    rw [← r3, ← r3'] at this
    exact this
  · obtain ⟨⟨z1, z2, z3, z4⟩, z5⟩ := hz
    obtain ⟨i, hi, hE⟩ := h.2 z.1 z.2 z1 z2 z3 z4
    obtain ⟨q, hq, rfl⟩ := hc i hi (fun hall => z5 fun j hj => by
      have h1 := hE j (by omega)
      have h2 := hE (2 ^ (n - k - 1) + j) (by omega)
      have h3 := hall j hj
      rw [← Nat.add_assoc, ← Nat.add_assoc] at h2
      show tb (L (11 + tt z.1)) (z.2 + j) = tb (L (11 + tt z.1)) (z.2 + 2 ^ (n - k - 1) + j)
      rw [← h1, ← h2, h3])
    obtain ⟨r1, r2, r3, r4, r5⟩ := (ch (pos q)).choose_spec hi
    refine ⟨q, hq, fun j hj => ?_⟩
    show tb (L (11 + tt (ch (pos q)).choose)) ((fn (pos q)).2 + j) = tb (L (11 + tt z.1)) (z.2 + j)
    rw [← r3]
    exact hE j hj
section SURVEY2
variable {g : Ev} {d : Nat} {σ : St} {K : Option Value → St → Prop}
theorem sp_clear {x : Nat} (hx : x ≤ 20000) (hR : okR σ) (h : ∀ σ' c, sR σ' = sR σ → (∀ k, k ≠ 10 → sI σ' k = sI σ k) → Vfr σ σ' → c ≤ 14 → (2 * x ≤ 2 ^ c ∨ c = 14) → (∀ e fn, SV σ' e c 0 fn) → K none σ') : Runs g 0 45 (d + 3) M_X1_clear [.ref (eA g 6), .int (nI x)] σ K := by
  refine E_X1_clear g (d + 2) _ σ K ?_
  have fin : ∀ c, c ≤ 14 → (2 * x ≤ 2 ^ c ∨ c = 14) → Runs g 0 45 (d + 2) M_J7_fill_fda19 [.ref (eA g 10), .int (nI 0), .int (nI (2 ^ c)), .int (nI 0)] (uV σ 7 (nI (2 ^ c))) (fun r1 σ1 => r1 = none ∧ K none (uV σ1 6 (nI 0))) := by
    intro c hc hx2
    have hC : 2 ^ c ≤ 16384 := (Nat.pow_le_pow_right (by omega) hc : 2 ^ c ≤ 2 ^ 14)
    refine sp_fillIr (by decide) (by decide) (by decide) hC (fun f hf => ⟨rfl, h _ c rfl (fun k hk => ?_) ⟨rfl, rfl, id, fun k h6 h7 => ?_, fun k h8 h9 h10 => ?_⟩ hc hx2 (fun e fn => ?_)⟩)
    · rw [sI_uV, sI_uIfn hk, sI_uV]
    · rw [sV_uVn h6, sV_uIf, sV_uVn h7]
    · rw [sI_uV, sI_uIfn h10, sI_uV]
    · refine ⟨hc, ?_, ?_, Nat.zero_le _, hR, fun i hi => absurd hi (Nat.not_lt_zero _), fun i hi => absurd hi (Nat.not_lt_zero _), fun i j hi => absurd hi (Nat.not_lt_zero _), fun _ => 0, fun q hq => ?_, fun q hq => Nat.le_refl _, fun q q' _ _ _ h0 => absurd rfl h0, fun i hi => absurd hi (Nat.not_lt_zero _)⟩
      · rw [sV_uVn (by decide), sV_uIf, sV_uV]
      · rw [sV_uV]
      · rw [sI_uV, sI_uIf]
        exact hf q hq
  have uu : ∀ a b, uV (uV σ 7 a) 7 b = uV σ 7 b := fun a b => by
    unfold uV
    rw [bx_uu]
  have loop : ∀ m c, m = 14 - c → 1 ≤ c → c ≤ 14 → WP g 0 45 (d + 3) M_X1_clear 5 [(0, .ref (eA g 6)), (1, .int (nI x))] [] (uV σ 7 (nI (2 ^ c))) K := by
    intro m
    induction m with
    | zero =>
      intro c hm hc1 hc
      have hc : c = 14 := by omega
      subst hc
      refine R_X1_clear_5 g (d + 2) _ _ K ?_
      rw [sV_uV]
      exact ⟨fun _ => fin 14 (by omega) (Or.inr rfl), fun _ => ⟨fun _ => fin 14 (by omega) (Or.inr rfl), fun q => absurd (nI_le (by decide) (by decide)) q⟩⟩
    | succ m ih =>
      intro c hm hc1 hc
      have hC : 2 ^ (c + 1) ≤ 16384 := (Nat.pow_le_pow_right (by omega) (by omega) : 2 ^ (c + 1) ≤ 2 ^ 14)
      have hC2 : 2 ^ (c + 1) = 2 ^ c * 2 := Nat.pow_succ 2 c
      refine R_X1_clear_5 g (d + 2) _ _ K ?_
      rw [sV_uV, pk_mul, nI_leI (by omega) (by omega), nI_leI (by omega) (by omega), pk_mul, uu, ← hC2]
      exact ⟨fun q => fin c hc (Or.inl q), fun _ => ⟨fun q => absurd q (by omega), fun _ => ih (c + 1) (by omega) (by omega) (by omega)⟩⟩
  exact loop 13 1 rfl (Nat.le_refl _) (by omega)
theorem Sfr.SL {σ σ' : St} (h : Sfr σ σ') : sL σ' = sL σ := h.1
/-- list -/
theorem sp_list {a b n : Nat} {x4 : Int32} {tt : Nat → Nat} (hab : a < b) (hb : b ≤ 32) (hn1 : 1 ≤ n) (hn : n ≤ 12) (hR : okR σ) (htt : ∀ r, a ≤ r → r < b → tt r = if nI r = x4 then 32 else r)
    (h : ∀ σ' c fc fn, Vfr σ σ' → SV σ' n c fc fn → LV (sL σ) tt a b n 0 fc fn → K none σ') : Runs g 0 45 (d + 4) M_X1_list [.ref (eA g 6), .ref (eA g 1), .int (nI a), .int (nI (b - 1)), .int x4, .int (nI n)] σ K := by
  have h2n : 2 ^ n ≤ 4096 := (Nat.pow_le_pow_right (by omega) hn : 2 ^ n ≤ 2 ^ 12)
  refine E_X1_list g (d + 3) _ _ _ _ σ K ?_
  rw [pk_sub (by omega), nI_1']
  refine sp_clear (by omega) hR (fun σ0 c hr0 _ hv0 hc hx hS0 => ⟨rfl, ?_⟩)
  have loop : ∀ i, i ≤ b - a → ∀ σ1 fc fn, Vfr σ σ1 → SV σ1 n c fc fn → fc ≤ i → (∀ j, j < fc → ∃ r, a ≤ r ∧ r < a + i ∧ fn j = (tt r, 0)) → (∀ r, a ≤ r → r < a + i → ∃ j, j < fc ∧ eqP (sL σ (11 + (fn j).1)) (sL σ (11 + tt r)) (fn j).2 0 n) → WP g 0 45 (d + 4) M_X1_list 12 [(0, .ref (eA g 6)), (1, .ref (eA g 1)), (3, .int (nI (b - 1))), (4, .int x4), (5, .int (nI n)), (6, .int (nI (a + i)))] [] σ1 K := by
    refine up_to (P := fun i => ∀ σ1 fc fn, Vfr σ σ1 → SV σ1 n c fc fn → fc ≤ i → (∀ j, j < fc → ∃ r, a ≤ r ∧ r < a + i ∧ fn j = (tt r, 0)) → (∀ r, a ≤ r → r < a + i → ∃ j, j < fc ∧ eqP (sL σ (11 + (fn j).1)) (sL σ (11 + tt r)) (fn j).2 0 n) → WP g 0 45 (d + 4) M_X1_list 12 [(0, .ref (eA g 6)), (1, .ref (eA g 1)), (3, .int (nI (b - 1))), (4, .int x4), (5, .int (nI n)), (6, .int (nI (a + i)))] [] σ1 K) (b - a) ?_ ?_
    · intro σ1 fc fn hv hS hfc h1 h2
      refine R_X1_list_12 g (d + 3) _ _ _ _ σ1 K ⟨fun _ => h σ1 c fc fn hv hS ⟨fun i hi => ?_, fun r s hr1 hr2 hs hd => ?_⟩, fun q => absurd (nI_lt (by omega) (by omega)) q⟩
      · obtain ⟨r, q1, q2, q3⟩ := h1 i hi
        refine ⟨r, q1, by omega, by rw [q3], ?_, ?_⟩
        · rw [q3]
          exact Nat.two_pow_pos n
        · rw [q3]
          exact Nat.dvd_zero _
      · have hs0 : s = 0 := Nat.eq_zero_of_dvd_of_lt hd hs
        subst hs0
        exact h2 r hr1 (by omega)
    · intro i hi ih σ1 fc fn hv hS hfc h1 h2
      have eL : sL σ1 = sL σ := hv.1
      have hcap : fc < 2 ^ c := by
        rcases hx with q | q
        · omega
        · rw [q]
          omega
      have key : ∀ t, t = tt (a + i) → t < 34 → Runs g 0 45 (d + 3) M_X1_find [.ref (eA g 6), .ref (eA g 1), .int (nI t), .int (nI 0), .int (jshl (nI 1) (nI n))] σ1 (fun r1 σ2 => r1 = none ∧ WP g 0 45 (d + 4) M_X1_list 12 [(0, .ref (eA g 6)), (1, .ref (eA g 1)), (3, .int (nI (b - 1))), (4, .int x4), (5, .int (nI n)), (6, .int (nI (a + i) + nI 1))] [] σ2 K) := by
        intro t htt' ht
        rw [jshl1 (by omega), nI_1']
        refine sp_find hS hn ht (by omega) (Nat.dvd_zero _) hcap (fun _ => by omega) (fun ⟨j, hj, hq⟩ => ⟨rfl, ih σ1 fc fn hv hS (by omega) (fun j hj => ?_) (fun r q1 q2 => ?_)⟩) (fun hq σ2 hf hS2 => ⟨rfl, ih σ2 (fc + 1) _ (hv.tr (hf.V hS.2.2.2.2.1)) hS2 (by omega) (fun j hj => ?_) (fun r q1 q2 => ?_)⟩)
        · obtain ⟨r, q1, q2, q3⟩ := h1 j hj
          exact ⟨r, q1, by omega, q3⟩
        · rcases (show r < a + i ∨ r = a + i by omega) with q | q
          · exact h2 r q1 q
          · subst q
            rw [eL] at hq
            rw [← htt']
            exact ⟨j, hj, hq⟩
        · by_cases e9 : j = fc
          · rw [e9, up_eq]
            exact ⟨a + i, by omega, by omega, by rw [htt']⟩
          · rw [up_ne e9]
            obtain ⟨r, q1, q2, q3⟩ := h1 j (by omega)
            exact ⟨r, q1, by omega, q3⟩
        · rcases (show r < a + i ∨ r = a + i by omega) with q | q
          · obtain ⟨j, hj, hE⟩ := h2 r q1 q
            refine ⟨j, by omega, ?_⟩
            rw [up_ne (by omega)]
            exact hE
          · subst q
            refine ⟨fc, by omega, ?_⟩
            rw [up_eq, htt']
            exact fun _ _ => rfl
      have ht0 := htt (a + i) (by omega) (by omega)
      refine R_X1_list_12 g (d + 3) _ _ _ _ σ1 K ⟨fun q => absurd ((nI_ltI (by omega) (by omega)).mp q) (by omega), fun _ => ⟨fun q => ?_, fun q => ?_⟩⟩
      · rw [if_neg q] at ht0
        exact key (a + i) ht0.symm (by omega)
      · rw [if_pos q] at ht0
        exact key 32 ht0.symm (by omega)
  have := loop 0 (Nat.zero_le _) σ0 0 (fun _ => (0, 0)) hv0 (hS0 _ _) (Nat.le_refl _) (fun j hj => absurd hj (Nat.not_lt_zero _)) (fun r q1 q2 => absurd q2 (by omega))
  exact this
end SURVEY2

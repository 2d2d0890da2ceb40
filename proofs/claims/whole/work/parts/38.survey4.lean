def sumN (f : Nat → Nat) : Nat → Nat
  | 0 => 0
  | n + 1 => sumN f n + f n
theorem sumN_le {f : Nat → Nat} {m : Nat} : ∀ {n : Nat}, (∀ k, k < n → f k ≤ m) → sumN f n ≤ n * m
  | 0, _ => Nat.zero_le _
  | n + 1, h => by
    have h1 := sumN_le (n := n) (fun k hk => h k (by omega))
    have h2 := h n (by omega)
    show sumN f n + f n ≤ (n + 1) * m
    rw [Nat.add_mul, Nat.one_mul]
    omega
theorem sumN_congr {f f' : Nat → Nat} : ∀ {n : Nat}, (∀ k, k < n → f k = f' k) → sumN f n = sumN f' n
  | 0, _ => rfl
  | n + 1, h => by
    show sumN f n + f n = sumN f' n + f' n
    rw [sumN_congr (n := n) (fun k hk => h k (by omega)), h n (by omega)]
theorem SL_uI {σ : St} {e fc k i : Nat} {x : Int32} {fn : Nat → Nat × Nat} (hk : k ≠ 8) (hk2 : k ≠ 9) (h : SL σ e fc fn) : SL (uI σ k i x) e fc fn := by
  obtain ⟨a, b, c, d, e1, f⟩ := h
  refine ⟨a, b, c, fun i hi => ?_, e1, f⟩
  rw [sR_uI, sI_uIn (by rcases c with ⟨-, r⟩ | ⟨-, r⟩ <;> rw [r] <;> omega)]
  exact d i hi
section SURVEY4
variable {g : Ev} {d : Nat} {σ : St} {K : Option Value → St → Prop}
theorem sp_forksListed {tt : Nat → Nat} {a b n k fc : Nat} {fn : Nat → Nat × Nat} (hS : SL σ (n - k) fc fn) (hL : LV (sL σ) tt a b n k fc fn) (hn : n ≤ 12) (hk : k < n)
    (h : ∀ w, Wid (tabF (sL σ) tt) n a b k w → w ≤ 8192 → K (some (.int (nI w))) σ) : Runs g 0 45 (d + 3) M_X1_forksListed [.ref (eA g 6), .ref (eA g 1), .int (nI (2 ^ (n - (k + 1))))] σ K := by
  obtain ⟨v6, hfc, hR, hnm, hok, hd⟩ := hS
  obtain ⟨r1, r2, -⟩ := lenI_R hR
  have h2n : 2 ^ n ≤ 4096 := (Nat.pow_le_pow_right (by omega) hn : 2 ^ n ≤ 2 ^ 12)
  have hpow : 2 ^ (n - k) = 2 * 2 ^ (n - (k + 1)) := by rw [← Nat.pow_succ']; congr 1; omega
  have hp0 : 0 < 2 ^ (n - (k + 1)) := Nat.two_pow_pos _
  have hdv : 2 ^ (n - (k + 1)) ∣ 2 ^ (n - k) := ⟨2, by rw [hpow, Nat.mul_comm]⟩
  have hk1 : n - k - 1 = n - (k + 1) := by omega
  refine E_X1_forksListed g (d + 2) _ σ K ?_
  have loop : ∀ i, i ≤ fc → ∀ (w : Nat) (pos : Nat → Nat), w ≤ i → (∀ q, q < w → pos q < i ∧ ¬ eqP (sL σ (11 + (fn (pos q)).1)) (sL σ (11 + (fn (pos q)).1)) (fn (pos q)).2 ((fn (pos q)).2 + 2 ^ (n - k - 1)) (n - k - 1)) → (∀ q q', q < w → q' < w → pos q = pos q' → q = q') →
      (∀ q, q < i → ¬ eqP (sL σ (11 + (fn q).1)) (sL σ (11 + (fn q).1)) (fn q).2 ((fn q).2 + 2 ^ (n - k - 1)) (n - k - 1) → ∃ z, z < w ∧ pos z = q) →
      WP g 0 45 (d + 3) M_X1_forksListed 5 [(0, .ref (eA g 6)), (1, .ref (eA g 1)), (2, .int (nI (2 ^ (n - (k + 1))))), (3, .int (nI w)), (4, .int (nI i))] [] σ K := by
    refine up_to (P := fun i => ∀ (w : Nat) (pos : Nat → Nat), w ≤ i → (∀ q, q < w → pos q < i ∧ ¬ eqP (sL σ (11 + (fn (pos q)).1)) (sL σ (11 + (fn (pos q)).1)) (fn (pos q)).2 ((fn (pos q)).2 + 2 ^ (n - k - 1)) (n - k - 1)) → (∀ q q', q < w → q' < w → pos q = pos q' → q = q') →
      (∀ q, q < i → ¬ eqP (sL σ (11 + (fn q).1)) (sL σ (11 + (fn q).1)) (fn q).2 ((fn q).2 + 2 ^ (n - k - 1)) (n - k - 1) → ∃ z, z < w ∧ pos z = q) →
      WP g 0 45 (d + 3) M_X1_forksListed 5 [(0, .ref (eA g 6)), (1, .ref (eA g 1)), (2, .int (nI (2 ^ (n - (k + 1))))), (3, .int (nI w)), (4, .int (nI i))] [] σ K) fc ?_ ?_
    · intro w pos hw hp1 hp2 hp3
      refine R_X1_forksListed_5 g (d + 2) _ _ _ σ K ⟨fun _ => h w (hL.wid hd pos hp1 hp2 hp3 hk) (by omega), fun q => ?_⟩
      rw [v6] at q
      exact absurd (nI_le (Nat.le_refl _) (by omega)) q
    · intro i hi ih w pos hw hp1 hp2 hp3
      obtain ⟨o1, o2, o3⟩ := hok i hi
      obtain ⟨r, l1, l2, l3, l4, l5⟩ := hL.1 i hi
      have hu := align_lt (m := 0) l5 l4 (Nat.sub_le n k)
      have hal : 2 ^ (n - (k + 1)) ∣ (fn i).2 := Nat.dvd_trans hdv l5
      have hal2 : 2 ^ (n - (k + 1)) ∣ (fn i).2 + 2 ^ (n - (k + 1)) := Nat.dvd_add hal (Nat.dvd_refl _)
      refine R_X1_forksListed_5 g (d + 2) _ _ _ σ K ⟨fun q => ?_, fun _ => ?_⟩
      · rw [v6] at q
        exact absurd ((nI_leI (by omega) (by omega)).mp q) (by omega)
      rw [r1, nI_clamp (by omega), hnm i hi, nm_t o1 o2, nm_s o1 o2, vp_iff (by omega), vp_iff (by omega), nI_clamp (by omega), nI_add, nI_1', nI_1']
      have hne : ∀ q, q < w → pos q ≠ i := fun q hq2 e => by
        have := (hp1 q hq2).1
        omega
      refine ⟨⟨r2, by omega⟩, o1, ⟨r2, by omega⟩, sp_alike (lenJ_t o1) (lenJ_t o1) (by omega) hal hal2 (by omega) (by omega) (fun hq => ⟨_, rfl, fun _ => ?_, fun q => absurd q (by decide)⟩) (fun hq => ⟨_, rfl, fun q => absurd rfl q, fun _ => ?_⟩)⟩
      · refine ih w pos (by omega) (fun q hq2 => ⟨by have := (hp1 q hq2).1; omega, (hp1 q hq2).2⟩) hp2 (fun q hq2 hn2 => ?_)
        rcases (show q < i ∨ q = i by omega) with hlt | rfl
        · exact hp3 q hlt hn2
        · rw [hk1] at hn2
          exact absurd hq hn2
      · refine ih (w + 1) (va_up pos w i) (by omega) (fun q hq2 => ?_) (fun q q' hq2 hq3 e => ?_) (fun q hq2 hn2 => ?_)
        · by_cases c1 : q = w
          · rw [c1, up_eq, hk1]
            exact ⟨by omega, hq⟩
          · rw [up_ne c1]
            have := hp1 q (by omega)
            exact ⟨by omega, this.2⟩
        · by_cases c1 : q = w <;> by_cases c2 : q' = w
          · omega
          · rw [c1, up_eq, up_ne c2] at e
            exact absurd e.symm (hne q' (by omega))
          · rw [c2, up_eq, up_ne c1] at e
            exact absurd e (hne q (by omega))
          · rw [up_ne c1, up_ne c2] at e
            exact hp2 q q' (by omega) (by omega) e
        · rcases (show q < i ∨ q = i by omega) with hlt | rfl
          · obtain ⟨z, hz, hpz⟩ := hp3 q hlt hn2
            exact ⟨z, by omega, by rw [up_ne (by omega)]; exact hpz⟩
          · exact ⟨w, by omega, up_eq⟩
  exact loop 0 (Nat.zero_le _) 0 (fun _ => 0) (Nat.le_refl _) (fun q hq => absurd hq (Nat.not_lt_zero _)) (fun q q' hq => absurd hq (Nat.not_lt_zero _)) (fun q hq => absurd hq (Nat.not_lt_zero _))
theorem sp_forksOf {a b n : Nat} {x4 : Int32} {tt : Nat → Nat} (hab : a < b) (hb : b ≤ 32) (hn1 : 1 ≤ n) (hn : n ≤ 12) (hR : okR σ) (htt : ∀ r, a ≤ r → r < b → tt r = if nI r = x4 then 32 else r)
    (h : ∀ σ' wk, Wfr σ σ' → (∀ k, k < n → sI σ' 7 k = nI (wk k)) → (∀ k, k < n → Wid (tabF (sL σ) tt) n a b k (wk k) ∧ wk k ≤ 8192) → K (some (.int (nI (sumN wk n)))) σ') :
    Runs g 0 45 (d + 5) M_X1_forksOf [.ref (eA g 6), .ref (eA g 1), .int (nI a), .int (nI (b - 1)), .int x4, .int (nI n)] σ K := by
  refine E_X1_forksOf g (d + 4) _ _ _ _ σ K ?_
  refine sp_list hab hb hn1 hn hR htt (fun σ1 c fc fn hv hS hL => ⟨rfl, ?_⟩)
  have loop : ∀ k, k ≤ n → ∀ (σ2 : St) (fc : Nat) (fn : Nat → Nat × Nat) (wk : Nat → Nat), Wfr σ σ2 → SL σ2 (n - k) fc fn → LV (sL σ) tt a b n k fc fn → (∀ q, q < k → sI σ2 7 q = nI (wk q)) → (∀ q, q < k → Wid (tabF (sL σ) tt) n a b q (wk q) ∧ wk q ≤ 8192) →
      WP g 0 45 (d + 5) M_X1_forksOf 17 [(0, .ref (eA g 6)), (1, .ref (eA g 1)), (5, .int (nI n)), (6, .int (nI (sumN wk k))), (7, .int (nI k))] [] σ2 K := by
    refine up_to (P := fun k => ∀ (σ2 : St) (fc : Nat) (fn : Nat → Nat × Nat) (wk : Nat → Nat), Wfr σ σ2 → SL σ2 (n - k) fc fn → LV (sL σ) tt a b n k fc fn → (∀ q, q < k → sI σ2 7 q = nI (wk q)) → (∀ q, q < k → Wid (tabF (sL σ) tt) n a b q (wk q) ∧ wk q ≤ 8192) →
      WP g 0 45 (d + 5) M_X1_forksOf 17 [(0, .ref (eA g 6)), (1, .ref (eA g 1)), (5, .int (nI n)), (6, .int (nI (sumN wk k))), (7, .int (nI k))] [] σ2 K) n ?_ ?_
    · intro σ2 fc fn wk hv hS hL h7 hw
      exact R_X1_forksOf_17 g (d + 4) _ _ _ σ2 K ⟨fun _ => h σ2 wk hv h7 hw, fun q => absurd (nI_le (Nat.le_refl _) (by omega)) q⟩
    · intro k hk ih σ2 fc fn wk hv hS hL h7 hw
      refine R_X1_forksOf_17 g (d + 4) _ _ _ σ2 K ⟨fun q => absurd ((nI_leI (by omega) (by omega)).mp q) (by omega), fun _ => ?_⟩
      rw [pk_sub hn1, pk_sub (by omega), jshl1 (by omega), show n - 1 - k = n - (k + 1) by omega, nI_clamp (by omega), vp_iff (by omega), nI_1']
      rw [← hv.1] at hL
      refine sp_cut hS hL hn hk (by omega) (fun σ3 c3 fc3 fn3 w hv3 hS3 hL3 hW h8 => ⟨_, rfl, by show k < 12; omega, by show k < 12; omega, ?_⟩)
      rw [hv.1] at hL3 hW
      rw [sI_uI, upd_eq, nI_add, show sumN wk k + w = sumN (va_up wk k w) (k + 1) by
        show _ = sumN (va_up wk k w) k + va_up wk k w k
        rw [up_eq, sumN_congr (f := wk) (f' := va_up wk k w) (fun q hq => (up_ne (by omega)).symm)]]
      refine ih _ fc3 fn3 _ (hv.tr (hv3.W.tr ⟨rfl, rfl, id, fun _ _ _ => rfl, fun q h7 _ _ _ => sI_uIn h7⟩)) (SL_uI (by decide) (by decide) hS3.SL) hL3 (fun q hq => ?_) (fun q hq => ?_)
      · rw [sI_uI]
        by_cases c1 : q = k
        · rw [c1, upd_eq, up_eq]
        · rw [upd_ne c1, up_ne c1, ← h7 q (by omega)]
          exact congrFun (hv3.2.2.2.2 7 (by decide) (by decide) (by decide)) q
      · by_cases c1 : q = k
        · rw [c1, up_eq]
          exact ⟨hW, h8⟩
        · rw [up_ne c1]
          exact hw q (by omega)
  exact loop 0 (Nat.zero_le _) σ1 fc fn (fun _ => 0) hv.W hS.SL hL (fun q hq => absurd hq (Nat.not_lt_zero _)) (fun q hq => absurd hq (Nat.not_lt_zero _))
end SURVEY4

def Tfr (σ σ' : St) (N k : Nat) : Prop := sV σ' = sV σ ∧ sW σ' = sW σ ∧ sR σ' = sR σ ∧ (∀ j, j ≠ 2 → sI σ' j = sI σ j) ∧ (∀ j, ¬ (11 ≤ j ∧ j < 43) → sL σ' j = sL σ j) ∧ ∀ r, r < 32 → ∀ i, i < 64 * 2 ^ (N - 6) → tb (sL σ' (11 + r)) i = tb (sL σ (11 + r)) (swb i (N - 1 - k) (N - 1 - (k + 1)))
theorem uIf_comm {σ : St} {k k' : Nat} {f f' : Nat → Int32} (h : k ≠ k') : uIf (uIf σ k f) k' f' = uIf (uIf σ k' f') k f := by
  show (va_up (va_up σ.1 k f) k' f', σ.2) = (va_up (va_up σ.1 k' f') k f, σ.2)
  congr 1
  funext j
  by_cases c1 : j = k
  · subst c1
    rw [up_ne h, up_eq, up_eq]
  · by_cases c2 : j = k'
    · subst c2
      rw [up_eq, up_ne c1, up_eq]
    · rw [up_ne c2, up_ne c1, up_ne c1, up_ne c2]
section CLS8
variable {g : Ev} {d : Nat} {σ : St} {K : Option Value → St → Prop} {N cap : Nat} {T : Nat → Nat → Bool} {o oi c : Nat → Nat} {P : Nat → Bool}
theorem XP.any {σ' : St} {o' : Nat → Nat} (h : XP σ N o P) (hV : sV σ' = sV σ) : ∃ P', XP σ' N o' P' := by
  obtain ⟨pt, ps, pl, a, b, c, d, e, f, q, -⟩ := h
  exact ⟨_, pt, ps, pl, by rw [hV]; exact a, by rw [hV]; exact b, by rw [hV]; exact c, d, e, f, q, fun x _ => rfl⟩
theorem sp_turn {k : Nat} (hB : XB σ N cap o oi c) (hT : XT (sL σ) N T o) (hk : k + 1 < N) (h : ∀ σ', Tfr σ σ' N k → XB σ' N cap (osw o k) (oisw oi k) c → XT (sL σ') N T (osw o k) → K none σ') : Runs g 0 45 (d + 3) M_X2_turn [.ref (eA g 0), .int (nI k)] σ K := by
  have hpw := pwN hB.1.1 hB.1.2
  have hN := hB.1
  have hp := hB.2.2.2.2.2.2.2.1
  refine E_X2_turn g (d + 2) _ σ K ?_
  rw [nI_1', vp_iff (by omega), vp_iff (by omega), nI_clamp (by omega), nI_clamp (by omega), hB.2.2.2.2.2.2.2.2.1 k (by omega), hB.2.2.2.2.2.2.2.2.1 (k + 1) hk]
  refine ⟨by show k < 12; omega, by show k + 1 < 12; omega, by show k < 12; omega, by show k + 1 < 12; omega, ?_⟩
  have hB1 : XB (uI (uI σ 2 k (nI (o (k + 1)))) 2 (k + 1) (nI (o k))) N cap (osw o k) (oisw oi k) c := by
    obtain ⟨a, b, e0, e1, e2, e3, e4, e5, e6, e7⟩ := hB
    refine ⟨a, b, e0, e1, e2, e3, e4, e5.sw hk, fun j hj => ?_, fun v hv => ?_⟩
    · rw [sI_uI, sI_uI]
      unfold osw
      by_cases c1 : j = k + 1
      · rw [c1, upd_eq, if_neg (by omega), if_pos rfl]
      · rw [upd_ne c1]
        by_cases c2 : j = k
        · rw [c2, upd_eq, if_pos rfl]
        · rw [upd_ne c2, if_neg c2, if_neg c1]
          exact e6 j hj
    · rw [sI_uIn (by decide), sI_uIn (by decide)]
      exact e7 v hv
  have f1 : ∀ j, j ≠ 2 → sI (uI (uI σ 2 k (nI (o (k + 1)))) 2 (k + 1) (nI (o k))) j = sI σ j := fun j hj => by rw [sI_uIn hj, sI_uIn hj]
  have f2 : sL (uI (uI σ 2 k (nI (o (k + 1)))) 2 (k + 1) (nI (o k))) = sL σ := rfl
  have f3 : sV (uI (uI σ 2 k (nI (o (k + 1)))) 2 (k + 1) (nI (o k))) = sV σ := rfl
  have f4 : sW (uI (uI σ 2 k (nI (o (k + 1)))) 2 (k + 1) (nI (o k))) = sW σ := rfl
  have f5 : sR (uI (uI σ 2 k (nI (o (k + 1)))) 2 (k + 1) (nI (o k))) = sR σ := rfl
  generalize uI (uI σ 2 k (nI (o (k + 1)))) 2 (k + 1) (nI (o k)) = σ1 at *
  have loop : ∀ r, r ≤ 32 → ∀ σ2 : St, sV σ2 = sV σ → sW σ2 = sW σ → sR σ2 = sR σ → sI σ2 = sI σ1 → (∀ j, ¬ (11 ≤ j ∧ j < 11 + r) → sL σ2 j = sL σ j) → (∀ r', r' < r → ∀ i, i < 64 * 2 ^ (N - 6) → tb (sL σ2 (11 + r')) i = tb (sL σ (11 + r')) (swb i (N - 1 - k) (N - 1 - (k + 1)))) → WP g 0 45 (d + 3) M_X2_turn 32 [(0, .ref (eA g 0)), (1, .int (nI k)), (3, .int (nI r))] [] σ2 K := by
    refine up_to (P := fun r => ∀ σ2 : St, sV σ2 = sV σ → sW σ2 = sW σ → sR σ2 = sR σ → sI σ2 = sI σ1 → (∀ j, ¬ (11 ≤ j ∧ j < 11 + r) → sL σ2 j = sL σ j) → (∀ r', r' < r → ∀ i, i < 64 * 2 ^ (N - 6) → tb (sL σ2 (11 + r')) i = tb (sL σ (11 + r')) (swb i (N - 1 - k) (N - 1 - (k + 1)))) → WP g 0 45 (d + 3) M_X2_turn 32 [(0, .ref (eA g 0)), (1, .int (nI k)), (3, .int (nI r))] [] σ2 K) 32 ?_ ?_
    · intro σ2 a1 a2 a3 a4 a5 a6
      refine R_X2_turn_32 g (d + 2) _ _ σ2 K ⟨fun _ => h σ2 ⟨a1, a2, a3, fun j hj => by rw [a4]; exact f1 j hj, a5, a6⟩ ?_ ⟨fun r hr i hi => ?_, fun i hi => ?_⟩, fun z => absurd (nI_le (Nat.le_refl _) (by omega)) z⟩
      · exact hB1.fr (fun z _ => by rw [a1, f3]) (by rw [a2, f4]) (by unfold okR; rw [a3]; exact hB.2.2.2.2.2.2.1) (by rw [a4]) (by rw [a4])
      · have hl : swb i (N - 1 - k) (N - 1 - (k + 1)) < 64 * 2 ^ (N - 6) := by
          rw [all64] at hi ⊢
          exact swb_lt hi (by omega) (by omega)
        rw [a6 r hr i hi, hT.1 r hr _ hl]
        simp only
        rw [spr_osw hp hk]
        have e : decide (swb i (N - 1 - k) (N - 1 - (k + 1)) < 2 ^ N) = decide (i < 2 ^ N) := by rw [decide_eq_decide]; exact swb_lt_iff (by omega) (by omega)
        rw [e]
      · rw [a5 (11 + 33) (by omega)]
        exact hT.2 i hi
    · intro r hr ih σ2 a1 a2 a3 a4 a5 a6
      have hB2 : XB σ2 N cap (osw o k) (oisw oi k) c := hB1.fr (fun z _ => by rw [a1, f3]) (by rw [a2, f4]) (by unfold okR; rw [a3]; exact hB.2.2.2.2.2.2.1) (by rw [a4]) (by rw [a4])
      refine R_X2_turn_32 g (d + 2) _ _ σ2 K ⟨fun z => absurd ((nI_leI (by omega) (by omega)).mp z) (by omega), fun _ => ?_⟩
      rw [vp_iff (by omega), nI_clamp (by omega), nI_1', nI_1', hB2.2.2.2.2.1]
      refine ⟨by omega, sp_placeAt (d := d + 1) hB2 (by omega) ⟨_, rfl, sp_placeAt (d := d + 1) hB2 hk ⟨_, rfl, sp_exchange (d := d) (m := N - 6) (lenJ_t (by omega)) (by omega) (by omega) (by omega) (fun f hf _ => ⟨rfl, ih _ a1 a2 a3 a4 (fun j hj => ?_) (fun r' hr' i hi => ?_)⟩)⟩⟩⟩
      · rw [sL_uLfn (by omega)]
        exact a5 j (by omega)
      · by_cases c1 : r' = r
        · subst c1
          rw [sL_uLf, hf i hi, a5 (11 + r') (by omega)]
        · rw [sL_uLfn (by omega)]
          exact a6 r' (by omega) i hi
  exact loop 0 (Nat.zero_le _) σ1 f3 f4 f5 rfl (fun j _ => by rw [f2]) (fun r' hr' => absurd hr' (Nat.not_lt_zero _))
theorem X_swap {x1 : Int32} (hI : InvX σ N cap T o oi c P) (hbad : (¬ ∃ k, k + 1 < N ∧ x1 = nI k) → K (some (.int (-2))) σ)
    (hok : ∀ k, k + 1 < N → x1 = nI k → (∀ σ', InvX σ' N cap T (osw o k) (oisw oi k) c (fun _ => false) → (∀ wk, (∀ q, q < N → Wid (FT T (osw o k) N) N 0 32 q (wk q)) → sumN wk N ≤ cap) → K (some (.int (nI 0))) σ') ∧ ∀ σ' oi', InvX σ' N cap T o oi' c P → (∀ wk, (∀ q, q < N → Wid (FT T (osw o k) N) N 0 32 q (wk q)) → cap < sumN wk N) → K (some (.int (-8))) σ') : Runs g 0 45 (d + 7) M_X2_swap [.ref (eA g 0), .int x1] σ K := by
  obtain ⟨hB, hT, hP⟩ := id hI
  have hpw := pwN hB.1.1 hB.1.2
  have hN := hB.1
  refine E_X2_swap g (d + 6) _ σ K (sp_isLevel (d := d + 5) hB (fun k hk e => ⟨_, rfl, fun q => absurd q n10, fun _ => ?_⟩) (fun hn => ⟨_, rfl, fun _ => hbad (fun ⟨k, hk, e⟩ => hn ⟨k, by omega, e⟩), fun q => absurd rfl q⟩))
  subst e
  rw [hB.2.2.1, pk_sub (by omega), nI_eq (by omega) (by omega)]
  refine ⟨fun hne => ?_, fun e => hbad fun ⟨k', hk', e'⟩ => ?_⟩
  · have hk1 : k + 1 < N := by omega
    obtain ⟨k1, k2⟩ := hok k hk1 rfl
    refine sp_turn (d := d + 3) hB hT hk1 (fun σ1 hf hB1 hT1 => ⟨rfl, ?_⟩)
    obtain ⟨P', hP'⟩ := hP.any (o' := osw o k) hf.1
    refine sp_forksAll ⟨hB1, hT1, hP'⟩ (fun σ2 wk hw h7 hwk => ⟨_, rfl, ?_⟩)
    have hB2 := hB1.W hw
    have hT2 : XT (sL σ2) N T (osw o k) := by rw [hw.1]; exact hT1
    have hs := sumN_le (f := wk) (m := 8192) (n := N) (fun q hq => (hwk q hq).2)
    have hs2 : N * 8192 ≤ 12 * 8192 := Nat.mul_le_mul_right _ hN.2
    have hcap := hB.2.1
    have huni : ∀ wk', (∀ q, q < N → Wid (FT T (osw o k) N) N 0 32 q (wk' q)) → sumN wk' N = sumN wk N := fun wk' h' => sumN_congr (fun q hq => (h' q hq).eq (hwk q hq).1)
    rw [hB2.2.2.2.1, nI_leI (by omega) (by omega)]
    refine ⟨fun q => sp_rest (d := d + 4) ⟨rfl, k1 _ (InvX.rest hB2 hT2) (fun wk' h' => by rw [huni wk' h']; exact q)⟩, fun q => sp_turn (d := d + 3) hB2 hT2 hk1 (fun σ3 hf3 hB3 hT3 => ⟨rfl, ?_⟩)⟩
    rw [osw_osw] at hB3 hT3
    refine k2 σ3 _ ⟨hB3, hT3, ?_⟩ (fun wk' h' => by rw [huni wk' h']; omega)
    obtain ⟨pt, ps, pl, v3, v4, v5, hpt, hpl, hps, hdv, hPx⟩ := hP
    have eV : ∀ z, z ≠ 6 → z ≠ 7 → sV σ3 z = sV σ z := fun z h6 h7 => by rw [hf3.1, hw.2.2.2.1 z h6 h7, hf.1]
    refine ⟨pt, ps, pl, by rw [eV 3 (by decide) (by decide)]; exact v3, by rw [eV 4 (by decide) (by decide)]; exact v4, by rw [eV 5 (by decide) (by decide)]; exact v5, hpt, hpl, hps, hdv, fun x hx => ?_⟩
    have hl : ps + pos o N x % 2 ^ (N - pl) < 2 ^ N := by
      have h1 := align_lt (m := 0) hdv hps (Nat.sub_le N pl)
      have h2 : pos o N x % 2 ^ (N - pl) < 2 ^ (N - pl) := Nat.mod_lt _ (Nat.two_pow_pos _)
      omega
    have hl2 : swb (ps + pos o N x % 2 ^ (N - pl)) (N - 1 - k) (N - 1 - (k + 1)) < 2 ^ N := swb_lt hl (by omega) (by omega)
    rw [hPx x hx]
    rcases hpt with h32 | rfl
    · rw [hf3.2.2.2.2.2 pt h32 _ (by omega), hw.1, hf.2.2.2.2.2 pt h32 _ (by omega), swb_swb]
    · rw [hf3.2.2.2.2.1 (11 + 33) (by omega), hw.1, hf.2.2.2.2.1 (11 + 33) (by omega)]
  · have := nI_inj (by omega) (by omega) e'
    omega
theorem sp_begin {c0 : Nat} (h1 : 1 ≤ N) (h2 : N ≤ 12) (hc : c0 ≤ 20000) (hR : okR σ) (h : ∀ σ', InvX σ' N c0 (fun _ _ => false) (fun k => k) (fun k => k) (fun _ => 0) (fun _ => false) → K none σ') : Runs g 0 45 (d + 3) M_X2_begin [.ref (eA g 0), .int (nI N), .int (nI c0)] σ K := by
  have hpw := pwN h1 h2
  refine E_X2_begin g (d + 2) _ _ σ K ?_
  rw [jshl1 (by omega), jshr_nI (by omega) (by omega)]
  have ew : (if nI 1 < nI (2 ^ N / 2 ^ 6) then nI (2 ^ N / 2 ^ 6) else nI 1) = nI (2 ^ (N - 6)) := by
    rcases Nat.lt_or_ge 6 N with q | q
    · have e : 2 ^ N / 2 ^ 6 = 2 ^ (N - 6) := Nat.pow_div (by omega) (by omega)
      have : 2 ^ 1 ≤ 2 ^ (N - 6) := Nat.pow_le_pow_right (by omega) (by omega)
      rw [e, if_pos (nI_lt (by omega) (by omega))]
    · have : 2 ^ N ≤ 2 ^ 6 := Nat.pow_le_pow_right (by omega) q
      rw [if_neg (fun z => by have := (nI_ltI (by omega) (by omega)).mp z; omega), show N - 6 = 0 by omega]
  rw [ew]
  refine sp_lowOnes (d := d + 1) (by omega) (by omega) (fun w hw => ⟨w, rfl, ?_⟩)
  have g0 : sV (uW (uV (uV (uV σ 0 (nI N)) 1 (nI c0)) 2 (nI (2 ^ (N - 6)))) w) 0 = nI N := by
    show sV (uV (uV (uV σ 0 (nI N)) 1 (nI c0)) 2 (nI (2 ^ (N - 6)))) 0 = _
    rw [sV_uVn (by decide), sV_uVn (by decide), sV_uV]
  have g1 : sV (uW (uV (uV (uV σ 0 (nI N)) 1 (nI c0)) 2 (nI (2 ^ (N - 6)))) w) 1 = nI c0 := by
    show sV (uV (uV (uV σ 0 (nI N)) 1 (nI c0)) 2 (nI (2 ^ (N - 6)))) 1 = _
    rw [sV_uVn (by decide), sV_uV]
  have g2 : sV (uW (uV (uV (uV σ 0 (nI N)) 1 (nI c0)) 2 (nI (2 ^ (N - 6)))) w) 2 = nI (2 ^ (N - 6)) := by
    show sV (uV (uV (uV σ 0 (nI N)) 1 (nI c0)) 2 (nI (2 ^ (N - 6)))) 2 = _
    rw [sV_uV]
  have g3 : sW (uW (uV (uV (uV σ 0 (nI N)) 1 (nI c0)) 2 (nI (2 ^ (N - 6)))) w) = w := rfl
  have g4 : okR (uW (uV (uV (uV σ 0 (nI N)) 1 (nI c0)) 2 (nI (2 ^ (N - 6)))) w) := hR
  generalize uW (uV (uV (uV σ 0 (nI N)) 1 (nI c0)) 2 (nI (2 ^ (N - 6)))) w = σ1 at *
  have st2 : ∀ σ2 : St, sV σ2 = sV σ1 → sW σ2 = sW σ1 → sR σ2 = sR σ1 → (∀ t, t < 34 → ∀ q, q < 64 → sL σ2 (11 + t) q = 0) → ∀ v, v ≤ 12 → ∀ f2 f3 : Nat → Int32, (∀ k, k < v → f2 k = nI k ∧ f3 k = nI 0) → WP g 0 45 (d + 3) M_X2_begin 64 [(0, .ref (eA g 0)), (4, .int (nI v))] [] (uIf (uIf σ2 2 f2) 3 f3) K := by
    intro σ2 a1 a2 a3 a4
    refine up_to (P := fun v => ∀ f2 f3 : Nat → Int32, (∀ k, k < v → f2 k = nI k ∧ f3 k = nI 0) → WP g 0 45 (d + 3) M_X2_begin 64 [(0, .ref (eA g 0)), (4, .int (nI v))] [] (uIf (uIf σ2 2 f2) 3 f3) K) 12 ?_ ?_
    · intro f2 f3 hf
      refine R_X2_begin_64 g (d + 2) _ _ K ⟨fun _ => sp_rest (d := d) ⟨rfl, h _ (InvX.rest ?_ ?_)⟩, fun z => absurd (nI_le (Nat.le_refl _) (by omega)) z⟩
      · refine ⟨⟨h1, h2⟩, hc, by show sV σ2 0 = _; rw [a1]; exact g0, by show sV σ2 1 = _; rw [a1]; exact g1, by show sV σ2 2 = _; rw [a1]; exact g2, by show ∀ i, i < 64 → bt (sW σ2) i = _; rw [a2, g3]; exact hw, by show okR σ2; unfold okR; rw [a3]; exact g4, Prm.id N, fun k hk => ?_, fun v hv => ?_⟩
        · rw [sI_uIfn (by decide), sI_uIf]
          exact (hf k (by omega)).1
        · rw [sI_uIf]
          exact ⟨(hf v hv).2, Nat.zero_le _⟩
      · have zz : ∀ t, t < 34 → ∀ i, i < 64 * 2 ^ (N - 6) → tb (sL σ2 (11 + t)) i = false := fun t ht i hi => by
          unfold tb
          rw [a4 t ht _ (by omega), bt_0]
        exact ⟨fun r hr i hi => by rw [Bool.and_false]; exact zz r (by omega) i hi, fun i hi => by rw [Bool.and_false]; exact zz 33 (by omega) i hi⟩
    · intro v hv ih f2 f3 hf
      refine R_X2_begin_64 g (d + 2) _ _ K ⟨fun z => absurd ((nI_leI (by omega) (by omega)).mp z) (by omega), fun _ => ?_⟩
      rw [vp_iff (by omega), vp_iff (by omega), nI_clamp (by omega), nI_1']
      refine ⟨by show v < 12; omega, by show v < 12; omega, ?_⟩
      have e : uI (uI (uIf (uIf σ2 2 f2) 3 f3) 2 v (nI v)) 3 v (nI 0) = uIf (uIf σ2 2 (upd f2 v (nI v))) 3 (upd f3 v (nI 0)) := by
        have e1 : uI (uIf (uIf σ2 2 f2) 3 f3) 2 v (nI v) = uIf (uIf σ2 2 (upd f2 v (nI v))) 3 f3 := by
          rw [uI_f, sI_uIfn (show (2 : Nat) ≠ 3 by decide), sI_uIf, uIf_comm (k := 2) (k' := 3) (by decide), uIf_uIf, uIf_comm (k := 3) (k' := 2) (by decide)]
        rw [e1, uI_f, sI_uIf, uIf_uIf]
      rw [e]
      refine ih _ _ fun k hk => ?_
      by_cases c1 : k = v
      · rw [c1, upd_eq, upd_eq]
        exact ⟨rfl, rfl⟩
      · rw [upd_ne c1, upd_ne c1]
        exact hf k (by omega)
  have st1 : ∀ t, t ≤ 34 → ∀ σ2 : St, sV σ2 = sV σ1 → sW σ2 = sW σ1 → sR σ2 = sR σ1 → (∀ t', t' < t → ∀ q, q < 64 → sL σ2 (11 + t') q = 0) → WP g 0 45 (d + 3) M_X2_begin 37 [(0, .ref (eA g 0)), (4, .int (nI t))] [] σ2 K := by
    refine up_to (P := fun t => ∀ σ2 : St, sV σ2 = sV σ1 → sW σ2 = sW σ1 → sR σ2 = sR σ1 → (∀ t', t' < t → ∀ q, q < 64 → sL σ2 (11 + t') q = 0) → WP g 0 45 (d + 3) M_X2_begin 37 [(0, .ref (eA g 0)), (4, .int (nI t))] [] σ2 K) 34 ?_ ?_
    · intro σ2 a1 a2 a3 a4
      refine R_X2_begin_37 g (d + 2) _ σ2 K ⟨fun _ => ?_, fun z => absurd (nI_le (Nat.le_refl _) (by omega)) z⟩
      have := st2 σ2 a1 a2 a3 a4 0 (Nat.zero_le _) (sI σ2 2) (sI σ2 3) (fun k hk => absurd hk (Nat.not_lt_zero _))
      rw [show uIf (uIf σ2 2 (sI σ2 2)) 3 (sI σ2 3) = σ2 by rw [uIf_self, uIf_self]] at this
      exact this
    · intro t ht ih σ2 a1 a2 a3 a4
      refine R_X2_begin_37 g (d + 2) _ σ2 K ⟨fun z => absurd ((nI_leI (by omega) (by omega)).mp z) (by omega), fun _ => ?_⟩
      rw [vp_iff (by omega), nI_clamp (by omega), nI_1']
      refine ⟨by omega, sp_fillL (d := d + 1) (lenJ_t (by omega)) (fun f hf => ⟨rfl, ih _ a1 a2 a3 (fun t' ht' q hq => ?_)⟩)⟩
      by_cases c1 : t' = t
      · subst c1
        rw [sL_uLf]
        exact hf q hq
      · rw [sL_uLfn (by omega)]
        exact a4 t' (by omega) q hq
  exact st1 0 (Nat.zero_le _) σ1 rfl rfl rfl (fun t' ht' => absurd ht' (Nat.not_lt_zero _))
theorem X_fresh {x1 x2 : Int32} (hI : InvX σ N cap T o oi c P) (hbad : ¬ ((∃ n, 1 ≤ n ∧ n ≤ 12 ∧ x1 = nI n) ∧ isIn 20001 x2) → K (some (.int (nI 0))) σ) (hok : ∀ n q, 1 ≤ n → n ≤ 12 → q < 20001 → x1 = nI n → x2 = nI q → ∀ σ', InvX σ' n q (fun _ _ => false) (fun k => k) (fun k => k) (fun _ => 0) (fun _ => false) → K (some (.int (nI 1))) σ') : Runs g 0 45 (d + 4) M_X2_fresh [.ref (eA g 0), .int x1, .int x2] σ K := by
  refine E_X2_fresh g (d + 3) _ _ σ K ⟨fun q => hbad fun ⟨⟨n, a, b, e⟩, _⟩ => ?_, fun q => ⟨fun q2 => hbad fun ⟨⟨n, a, b, e⟩, _⟩ => ?_, fun q2 => ⟨fun q3 => hbad fun ⟨_, z, hz, e⟩ => ?_, fun q3 => ⟨fun q4 => ?_, fun q4 => hbad fun ⟨_, z, hz, e⟩ => ?_⟩⟩⟩⟩
  · rw [e] at q
    have := (nI_ltI (by omega) (by omega)).mp q
    omega
  · rw [e] at q2
    have := (nI_ltI (by omega) (by omega)).mp q2
    omega
  · rw [e] at q3
    exact nI_pos (by omega) q3
  · have e1 : (nI 1).toInt = 1 := by decide
    have e12 : (nI 12).toInt = 12 := by decide
    have e0 : (nI 0).toInt = 0 := by decide
    have e20 : (nI 20000).toInt = 20000 := by decide
    have r1 := Int32.le_iff_toInt_le.mp (Int32.not_lt.mp q)
    have r2 := Int32.le_iff_toInt_le.mp (Int32.not_lt.mp q2)
    have r3 := Int32.le_iff_toInt_le.mp (Int32.not_lt.mp q3)
    have r4 := Int32.le_iff_toInt_le.mp q4
    obtain ⟨n, hn, en⟩ : ∃ n, n < 2 ^ 31 ∧ x1 = nI n := nI_of (fun z => by have := Int32.lt_iff_toInt_lt.mp z; have e : (0 : Int32).toInt = 0 := by decide
                                                                           omega)
    obtain ⟨m, hm, em⟩ : ∃ n, n < 2 ^ 31 ∧ x2 = nI n := nI_of (fun z => by have := Int32.lt_iff_toInt_lt.mp z; have e : (0 : Int32).toInt = 0 := by decide
                                                                           omega)
    rw [en, nI_toInt hn] at r1 r2
    rw [em, nI_toInt hm] at r3 r4
    subst en em
    exact sp_begin (d := d) (by omega) (by omega) (by omega) hI.1.2.2.2.2.2.2.1 (fun σ' hI' => ⟨rfl, hok n m (by omega) (by omega) (by omega) rfl rfl σ' hI'⟩)
  · rw [e] at q4
    exact q4 (nI_le (by omega) (by omega))
end CLS8

section MOD7
variable {g : Ev} {d : Nat} {σ : St} {K : Option Value → St → Prop} {N cap q : Nat} {T : Nat → Nat → Bool} {o oi c : Nat → Nat} {P : Nat → Bool}
theorem fillI {M : Mt} {pc z n D : Nat} {h : Nat → Int32} (lv : Int32 → List (Nat × Value)) (hstep : ∀ x f, x < n → (∀ y, y < x → f y = h y) → WP g 45 59 D M pc (lv (nI (x + 1))) [] (uIf σ z (upd f x (h x))) K → WP g 45 59 D M pc (lv (nI x)) [] (uIf σ z f) K)
    (hend : ∀ f, (∀ x, x < n → f x = h x) → WP g 45 59 D M pc (lv (nI n)) [] (uIf σ z f) K) : WP g 45 59 D M pc (lv (nI 0)) [] σ K := by
  have loop : ∀ x, x ≤ n → ∀ f, (∀ y, y < x → f y = h y) → WP g 45 59 D M pc (lv (nI x)) [] (uIf σ z f) K := by
    refine up_to (P := fun x => ∀ f, (∀ y, y < x → f y = h y) → WP g 45 59 D M pc (lv (nI x)) [] (uIf σ z f) K) n (fun f hf => hend f hf) (fun x hx ih f hf => hstep x f hx hf (ih (upd f x (h x)) (fill_step (f := f) (h := h) rfl hf)))
  have := loop 0 (Nat.zero_le _) (sI σ z) fill_0
  rw [uIf_self] at this
  exact this
theorem ge8 {τ : St} {x : Nat} (hN : 1 ≤ N ∧ N ≤ 12) (h8 : sV τ 8 = nI N) (hx : x < N) : ¬ sV τ 8 ≤ nI x := by
  rw [h8, nI_leI (by omega) (by omega)]
  omega
theorem le8 {τ : St} (hN : 1 ≤ N ∧ N ≤ 12) (h8 : sV τ 8 = nI N) : sV τ 8 ≤ nI N := by
  rw [h8]
  exact nI_le (Nat.le_refl _) (by omega)
theorem m_forksT {a b k4 : Nat} {o' oi' : Nat → Nat} (hI : InvM σ N cap T o oi c P q) (hq : q < 2 ^ 30) (hk4 : k4 = 50 ∨ k4 = 51) (hp : Prm o' oi' N) (ho : ∀ k, k < N → sI σ k4 k = nI (o' k)) (hab : a ≤ b) (hb : b ≤ 32)
    (h : ∀ τ wk, InvM τ N cap T o oi c P (q + 12) → Ffr σ τ → (∀ k, k < N → sI τ 54 k = nI (wk k)) → (∀ k, k < N → Wid (FT T o' N) N a b k (wk k) ∧ wk k ≤ 8192) → sumN wk N ≤ 98304 → K (some (.int (nI (sumN wk N)))) τ) :
    Runs g 45 59 (d + 2) M_X3_forks [.ref (eA g 45), .int (nI a), .int (nI b), .int (-1), .ref (eA g k4)] σ K := by
  obtain ⟨hB, hT, hP, hS⟩ := id hI
  obtain ⟨hN, hcap, h8, h9, h10, -⟩ := id hB
  exact m_forks (d := d) (G := T) hk4 hN h8 h9 hp ho hab hb (fun r x _ hr hx => ⟨fun e => absurd e (nI_m1 (by omega)), fun _ => hT r x (by omega) hx⟩) hS hq (fun τ wk hf hS' h54 hW hle => h τ wk (hI.F hf hS') hf h54 hW hle)
theorem m_order {o' oi' : Nat → Nat} {f50 f48 : Nat → Int32} (hI : InvM σ N cap T o oi c P q) (hp : Prm o' oi' N) (h50 : ∀ k, k < N → f50 k = nI (o' k)) (h48 : ∀ x, x < 4096 → f48 x = nI 0) : InvM (uIf (uIf σ 50 f50) 48 f48) N cap T o' oi' c (fun _ => false) q := by
  obtain ⟨⟨a, b, c1, c2, c3, c4, c5, c6⟩, hT, hP, hS⟩ := hI
  have hpw := pwN a.1 a.2
  refine ⟨⟨a, b, c1, c2, c3, hp, ?_, ?_⟩, ?_, ?_, (hS.I (by decide)).I (by decide)⟩
  · rw [sI_uIfn (by decide), sI_uIf]; exact h50
  · rw [sI_uIfn (by decide), sI_uIfn (by decide)]; exact c6
  · rw [sI_uIfn (by decide), sI_uIfn (by decide)]; exact hT
  · rw [sI_uIf]
    exact fun x hx => h48 x (by omega)
theorem M_swap {x1 : Int32} (hI : InvM σ N cap T o oi c P q) (hq : q < 2 ^ 30) (hbad : (¬ ∃ k, k + 1 < N ∧ x1 = nI k) → K (some (.int (-2))) σ)
    (hok : ∀ k, k + 1 < N → x1 = nI k → (∀ σ' wk, InvM σ' N cap T (osw o k) (oisw oi k) c (fun _ => false) (q + 200) → (∀ q, q < N → Wid (FT T (osw o k) N) N 0 32 q (wk q)) → sumN wk N ≤ cap → K (some (.int (nI 0))) σ') ∧ ∀ σ' wk, InvM σ' N cap T o oi c P (q + 200) → (∀ q, q < N → Wid (FT T (osw o k) N) N 0 32 q (wk q)) → cap < sumN wk N → K (some (.int (-8))) σ') : Runs g 45 59 (d + 4) M_X3_swap [.ref (eA g 45), .int x1] σ K := by
  obtain ⟨hB, hT, hP, hS⟩ := id hI
  obtain ⟨hN, hcap, h8, h9, h10, hp, ho, hc⟩ := id hB
  refine E_X3_swap g (d + 3) _ σ K ?_
  rw [h8, pk_sub hN.1]
  suffices hs : ∀ k, k < N - 1 → x1 = nI k → WP g 45 59 (d + 4) M_X3_swap 19 [(0, .ref (eA g 45)), (1, .int x1), (2, .int (nI 0))] [] σ K by
    rcases nI_cases x1 (show N - 1 < 2 ^ 31 by omega) with ⟨t, ht, e⟩ | hx
    · refine ⟨fun q => absurd q (by rw [e]; exact nI_pos (by omega)), fun _ => ⟨fun _ => hs t ht e, fun q => absurd ?_ q⟩⟩
      rw [e]; exact nI_lt ht (by omega)
    · have hn : ¬ ∃ k, k + 1 < N ∧ x1 = nI k := fun ⟨t, ht, e⟩ => hx (by rw [e]; exact nI_rng (by omega) (by omega))
      exact ⟨fun _ => hbad hn, fun q => ⟨fun q2 => absurd ⟨Int32.not_lt.mp q, q2⟩ hx, fun _ => hbad hn⟩⟩
  intro k hk e
  subst e
  obtain ⟨hok1, hok2⟩ := hok k (by omega) rfl
  have hpw := pwN hN.1 hN.2
  refine fillI (z := 51) (n := N) (h := fun i => nI (osw o k i)) (lv := fun x => [(0, .ref (eA g 45)), (1, .int (nI k)), (2, .int x)]) (fun x f hx hf nx => ?_) (fun f hf => ?_)
  · refine R_X3_swap_19 g (d + 3) _ _ _ _ ⟨fun c => absurd c (ge8 hN h8 hx), fun _ => ?_⟩
    rw [nI_1' k, nI_eq (by omega) (by omega), nI_eq (by omega) (by omega), vp_iff (by omega), vp_iff (by omega), vp_iff (by omega), vp_iff (by omega), nI_clamp (by omega), nI_clamp (by omega), nI_clamp (by omega), nI_1' x, sI_uIfn (by decide), uI_uIf, uI_uIf, uI_uIf, ho x hx, ho k (by omega), ho (k + 1) (by omega)]
    have hl : x < lenI 51 := by show x < 12; omega
    have hl5 : ∀ y, y < 12 → y < lenI 50 := fun y hy => hy
    refine ⟨fun e1 => ⟨fun e2 => ⟨hl5 _ (by omega), hl, ?_⟩, fun e2 => ⟨hl5 _ (by omega), hl, ?_⟩⟩, fun e1 => ⟨hl5 _ (by omega), hl, ?_⟩⟩
    · have : osw o k x = o x := by unfold osw; rw [if_neg e1, if_neg e2]
      rw [this] at nx; exact nx
    · have : osw o k x = o k := by unfold osw; rw [if_neg e1, if_pos e2]
      rw [this] at nx; exact nx
    · have : osw o k x = o (k + 1) := by unfold osw; rw [if_pos e1]
      rw [this] at nx; exact nx
  · have hI' : InvM (uIf σ 51 f) N cap T o oi c P q := hI.made (Or.inr rfl)
    refine R_X3_swap_19 g (d + 3) _ _ _ _ ⟨fun _ => m_forksT (d := d + 1) (o' := osw o k) (oi' := oisw oi k) hI' hq (Or.inr rfl) (hp.sw (by omega)) (fun i hi => by rw [sI_uIf]; exact hf i hi) (Nat.zero_le _) (Nat.le_refl _) (fun τ wk hM hfr h54 hW hle => ⟨_, rfl, fun hc => ?_, fun hc => ?_⟩), fun c => absurd (le8 hN h8) c⟩
    · rw [hM.1.2.2.2.2.1, nI_leI (by omega) (by omega)] at hc
      have h8' := hM.1.2.2.1
      refine fillI (z := 50) (n := N) (h := fun i => nI (osw o k i)) (lv := fun x => [(0, .ref (eA g 45)), (2, .int x)]) (fun x f1 hx hf1 nx => ?_) (fun f1 hf1 => ?_)
      · refine R_X3_swap_91 g (d + 3) _ _ _ ⟨fun c => absurd c (ge8 hN h8' hx), fun _ => ?_⟩
        rw [vp_iff (by omega), vp_iff (by omega), nI_clamp (by omega), nI_1', uI_uIf, sI_uIfn (by decide), hfr.2 51 (by decide), sI_uIf, hf x hx]
        exact ⟨by show x < 12; omega, by show x < 12; omega, nx⟩
      · refine R_X3_swap_91 g (d + 3) _ _ _ ⟨fun _ => m_done (d := d + 2) (fun f2 hf2 => ⟨_, rfl, hok1 _ wk ?_ (fun p hp => (hW p hp).1) hc⟩), fun c => absurd (le8 hN h8') c⟩
        exact (m_order hM (hp.sw (by omega)) hf1 hf2).le (by omega)
    · rw [hM.1.2.2.2.2.1, nI_leI (by omega) (by omega)] at hc
      exact hok2 _ wk (hM.le (by omega)) (fun p hp => (hW p hp).1) (by omega)
theorem insO_prm {L m : Nat} (hp : Prm o oi N) (hL : L < N) (hm : m < N) : ∃ oi', Prm (insO o L m) oi' N := by
  have up : ∀ j, L + j < N → ∃ oi', Prm (insO o L (L + j)) oi' N := by
    intro j
    induction j with
    | zero => intro _; exact ⟨oi, by rw [Nat.add_zero, insO_self]; exact hp⟩
    | succ j ih =>
      intro hj
      obtain ⟨oi', h'⟩ := ih (by omega)
      have := h'.sw (k := L + j) (by omega)
      rw [insO_dn] at this
      exact ⟨_, this⟩
  have dn : ∀ j, j ≤ L → ∃ oi', Prm (insO o L (L - j)) oi' N := by
    intro j
    induction j with
    | zero => intro _; exact ⟨oi, by rw [Nat.sub_zero, insO_self]; exact hp⟩
    | succ j ih =>
      intro hj
      obtain ⟨oi', h'⟩ := ih (by omega)
      obtain ⟨n, hn⟩ : ∃ n, L - j = n + 1 := ⟨L - j - 1, by omega⟩
      rw [hn] at h'
      have := h'.sw (k := n) (by omega)
      rw [insO_up, show n = L - (j + 1) by omega] at this
      exact ⟨_, this⟩
  by_cases h : L ≤ m
  · have := up (m - L) (by omega)
    rw [show L + (m - L) = m by omega] at this
    exact this
  · have := dn (L - m) (by omega)
    rw [show L - (L - m) = m by omega] at this
    exact this
theorem m_tries {v m : Nat} (hB : MB σ N cap o oi c) (hv : v < N) (hm : m < N) (h : ∀ f, (∀ i, i < N → f i = nI (insO o (oi v) m i)) → K none (uIf σ 51 f)) : Runs g 45 59 (d + 1) M_X3_tries [.ref (eA g 45), .int (nI v), .int (nI m)] σ K := by
  obtain ⟨hN, hcap, h8, h9, h10, hp, ho, hc⟩ := id hB
  obtain ⟨hL, hoL⟩ := hp.2 v hv
  generalize oi v = L at *
  refine E_X3_tries g d _ _ σ K ?_
  have loop : ∀ k, k ≤ N → ∀ f, (∀ j, j < (if k ≤ L then k else k - 1) → f (if j < m then j else j + 1) = nI (rmO o L j)) → WP g 45 59 (d + 1) M_X3_tries 5 [(0, .ref (eA g 45)), (1, .int (nI v)), (2, .int (nI m)), (3, .int (nI (if k ≤ L then k else k - 1))), (4, .int (nI k))] [] (uIf σ 51 f) K := by
    refine up_to (P := fun k => ∀ f, (∀ j, j < (if k ≤ L then k else k - 1) → f (if j < m then j else j + 1) = nI (rmO o L j)) → WP g 45 59 (d + 1) M_X3_tries 5 [(0, .ref (eA g 45)), (1, .int (nI v)), (2, .int (nI m)), (3, .int (nI (if k ≤ L then k else k - 1))), (4, .int (nI k))] [] (uIf σ 51 f) K) N ?_ ?_
    · intro f hf
      refine R_X3_tries_5 g d _ _ _ _ _ K ⟨fun _ => ?_, fun c => absurd (le8 hN h8) c⟩
      rw [vp_iff (by omega), nI_clamp (by omega), uI_uIf]
      refine ⟨by show m < 12; omega, h _ fun i hi => ?_⟩
      rw [if_neg (by omega)] at hf
      unfold insO
      rcases (show i < m ∨ i = m ∨ m < i by omega) with l | l | l
      · have := hf i (by omega)
        rw [if_pos l] at this
        rw [upd_ne (by omega), if_pos l, this]
      · rw [l, upd_eq, if_neg (by omega), if_pos rfl, hoL]
      · have := hf (i - 1) (by omega)
        rw [if_neg (by omega), show i - 1 + 1 = i by omega] at this
        rw [upd_ne (by omega), if_neg (by omega), if_neg (by omega), this]
    · intro k hk ih f hf
      have hok := hp.1 k hk
      have heq : o k = v ↔ k = L := ⟨fun e => by
        have h1 := hp.1 k hk
        have h2 := hp.1 L hL
        rw [← h1.2, ← h2.2, e, hoL], fun e => by rw [e, hoL]⟩
      have hat : (if k ≤ L then k else k - 1) ≤ k := by split <;> omega
      refine R_X3_tries_5 g d _ _ _ _ _ K ⟨fun c => absurd c (ge8 hN h8 hk), fun _ => ?_⟩
      rw [vp_iff (by omega), nI_clamp (by omega), sI_uIfn (by decide), ho k hk, nI_eq (by omega) (by omega), heq, nI_1', nI_1', nI_leI (by omega) (by omega), vp_iff (by omega), vp_iff (by omega), nI_clamp (by omega), nI_clamp (by omega), uI_uIf, uI_uIf]
      have hk12 : k < lenI 50 := by show k < 12; omega
      generalize hA : (if k ≤ L then k else k - 1) = A at *
      have nx : k ≠ L → ∀ z, z = (if A < m then A else A + 1) → WP g 45 59 (d + 1) M_X3_tries 5 [(0, .ref (eA g 45)), (1, .int (nI v)), (2, .int (nI m)), (3, .int (nI (A + 1))), (4, .int (nI (k + 1)))] [] (uIf σ 51 (upd f z (nI (o k)))) K := by
        intro hne z hz
        have hA2 : (if k + 1 ≤ L then k + 1 else k + 1 - 1) = A + 1 := by
          rw [← hA]
          by_cases l : k ≤ L
          · rw [if_pos l, if_pos (by omega)]
          · rw [if_neg l, if_neg (by omega)]; omega
        rw [hA2] at ih
        refine ih _ fun j hj => ?_
        by_cases e : j = A
        · rw [e, ← hz, upd_eq]
          congr 1
          unfold rmO
          by_cases l : k ≤ L
          · rw [if_pos l] at hA
            rw [if_pos (by omega), hA]
          · rw [if_neg l] at hA
            rw [if_neg (by omega), show A + 1 = k by omega]
        · have : (if j < m then j else j + 1) ≠ z := by
            rw [hz]
            split <;> split <;> omega
          rw [upd_ne this]
          exact hf j (by omega)
      have hA1 : k ≠ L → A + 1 < 12 := fun hne => by
        by_cases l : k ≤ L
        · rw [if_pos l] at hA; omega
        · rw [if_neg l] at hA; omega
      refine ⟨hk12, fun hne => ⟨fun l => ⟨hk12, by show A + 1 < 12; exact hA1 hne, nx hne _ (by rw [if_neg (by omega)])⟩, fun l => ⟨hk12, by show A < 12; omega, nx hne _ (by rw [if_pos (by omega)])⟩⟩, fun he => ?_⟩
      have hA2 : (if k + 1 ≤ L then k + 1 else k + 1 - 1) = A := by
        rw [← hA, if_neg (by omega), if_pos (by omega)]; omega
      rw [hA2] at ih
      exact ih f hf
  have := loop 0 (Nat.zero_le _) (sI σ 51) (fun j hj => by rw [if_pos (Nat.zero_le _)] at hj; exact absurd hj (Nat.not_lt_zero _))
  rw [if_pos (Nat.zero_le _), uIf_self] at this
  exact this
theorem M_sift {x1 : Int32} (hI : InvM σ N cap T o oi c P q) (hq : q < 2 ^ 29) (hbad : ¬ isIn N x1 → K (some (.int (-2))) σ)
    (hok : ∀ v F oi', v < N → x1 = nI v → (∀ m, m < N → ∃ wk, (∀ q, q < N → Wid (FT T (insO o (oi v) m) N) N 0 32 q (wk q)) ∧ sumN wk N = F m) → ∀ σ', InvM σ' N cap T (insO o (oi v) (bst F (N - 1))) oi' c (fun _ => false) (q + 200) → K (some (.int (nI (bst F (N - 1))))) σ') : Runs g 45 59 (d + 4) M_X3_sift [.ref (eA g 45), .int x1] σ K := by
  obtain ⟨hB, hT, hP, hS⟩ := id hI
  obtain ⟨hN, hcap, h8, h9, h10, hp, ho, hc⟩ := id hB
  have hpw := pwN hN.1 hN.2
  refine E_X3_sift g (d + 3) _ σ K (m_isLetter (d := d + 2) hN.2 h8 (fun v hv e => ⟨_, rfl, fun _ => ?_, fun q => absurd q n10⟩) (fun hn => ⟨_, rfl, fun q => absurd rfl q, fun _ => hbad hn⟩))
  subst e
  have hL := (hp.2 v hv).1
  have loop : ∀ m, m ≤ N → ∀ F τ x2 x3, InvM τ N cap T o oi c P (q + 12 * m) → (∀ m', m' < m → F m' ≤ 98304 ∧ ∃ wk, (∀ q, q < N → Wid (FT T (insO o (oi v) m') N) N 0 32 q (wk q)) ∧ sumN wk N = F m') → (m = 0 → x2 = nI 0 ∧ x3 = nI 2147483647) → (1 ≤ m → x2 = nI (bst F (m - 1)) ∧ x3 = nI (F (bst F (m - 1)))) → WP g 45 59 (d + 4) M_X3_sift 19 [(0, .ref (eA g 45)), (1, .int (nI v)), (2, .int x2), (3, .int x3), (4, .int (nI m))] [] τ K := by
    refine up_to (P := fun m => ∀ F τ x2 x3, InvM τ N cap T o oi c P (q + 12 * m) → (∀ m', m' < m → F m' ≤ 98304 ∧ ∃ wk, (∀ q, q < N → Wid (FT T (insO o (oi v) m') N) N 0 32 q (wk q)) ∧ sumN wk N = F m') → (m = 0 → x2 = nI 0 ∧ x3 = nI 2147483647) → (1 ≤ m → x2 = nI (bst F (m - 1)) ∧ x3 = nI (F (bst F (m - 1)))) → WP g 45 59 (d + 4) M_X3_sift 19 [(0, .ref (eA g 45)), (1, .int (nI v)), (2, .int x2), (3, .int x3), (4, .int (nI m))] [] τ K) N ?_ ?_
    · intro F τ x2 x3 hM hF _ h1
      obtain ⟨e2, -⟩ := h1 hN.1
      subst e2
      have hbl := bst_le F (N - 1)
      have h8' := hM.1.2.2.1
      refine R_X3_sift_19 g (d + 3) _ _ _ _ _ K ⟨fun _ => m_tries (d := d + 2) hM.1 hv (by omega) (fun f hf => ⟨rfl, ?_⟩), fun c => absurd (le8 hN h8') c⟩
      have hM' : InvM (uIf τ 51 f) N cap T o oi c P (q + 12 * N) := hM.made (Or.inr rfl)
      obtain ⟨oi', hp'⟩ := insO_prm (m := bst F (N - 1)) hp hL (by omega)
      refine fillI (z := 50) (n := N) (h := fun i => nI (insO o (oi v) (bst F (N - 1)) i)) (lv := fun x => [(0, .ref (eA g 45)), (2, .int (nI (bst F (N - 1)))), (4, .int x)]) (fun x f1 hx hf1 nx => ?_) (fun f1 hf1 => ?_)
      · refine R_X3_sift_76 g (d + 3) _ _ _ _ ⟨fun c => absurd c (ge8 hN h8' hx), fun _ => ?_⟩
        rw [vp_iff (by omega), vp_iff (by omega), nI_clamp (by omega), nI_1', uI_uIf, sI_uIfn (by decide), sI_uIf, hf x hx]
        exact ⟨by show x < 12; omega, by show x < 12; omega, nx⟩
      · refine R_X3_sift_76 g (d + 3) _ _ _ _ ⟨fun _ => m_done (d := d + 2) (fun f2 hf2 => ⟨_, rfl, hok v F oi' hv rfl (fun m hm => (hF m hm).2) _ ?_⟩), fun c => absurd (le8 hN h8') c⟩
        exact (m_order hM' hp' hf1 hf2).le (by omega)
    · intro m hm ih F τ x2 x3 hM hF h0 h1
      have h8' := hM.1.2.2.1
      refine R_X3_sift_19 g (d + 3) _ _ _ _ _ K ⟨fun c => absurd c (ge8 hN h8' hm), fun _ => m_tries (d := d + 2) hM.1 hv hm (fun f hf => ⟨rfl, ?_⟩)⟩
      have hM' : InvM (uIf τ 51 f) N cap T o oi c P (q + 12 * m) := hM.made (Or.inr rfl)
      obtain ⟨oi', hp'⟩ := insO_prm (m := m) hp hL hm
      refine m_forksT (d := d + 1) hM' (by omega) (Or.inr rfl) hp' (fun i hi => by rw [sI_uIf]; exact hf i hi) (Nat.zero_le _) (Nat.le_refl _) (fun τ' wk hM2 hfr h54 hW hle => ⟨_, rfl, ?_⟩)
      have hM3 : InvM τ' N cap T o oi c P (q + 12 * (m + 1)) := hM2.le (by omega)
      have hF' : ∀ m', m' < m + 1 → va_up F m (sumN wk N) m' ≤ 98304 ∧ ∃ wk', (∀ q, q < N → Wid (FT T (insO o (oi v) m') N) N 0 32 q (wk' q)) ∧ sumN wk' N = va_up F m (sumN wk N) m' := fun m' hm' => by
        by_cases e : m' = m
        · rw [e, up_eq]; exact ⟨hle, wk, fun p hp => (hW p hp).1, rfl⟩
        · rw [up_ne e]; exact hF m' (by omega)
      rw [nI_1']
      rcases Nat.eq_zero_or_pos m with e | hpos
      · obtain ⟨e2, e3⟩ := h0 e
        subst e e2 e3
        refine ⟨fun c => absurd ((nI_leI (by omega) (by omega)).mp c) (by omega), fun _ => ih _ τ' _ _ hM3 hF' (fun c => absurd c (by omega)) (fun _ => ⟨rfl, ?_⟩)⟩
        show nI (sumN wk N) = nI (va_up F 0 (sumN wk N) 0)
        rw [up_eq]
      · obtain ⟨e2, e3⟩ := h1 hpos
        subst e2 e3
        have hbl := bst_le F (m - 1)
        have hb1 : bst (va_up F m (sumN wk N)) (m - 1) = bst F (m - 1) := bst_congr fun m' hm' => up_ne (by omega)
        have hbs : bst (va_up F m (sumN wk N)) m = if sumN wk N < F (bst F (m - 1)) then m else bst F (m - 1) := by
          obtain ⟨n, rfl⟩ : ∃ n, m = n + 1 := ⟨m - 1, by omega⟩
          show (if va_up F (n + 1) (sumN wk N) (n + 1) < va_up F (n + 1) (sumN wk N) (bst (va_up F (n + 1) (sumN wk N)) n) then n + 1 else bst (va_up F (n + 1) (sumN wk N)) n) = _
          have hb1 : bst (va_up F (n + 1) (sumN wk N)) n = bst F n := hb1
          have hbl : bst F n ≤ n := hbl
          rw [hb1, up_eq, up_ne (by omega)]
          rfl
        have hFb := (hF (bst F (m - 1)) (by omega)).1
        rw [nI_leI (by omega) (by omega)]
        refine ⟨fun l => ih _ τ' _ _ hM3 hF' (fun c => absurd c (by omega)) (fun _ => ?_), fun l => ih _ τ' _ _ hM3 hF' (fun c => absurd c (by omega)) (fun _ => ?_)⟩
        · rw [Nat.add_sub_cancel, hbs, if_neg (by omega), up_ne (by omega)]
          exact ⟨rfl, rfl⟩
        · rw [Nat.add_sub_cancel, hbs, if_pos (by omega), up_eq]
          exact ⟨rfl, rfl⟩
  exact loop 0 (Nat.zero_le _) (fun _ => 0) σ _ _ hI (fun m' hm' => absurd hm' (Nat.not_lt_zero _)) (fun _ => ⟨rfl, rfl⟩) (fun c => absurd c (by omega))
end MOD7

theorem MS.I {σ : St} {q z : Nat} {f : Nat → Int32} (h : MS σ q) (hz : z ≠ 55) : MS (uIf σ z f) q := by
  obtain ⟨s, a, b, c⟩ := h
  exact ⟨s, a, b, by rw [sI_uIfn (Ne.symm hz)]; exact c⟩
theorem MB.F {σ τ : St} {N cap : Nat} {o oi c : Nat → Nat} (h : MB σ N cap o oi c) (hf : Ffr σ τ) : MB τ N cap o oi c := by
  obtain ⟨a, b, c1, c2, c3, c4, c5, c6⟩ := h
  exact ⟨a, b, by rw [hf.1 8 (by decide) (by decide)]; exact c1, by rw [hf.1 9 (by decide) (by decide)]; exact c2, by rw [hf.1 10 (by decide) (by decide)]; exact c3, c4, by rw [hf.2 50 (by decide)]; exact c5, by rw [hf.2 49 (by decide)]; exact c6⟩
theorem InvM.oi {σ : St} {N cap : Nat} {T : Nat → Nat → Bool} {o oi oi' c : Nat → Nat} {P : Nat → Bool} {q : Nat} (h : InvM σ N cap T o oi c P q) (hp : Prm o oi' N) : InvM σ N cap T o oi' c P q := by
  obtain ⟨⟨a, b, c1, c2, c3, c4, c5⟩, h2⟩ := h
  exact ⟨⟨a, b, c1, c2, c3, hp, c5⟩, h2⟩
theorem InvM.F {σ τ : St} {N cap : Nat} {T : Nat → Nat → Bool} {o oi c : Nat → Nat} {P : Nat → Bool} {q q' : Nat} (h : InvM σ N cap T o oi c P q) (hf : Ffr σ τ) (hs : MS τ q') : InvM τ N cap T o oi c P q' := by
  obtain ⟨a, b, c1, -⟩ := h
  exact ⟨a.F hf, by rw [hf.2 46 (by decide)]; exact b, by rw [hf.2 48 (by decide)]; exact c1, hs⟩
theorem InvM.made {σ : St} {N cap : Nat} {T : Nat → Nat → Bool} {o oi c : Nat → Nat} {P : Nat → Bool} {q z : Nat} {f : Nat → Int32} (h : InvM σ N cap T o oi c P q) (hz : z = 47 ∨ z = 51) : InvM (uIf σ z f) N cap T o oi c P q := by
  obtain ⟨a, b, c1, e⟩ := h
  exact ⟨a.I (by omega) (by omega), by rw [sI_uIfn (by omega)]; exact b, by rw [sI_uIfn (by omega)]; exact c1, e.I (by omega)⟩
def KM (N cap : Nat) (T : Nat → Nat → Bool) (o oi c : Nat → Nat) (P : Nat → Bool) (q j : Nat) (h : Nat → Bool) (K : Option Value → St → Prop) : Prop :=
  (∀ σ' wk, InvM σ' N cap (va_up T j h) o oi c (fun _ => false) (q + 200) → (∀ k, k < N → Wid (FT (va_up T j h) o N) N 0 32 k (wk k)) → sumN wk N ≤ cap → K (some (.int (nI 0))) σ') ∧
  ∀ σ' wk, InvM σ' N cap T o oi c P (q + 200) → (∀ k, k < N → Wid (FT (va_up T j h) o N) N 0 32 k (wk k)) → cap < sumN wk N → K (some (.int (-8))) σ'
section MOD4
variable {g : Ev} {d : Nat} {σ : St} {K : Option Value → St → Prop} {N cap q : Nat} {T : Nat → Nat → Bool} {o oi c : Nat → Nat} {P : Nat → Bool}
theorem fillA {M : Mt} {pc z n D : Nat} {h : Nat → Bool} (lv : Int32 → List (Nat × Value)) (hstep : ∀ x f, x < n → (∀ y, y < x → f y = bI (h y)) → WP g 45 59 D M pc (lv (nI (x + 1))) [] (uIf σ z (upd f x (bI (h x)))) K → WP g 45 59 D M pc (lv (nI x)) [] (uIf σ z f) K)
    (hend : ∀ f, (∀ x, x < n → f x = bI (h x)) → WP g 45 59 D M pc (lv (nI n)) [] (uIf σ z f) K) : WP g 45 59 D M pc (lv (nI 0)) [] σ K := by
  have loop : ∀ x, x ≤ n → ∀ f, (∀ y, y < x → f y = (fun y => bI (h y)) y) → WP g 45 59 D M pc (lv (nI x)) [] (uIf σ z f) K := by
    refine up_to (P := fun x => ∀ f, (∀ y, y < x → f y = (fun y => bI (h y)) y) → WP g 45 59 D M pc (lv (nI x)) [] (uIf σ z f) K) n (fun f hf => hend f hf) (fun x hx ih f hf => hstep x f hx hf (ih (upd f x (bI (h x))) (fill_step (f := f) (h := fun y => bI (h y)) rfl hf)))
  have := loop 0 (Nat.zero_le _) (sI σ z) fill_0
  rw [uIf_self] at this
  exact this
theorem fillR {M : Mt} {pc z n off D : Nat} {h : Nat → Bool} (lv : Int32 → List (Nat × Value)) (hstep : ∀ x f, x < n → (∀ y, y < x → f (off + y) = bI (h y)) → (∀ y, y < off ∨ off + x ≤ y → f y = sI σ z y) → WP g 45 59 D M pc (lv (nI (x + 1))) [] (uIf σ z (upd f (off + x) (bI (h x)))) K → WP g 45 59 D M pc (lv (nI x)) [] (uIf σ z f) K)
    (hend : ∀ f, (∀ x, x < n → f (off + x) = bI (h x)) → (∀ y, y < off ∨ off + n ≤ y → f y = sI σ z y) → WP g 45 59 D M pc (lv (nI n)) [] (uIf σ z f) K) : WP g 45 59 D M pc (lv (nI 0)) [] σ K := by
  have loop : ∀ x, x ≤ n → ∀ f, (∀ y, y < x → f (off + y) = bI (h y)) → (∀ y, y < off ∨ off + x ≤ y → f y = sI σ z y) → WP g 45 59 D M pc (lv (nI x)) [] (uIf σ z f) K := by
    refine up_to (P := fun x => ∀ f, (∀ y, y < x → f (off + y) = bI (h y)) → (∀ y, y < off ∨ off + x ≤ y → f y = sI σ z y) → WP g 45 59 D M pc (lv (nI x)) [] (uIf σ z f) K) n (fun f hf h2 => hend f hf h2) (fun x hx ih f hf h2 => hstep x f hx hf h2 (ih (upd f (off + x) (bI (h x))) (fun y hy => ?_) (fun y hy => ?_)))
    · by_cases e : y = x
      · rw [e, upd_eq]
      · rw [upd_ne (by omega)]; exact hf y (by omega)
    · rw [upd_ne (by omega)]; exact h2 y (by omega)
  have := loop 0 (Nat.zero_le _) (sI σ z) (fun y hy => absurd hy (Nat.not_lt_zero _)) (fun _ _ => rfl)
  rw [uIf_self] at this
  exact this
theorem ge9 {τ : St} {x : Nat} (hN : 1 ≤ N ∧ N ≤ 12) (h9 : sV τ 9 = nI (2 ^ N)) (hx : x < 2 ^ N) : ¬ sV τ 9 ≤ nI x := by
  have := pwN hN.1 hN.2
  rw [h9, nI_leI (by omega) (by omega)]
  omega
theorem le9 {τ : St} (hN : 1 ≤ N ∧ N ≤ 12) (h9 : sV τ 9 = nI (2 ^ N)) : sV τ 9 ≤ nI (2 ^ N) := by
  have := pwN hN.1 hN.2
  rw [h9]
  exact nI_le (Nat.le_refl _) (by omega)
theorem MT.put {f f' : Nat → Int32} {j : Nat} {h : Nat → Bool} (hN : 1 ≤ N ∧ N ≤ 12) (hT : MT f N T) (h1 : ∀ x, x < 2 ^ N → f' (4096 * j + x) = bI (h x)) (h2 : ∀ y, y < 4096 * j ∨ 4096 * j + 2 ^ N ≤ y → f' y = f y) : MT f' N (va_up T j h) := by
  intro r x hr hx
  have := pwN hN.1 hN.2
  by_cases e : r = j
  · rw [e, up_eq]; exact h1 x hx
  · rw [up_ne e, h2 _ (by omega)]; exact hT r x hr hx
theorem m_keep {τ : St} {j : Nat} {h : Nat → Bool} {f' f'' : Nat → Int32} (hI : InvM τ N cap T o oi c P q) (h1 : ∀ x, x < 2 ^ N → f' (4096 * j + x) = bI (h x)) (h2 : ∀ y, y < 4096 * j ∨ 4096 * j + 2 ^ N ≤ y → f' y = sI τ 46 y) (h3 : ∀ x, x < 4096 → f'' x = nI 0) : InvM (uIf (uIf τ 46 f') 48 f'') N cap (va_up T j h) o oi c (fun _ => false) q := by
  obtain ⟨hB, hT, hP, hS⟩ := hI
  have hpw := pwN hB.1.1 hB.1.2
  refine ⟨(hB.I (by decide) (by decide)).I (by decide) (by decide), ?_, ?_, (hS.I (by decide)).I (by decide)⟩
  · rw [sI_uIfn (by decide), sI_uIf]
    exact MT.put hB.1 hT h1 h2
  · rw [sI_uIf]
    exact fun x hx => h3 x (by omega)
theorem m_puts {j : Nat} {h : Nat → Bool} {f : Nat → Int32} (hI : InvM σ N cap T o oi c P q) (hq : q < 2 ^ 30) (hj : j < 32) (hf : ∀ x, x < 2 ^ N → f x = bI (h x)) (hK : KM N cap T o oi c P q j h K) : Runs g 45 59 (d + 3) M_X3_puts [.ref (eA g 45), .int (nI j)] (uIf σ 47 f) (fun r1 σ1 => ∃ v1 : Int32, r1 = some (.int v1) ∧ K (some (.int v1)) σ1) := by
  have hI' : InvM (uIf σ 47 f) N cap T o oi c P q := hI.made (Or.inl rfl)
  obtain ⟨hB, hT, hP, hS⟩ := id hI'
  obtain ⟨hN, hcap, h8, h9, h10, hp, ho, hc⟩ := id hB
  have hpw := pwN hN.1 hN.2
  refine E_X3_puts g (d + 2) _ _ _ (m_forks (d := d) (G := va_up T j h) (Or.inl rfl) hN h8 h9 hp ho (Nat.zero_le _) (Nat.le_refl _) (fun r x _ hr hx => ⟨fun e => ?_, fun e => ?_⟩) hS hq (fun τ wk hfr hS' h54 hW hle => ⟨_, rfl, fun hc => ?_, fun hc => ?_⟩))
  · have e : r = j := nI_inj (by omega) (by omega) e
    rw [e, up_eq, sI_uIf]; exact hf x hx
  · have e : r ≠ j := fun q => e (by rw [q])
    rw [up_ne e]; exact hT r x hr hx
  · have hM := hI'.F hfr hS'
    rw [hM.1.2.2.2.2.1, nI_leI (by omega) (by omega)] at hc
    refine fillR (z := 46) (n := 2 ^ N) (off := 4096 * j) (h := h) (lv := fun x => [(0, .ref (eA g 45)), (1, .int (nI j)), (2, .int x)]) (fun x f1 hx h1 h2 nx => ?_) (fun f1 h1 h2 => ?_)
    · refine R_X3_puts_24 g (d + 2) _ _ _ _ ⟨fun c => absurd c (ge9 hN hM.1.2.2.2.1 hx), fun _ => ?_⟩
      rw [pk_mul, nI_add, vp_iff (by omega), vp_iff (by omega), nI_clamp (by omega), nI_clamp (by omega), nI_1', uI_uIf, sI_uIfn (by decide), hfr.2 47 (by decide), sI_uIf, hf x hx, bI_vp]
      exact ⟨by show x < 4096; omega, by show _ < 131072; omega, nx⟩
    · refine R_X3_puts_24 g (d + 2) _ _ _ _ ⟨fun _ => m_done (d := d + 1) (fun f2 h3 => ⟨_, rfl, _, rfl, hK.1 _ wk ?_ (fun k hk => (hW k hk).1) hc⟩), fun c => absurd (le9 hN hM.1.2.2.2.1) c⟩
      exact (m_keep hM h1 h2 h3).le (by omega)
  · have hM := hI'.F hfr hS'
    rw [hM.1.2.2.2.2.1, nI_leI (by omega) (by omega)] at hc
    refine ⟨_, rfl, hK.2 _ wk ?_ (fun k hk => (hW k hk).1) (by omega)⟩
    exact hM.le (by omega)
theorem M_constant {x1 : Int32} {y : Bool} (hI : InvM σ N cap T o oi c P q) (hbad : ¬ isR x1 → K (some (.int (-2))) σ) (hok : ∀ j, j < 32 → x1 = nI j → ∀ σ', InvM σ' N cap (va_up T j (fun _ => y)) o oi c (fun _ => false) q → K (some (.int (nI 0))) σ') : Runs g 45 59 (d + 4) M_X3_constant [.ref (eA g 45), .int x1, .int (bI y)] σ K := by
  obtain ⟨hB, hT, hP, hS⟩ := id hI
  obtain ⟨hN, hcap, h8, h9, h10, hp, ho, hc⟩ := id hB
  have hpw := pwN hN.1 hN.2
  refine E_X3_constant g (d + 3) _ _ σ K (m_isReg (d := d + 2) (fun j hj e => ⟨_, rfl, fun _ => ?_, fun q => absurd q n10⟩) (fun hn => ⟨_, rfl, fun q => absurd rfl q, fun _ => hbad hn⟩))
  subst e
  refine fillR (z := 46) (n := 2 ^ N) (off := 4096 * j) (h := fun _ => y) (lv := fun x => [(0, .ref (eA g 45)), (1, .int (nI j)), (2, .int (bI y)), (3, .int x)]) (fun x f1 hx h1 h2 nx => ?_) (fun f1 h1 h2 => ?_)
  · refine R_X3_constant_13 g (d + 3) _ _ _ _ _ ⟨fun c => absurd c (ge9 hN h9 hx), fun _ => ?_⟩
    rw [pk_mul, nI_add, vp_iff (by omega), nI_clamp (by omega), nI_1', uI_uIf, bI_vp]
    exact ⟨by show _ < 131072; omega, nx⟩
  · exact R_X3_constant_13 g (d + 3) _ _ _ _ _ ⟨fun _ => m_done (d := d + 2) (fun f2 h3 => ⟨_, rfl, hok j hj rfl _ (m_keep hI h1 h2 h3)⟩), fun c => absurd (le9 hN h9) c⟩
theorem M_copy {x1 x2 : Int32} (hI : InvM σ N cap T o oi c P q) (hbad : ¬ (isR x1 ∧ isR x2) → K (some (.int (-2))) σ) (hok : ∀ j a, j < 32 → a < 32 → x1 = nI j → x2 = nI a → ∀ σ', InvM σ' N cap (va_up T j (T a)) o oi c (fun _ => false) q → K (some (.int (nI 0))) σ') : Runs g 45 59 (d + 4) M_X3_copy [.ref (eA g 45), .int x1, .int x2] σ K := by
  obtain ⟨hB, hT, hP, hS⟩ := id hI
  obtain ⟨hN, hcap, h8, h9, h10, hp, ho, hc⟩ := id hB
  have hpw := pwN hN.1 hN.2
  refine E_X3_copy g (d + 3) _ _ σ K (m_isReg (d := d + 2) (fun j hj e => ⟨_, rfl, fun q => absurd q n10, fun _ => m_isReg (d := d + 2) (fun a ha e2 => ⟨_, rfl, fun _ => ?_, fun q => absurd q n10⟩) (fun hn => ⟨_, rfl, fun q => absurd rfl q, fun _ => hbad (fun q => hn q.2)⟩)⟩) (fun hn => ⟨_, rfl, fun _ => hbad (fun q => hn q.1), fun q => absurd rfl q⟩))
  subst e e2
  refine fillR (z := 46) (n := 2 ^ N) (off := 4096 * j) (h := T a) (lv := fun x => [(0, .ref (eA g 45)), (1, .int (nI j)), (2, .int (nI a)), (3, .int x)]) (fun x f1 hx h1 h2 nx => ?_) (fun f1 h1 h2 => ?_)
  · refine R_X3_copy_21 g (d + 3) _ _ _ _ _ ⟨fun c => absurd c (ge9 hN h9 hx), fun _ => m_getv (d := d + 2) (v := T a x) ha (by omega) ?_ ⟨_, rfl, ?_⟩⟩
    · rw [sI_uIf, h2 _ (by omega)]; exact hT a x ha hx
    · rw [pk_mul, nI_add, vp_iff (by omega), nI_clamp (by omega), nI_1', uI_uIf, bI_vp]
      exact ⟨by show _ < 131072; omega, nx⟩
  · exact R_X3_copy_21 g (d + 3) _ _ _ _ _ ⟨fun _ => m_done (d := d + 2) (fun f2 h3 => ⟨_, rfl, hok j a hj ha rfl rfl _ (m_keep hI h1 h2 h3)⟩), fun c => absurd (le9 hN h9) c⟩
end MOD4

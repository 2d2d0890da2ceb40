/-! the reference's state, by the same N, cap, T, o, oi, c, P -/
def MB (σ : St) (N cap : Nat) (o oi c : Nat → Nat) : Prop :=
  (1 ≤ N ∧ N ≤ 12) ∧ cap ≤ 20000 ∧ sV σ 8 = nI N ∧ sV σ 9 = nI (2 ^ N) ∧ sV σ 10 = nI cap ∧ Prm o oi N ∧ (∀ k, k < N → sI σ 50 k = nI (o k)) ∧ ∀ v, v < 12 → sI σ 49 v = nI (c v) ∧ c v ≤ 1000000
def MT (f : Nat → Int32) (N : Nat) (T : Nat → Nat → Bool) : Prop := ∀ r x, r < 32 → x < 2 ^ N → f (4096 * r + x) = bI (T r x)
def MP (f : Nat → Int32) (N : Nat) (P : Nat → Bool) : Prop := ∀ x, x < 2 ^ N → f x = bI (P x)
def MS (σ : St) (q : Nat) : Prop := ∃ s, s ≤ q ∧ sV σ 12 = nI s ∧ ∀ a, a < 131072 → ∃ p, p ≤ s ∧ sI σ 55 a = nI p
def InvM (σ : St) (N cap : Nat) (T : Nat → Nat → Bool) (o oi c : Nat → Nat) (P : Nat → Bool) (q : Nat) : Prop := MB σ N cap o oi c ∧ MT (sI σ 46) N T ∧ MP (sI σ 48) N P ∧ MS σ q
theorem MS.le {σ : St} {q q' : Nat} (h : MS σ q) (hq : q ≤ q') : MS σ q' := by
  obtain ⟨s, a, b⟩ := h
  exact ⟨s, by omega, b⟩
theorem InvM.le {σ : St} {N cap : Nat} {T : Nat → Nat → Bool} {o oi c : Nat → Nat} {P : Nat → Bool} {q q' : Nat} (h : InvM σ N cap T o oi c P q) (hq : q ≤ q') : InvM σ N cap T o oi c P q' := ⟨h.1, h.2.1, h.2.2.1, h.2.2.2.le hq⟩
theorem uI_uIf {σ : St} {k i : Nat} {f : Nat → Int32} {x : Int32} : uI (uIf σ k f) k i x = uIf σ k (upd f i x) := by
  rw [uI_f, sI_uIf, uIf_uIf]
theorem fill_step {f : Nat → Int32} {h : Nat → Int32} {x : Nat} {v : Int32} (hv : v = h x) (hf : ∀ y, y < x → f y = h y) : ∀ y, y < x + 1 → upd f x v y = h y := fun y hy => by
  by_cases e : y = x
  · rw [e, upd_eq, hv]
  · rw [upd_ne e]
    exact hf y (by omega)
theorem fill_0 {f h : Nat → Int32} : ∀ y, y < 0 → f y = h y := fun y hy => absurd hy (Nat.not_lt_zero _)
theorem MB.I {σ : St} {N cap k : Nat} {o oi c : Nat → Nat} {f : Nat → Int32} (h : MB σ N cap o oi c) (h1 : k ≠ 49) (h2 : k ≠ 50) : MB (uIf σ k f) N cap o oi c := by
  obtain ⟨a, b, c1, c2, c3, c4, c5, c6⟩ := h
  exact ⟨a, b, c1, c2, c3, c4, by rw [sI_uIfn (Ne.symm h2)]; exact c5, by rw [sI_uIfn (Ne.symm h1)]; exact c6⟩
def hsh (a b : Nat) : Nat := (((nI a * nI 31) + (nI b * nI 40503)) + nI 7).toBitVec.toNat % 131072
def PD (σ : St) (s m0 k w : Nat) (lo hi : Nat → Nat) : Prop :=
  sV σ 12 = nI s ∧ sV σ 11 = nI (m0 + w) ∧ sI σ 54 k = nI w ∧ (∀ i, i < w → lo i < m0 ∧ hi i < m0 ∧ lo i ≠ hi i) ∧ (∀ i j, i < w → j < w → lo i = lo j → hi i = hi j → i = j) ∧ (∀ q, q < 131072 → ∃ p, p ≤ s ∧ sI σ 55 q = nI p) ∧ ∃ sl : Nat → Nat,
   (∀ q, q < 131072 → (sI σ 55 q = nI s ↔ sl q ≠ 0)) ∧
   (∀ q, q < 131072 → sl q ≤ w) ∧
   (∀ q, q < 131072 → sl q ≠ 0 → sI σ 56 q = nI (lo (sl q - 1)) ∧ sI σ 57 q = nI (hi (sl q - 1)) ∧ sI σ 58 q = nI (m0 + (sl q - 1))) ∧
   (∀ q q', q < 131072 → q' < 131072 → sl q = sl q' → sl q ≠ 0 → q = q') ∧
   ∀ i, i < w → ∃ mi, sl ((hsh (lo i) (hi i) + mi) % 131072) = i + 1 ∧ ∀ m', m' < mi → sl ((hsh (lo i) (hi i) + m') % 131072) ≠ 0
/-- what pair leaves -/
def Pfr (σ σ' : St) (k : Nat) : Prop := (∀ z, z ≠ 11 → sV σ' z = sV σ z) ∧ (∀ j, j < 54 → sI σ' j = sI σ j) ∧ ∀ j, j ≠ k → sI σ' 54 j = sI σ 54 j
section MOD1
variable {g : Ev} {d : Nat} {σ : St} {K : Option Value → St → Prop} {N cap : Nat} {T : Nat → Nat → Bool} {o oi c : Nat → Nat} {P : Nat → Bool}
theorem m_isReg {x : Int32} (h1 : ∀ j, j < 32 → x = nI j → K (some (.int (nI 1))) σ) (h0 : (¬ ∃ j, j < 32 ∧ x = nI j) → K (some (.int (nI 0))) σ) : Runs g 45 59 (d + 1) M_X3_isRegister [.ref (eA g 45), .int x] σ K :=
  E_X3_isRegister g d _ σ K (rng_cases (by omega) h1 h0)
theorem m_isLetter {x : Int32} (hN : N ≤ 12) (h8 : sV σ 8 = nI N) (h1 : ∀ j, j < N → x = nI j → K (some (.int (nI 1))) σ) (h0 : (¬ ∃ j, j < N ∧ x = nI j) → K (some (.int (nI 0))) σ) : Runs g 45 59 (d + 1) M_X3_isLetter [.ref (eA g 45), .int x] σ K := by
  refine E_X3_isLetter g d _ σ K ?_
  rw [h8]
  exact rng_cases (by omega) h1 h0
theorem m_get {r x : Nat} (hT : MT (sI σ 46) N T) (hN : 1 ≤ N ∧ N ≤ 12) (hr : r < 32) (hx : x < 2 ^ N) (h : K (some (.int (bI (T r x)))) σ) : Runs g 45 59 (d + 1) M_X3_get [.ref (eA g 45), .int (nI r), .int (nI x)] σ K := by
  have hpw := pwN hN.1 hN.2
  refine E_X3_get g d _ _ σ K ?_
  rw [pk_mul, nI_add, vp_iff (by omega), nI_clamp (by omega), hT r x hr hx]
  exact ⟨by show 4096 * r + x < 131072; omega, bI_nar _, h⟩
theorem m_done (h : ∀ f, (∀ x, x < 4096 → f x = nI 0) → K (some (.int (nI 0))) (uIf σ 48 f)) : Runs g 45 59 (d + 1) M_X3_done [.ref (eA g 45)] σ K := by
  refine E_X3_done g d σ K ?_
  have loop : ∀ x, x ≤ 4096 → ∀ f, (∀ y, y < x → f y = (fun _ => nI 0) y) → WP g 45 59 (d + 1) M_X3_done 2 [(0, .ref (eA g 45)), (1, .int (nI x))] [] (uIf σ 48 f) K := by
    refine up_to (P := fun x => ∀ f, (∀ y, y < x → f y = (fun _ => nI 0) y) → WP g 45 59 (d + 1) M_X3_done 2 [(0, .ref (eA g 45)), (1, .int (nI x))] [] (uIf σ 48 f) K) 4096 ?_ ?_
    · intro f hf
      exact R_X3_done_2 g d _ _ K ⟨fun _ => h f hf, fun q => absurd (nI_le (Nat.le_refl _) (by omega)) q⟩
    · intro x hx ih f hf
      refine R_X3_done_2 g d _ _ K ⟨fun q => absurd ((nI_leI (by omega) (by omega)).mp q) (by omega), fun _ => ?_⟩
      rw [vp_iff (by omega), nI_clamp (by omega), nI_1', uI_uIf]
      exact ⟨hx, ih _ (fill_step rfl hf)⟩
  have := loop 0 (Nat.zero_le _) (sI σ 48) fill_0
  rw [uIf_self] at this
  exact this
theorem m_spread {i k2 : Nat} (hk2 : k2 = 50 ∨ k2 = 51) (hN : 1 ≤ N ∧ N ≤ 12) (h8 : sV σ 8 = nI N) (hp : Prm o oi N) (ho : ∀ k, k < N → sI σ k2 k = nI (o k)) (hi : i < 2 ^ N) (h : K (some (.int (nI (spr o N i)))) σ) : Runs g 45 59 (d + 1) M_X3_spread [.ref (eA g 45), .int (nI i), .ref (eA g k2)] σ K := by
  have hpw := pwN hN.1 hN.2
  refine E_X3_spread g d _ _ σ K ?_
  have loop : ∀ k, k ≤ N → WP g 45 59 (d + 1) M_X3_spread 5 [(0, .ref (eA g 45)), (1, .int (nI i)), (2, .ref (eA g k2)), (3, .int (nI (orN (sprF o N i) k))), (4, .int (nI k))] [] σ K := by
    refine up_to (P := fun k => WP g 45 59 (d + 1) M_X3_spread 5 [(0, .ref (eA g 45)), (1, .int (nI i)), (2, .ref (eA g k2)), (3, .int (nI (orN (sprF o N i) k))), (4, .int (nI k))] [] σ K) N ?_ ?_
    · refine R_X3_spread_5 g d _ _ _ _ σ K ⟨fun _ => h, fun q => ?_⟩
      rw [h8] at q
      exact absurd (nI_le (Nat.le_refl _) (by omega)) q
    · intro k hk ih
      have hok := hp.1 k hk
      refine R_X3_spread_5 g d _ _ _ _ σ K ⟨fun q => ?_, fun _ => ?_⟩
      · rw [h8] at q
        exact absurd ((nI_leI (by omega) (by omega)).mp q) (by omega)
      · rw [h8, pk_sub (by omega), pk_sub (by omega), bit_and1 (by omega) (by omega), vp_iff (by omega), nI_clamp (by omega), ho k hk, jshl1 (by omega), nI_or, nI_1']
        have e : orN (sprF o N i) (k + 1) = orN (sprF o N i) k ||| sprF o N i k := rfl
        rw [e] at ih
        unfold sprF at ih
        cases hb : i.testBit (N - 1 - k)
        · rw [hb] at ih
          have ih : WP g 45 59 (d + 1) M_X3_spread 5 [(0, .ref (eA g 45)), (1, .int (nI i)), (2, .ref (eA g k2)), (3, .int (nI (orN (sprF o N i) k ||| 0))), (4, .int (nI (k + 1)))] [] σ K := ih
          rw [Nat.or_zero] at ih
          exact ⟨fun _ => ih, fun q => absurd q (by decide)⟩
        · rw [hb] at ih
          have ih : WP g 45 59 (d + 1) M_X3_spread 5 [(0, .ref (eA g 45)), (1, .int (nI i)), (2, .ref (eA g k2)), (3, .int (nI (orN (sprF o N i) k ||| 2 ^ o k))), (4, .int (nI (k + 1)))] [] σ K := ih
          refine ⟨fun q => absurd rfl q, fun _ => ⟨⟨by omega, ?_⟩, ih⟩⟩
          rcases hk2 with rfl | rfl
          · show k < 12; omega
          · show k < 12; omega
  exact loop 0 (Nat.zero_le _)
theorem m_pair {s m0 k w a b : Nat} {lo hi : Nat → Nat} (hD : PD σ s m0 k w lo hi) (hs : s < 2 ^ 31) (hm : m0 + w < 2 ^ 30) (hw : w < 131072) (hk : k < 12) (ha : a < m0) (hb : b < m0)
    (h0 : a = b → K (some (.int (nI a))) σ) (h1 : ∀ i, i < w → a ≠ b → lo i = a → hi i = b → K (some (.int (nI (m0 + i)))) σ)
    (h2 : a ≠ b → (∀ i, i < w → ¬ (lo i = a ∧ hi i = b)) → ∀ σ', Pfr σ σ' k → PD σ' s m0 k (w + 1) (va_up lo w a) (va_up hi w b) → K (some (.int (nI (m0 + w)))) σ') :
    Runs g 45 59 (d + 1) M_X3_pair [.ref (eA g 45), .int (nI a), .int (nI b), .int (nI k)] σ K := by
  obtain ⟨v12, v11, v54, hl, hdist, hpl, sl, s0, s2, s1, s3, s4⟩ := id hD
  refine E_X3_pair g d _ _ _ σ K ?_
  rw [nI_eq (by omega) (by omega)]
  refine ⟨fun hab => ?_, fun hab => h0 hab⟩
  have hmask : ∀ x : Int32, x &&& nI 131071 = nI (x.toBitVec.toNat % 131072) := fun x => pk_and x 17 (pk_tn (by omega))
  rw [hmask]
  show WP g 45 59 (d + 1) M_X3_pair 24 [(0, .ref (eA g 45)), (1, .int (nI a)), (2, .int (nI b)), (3, .int (nI k)), (4, .int (nI (hsh a b)))] [] σ K
  generalize hh : hsh a b = h0'
  have hh0 : h0' < 131072 := by rw [← hh]; exact Nat.mod_lt _ (by omega)
  have loop : ∀ m, m ≤ 131072 → (∀ m', m' < m → sl ((h0' + m') % 131072) ≠ 0 ∧ ¬ (lo (sl ((h0' + m') % 131072) - 1) = a ∧ hi (sl ((h0' + m') % 131072) - 1) = b)) → WP g 45 59 (d + 1) M_X3_pair 24 [(0, .ref (eA g 45)), (1, .int (nI a)), (2, .int (nI b)), (3, .int (nI k)), (4, .int (nI ((h0' + m) % 131072)))] [] σ K := by
    refine up_to (P := fun m => (∀ m', m' < m → sl ((h0' + m') % 131072) ≠ 0 ∧ ¬ (lo (sl ((h0' + m') % 131072) - 1) = a ∧ hi (sl ((h0' + m') % 131072) - 1) = b)) → WP g 45 59 (d + 1) M_X3_pair 24 [(0, .ref (eA g 45)), (1, .int (nI a)), (2, .int (nI b)), (3, .int (nI k)), (4, .int (nI ((h0' + m) % 131072)))] [] σ K) 131072 ?_ ?_
    · intro hpath
      obtain ⟨q, hq, hq0⟩ := slot_free (c := 17) (fc := w) (sl := sl) hw s2 s3
      have hq : q < 131072 := hq
      exfalso
      refine (hpath ((q + 131072 - h0') % 131072) (Nat.mod_lt _ (by omega))).1 ?_
      have : (h0' + (q + 131072 - h0') % 131072) % 131072 = q := by omega
      rw [this]
      exact hq0
    · intro m hm1 ih hpath
      have hqm : (h0' + m) % 131072 < 131072 := Nat.mod_lt _ (by omega)
      generalize hQ : (h0' + m) % 131072 = Q at hqm
      have hnext : ∀ hx : sl Q ≠ 0 ∧ ¬ (lo (sl Q - 1) = a ∧ hi (sl Q - 1) = b), WP g 45 59 (d + 1) M_X3_pair 24 [(0, .ref (eA g 45)), (1, .int (nI a)), (2, .int (nI b)), (3, .int (nI k)), (4, .int ((nI Q + nI 1) &&& nI 131071))] [] σ K := fun hx => by
        rw [nI_1', hmask, pk_tn (by omega), show (Q + 1) % 131072 = (h0' + (m + 1)) % 131072 by omega]
        refine ih fun m' hm' => ?_
        rcases (show m' < m ∨ m' = m by omega) with hlt | rfl
        · exact hpath m' hlt
        · rw [hQ]; exact hx
      refine R_X3_pair_24 g d _ _ _ _ σ K ?_
      rw [nI_clamp (show Q < 2 ^ 31 by omega), nI_clamp (show k < 2 ^ 31 by omega), vp_iff (show Q < 2 ^ 31 by omega), vp_iff (show Q < 2 ^ 31 by omega), vp_iff (show Q < 2 ^ 31 by omega), vp_iff (show Q < 2 ^ 31 by omega), vp_iff (show k < 2 ^ 31 by omega), v12]
      refine ⟨hqm, fun hfree => ?_, fun hused => ?_⟩
      · have hz : sl Q = 0 := by
          refine Classical.byContradiction fun q => hfree ((s0 Q hqm).mpr q)
        have hnew : ∀ i, i < w → ¬ (lo i = a ∧ hi i = b) := by
          intro i hi' hq
          obtain ⟨mi, p1, p2⟩ := s4 i hi'
          rw [hq.1, hq.2, hh] at p1 p2
          have hle : ¬ m < mi := fun q => p2 m q (by rw [hQ]; exact hz)
          have hne : m ≠ mi := fun q => by rw [← q, hQ, hz] at p1; omega
          have := (hpath mi (by omega)).2
          rw [p1] at this
          exact this hq
        refine ⟨hqm, hqm, hqm, hqm, hk, hk, hqm, ?_⟩
        have fin : ∀ X S, X = nI (m0 + w) → S = uI (uV (uI (uI (uI (uI σ 55 Q (nI s)) 56 Q (nI a)) 57 Q (nI b)) 58 Q (nI (m0 + w))) 11 (nI (m0 + w + 1))) 54 k (nI (w + 1)) → K (some (.int X)) S := by
          rintro X S rfl rfl
          refine h2 hab hnew _ ⟨fun z hz' => ?_, fun j hj => ?_, fun j hj => ?_⟩ ?_
          · rw [sV_uI, sV_uVn hz']; rfl
          · rw [sI_uIn (by omega), sI_uV, sI_uIn (by omega), sI_uIn (by omega), sI_uIn (by omega), sI_uIn (by omega)]
          · rw [sI_uI, upd_ne hj, sI_uV, sI_uIn (by decide), sI_uIn (by decide), sI_uIn (by decide), sI_uIn (by decide)]
          · have e55 : ∀ z, sI (uI (uV (uI (uI (uI (uI σ 55 Q (nI s)) 56 Q (nI a)) 57 Q (nI b)) 58 Q (nI (m0 + w))) 11 (nI (m0 + w + 1))) 54 k (nI (w + 1))) 55 z = upd (sI σ 55) Q (nI s) z := fun z => by
              rw [sI_uIn (by decide), sI_uV, sI_uIn (by decide), sI_uIn (by decide), sI_uIn (by decide), sI_uI]
            have e56 : ∀ z, sI (uI (uV (uI (uI (uI (uI σ 55 Q (nI s)) 56 Q (nI a)) 57 Q (nI b)) 58 Q (nI (m0 + w))) 11 (nI (m0 + w + 1))) 54 k (nI (w + 1))) 56 z = upd (sI σ 56) Q (nI a) z := fun z => by
              rw [sI_uIn (by decide), sI_uV, sI_uIn (by decide), sI_uIn (by decide), sI_uI, sI_uIn (by decide)]
            have e57 : ∀ z, sI (uI (uV (uI (uI (uI (uI σ 55 Q (nI s)) 56 Q (nI a)) 57 Q (nI b)) 58 Q (nI (m0 + w))) 11 (nI (m0 + w + 1))) 54 k (nI (w + 1))) 57 z = upd (sI σ 57) Q (nI b) z := fun z => by
              rw [sI_uIn (by decide), sI_uV, sI_uIn (by decide), sI_uI, sI_uIn (by decide), sI_uIn (by decide)]
            have e58 : ∀ z, sI (uI (uV (uI (uI (uI (uI σ 55 Q (nI s)) 56 Q (nI a)) 57 Q (nI b)) 58 Q (nI (m0 + w))) 11 (nI (m0 + w + 1))) 54 k (nI (w + 1))) 58 z = upd (sI σ 58) Q (nI (m0 + w)) z := fun z => by
              rw [sI_uIn (by decide), sI_uV, sI_uI, sI_uIn (by decide), sI_uIn (by decide), sI_uIn (by decide)]
            refine ⟨?_, ?_, ?_, ?_, ?_, ?_, va_up sl Q (w + 1), ?_, ?_, ?_, ?_, ?_⟩
            · rw [sV_uI, sV_uVn (by decide)]; exact v12
            · rw [sV_uI, sV_uV, Nat.add_assoc]
            · rw [sI_uI, upd_eq]
            · intro i hi'
              by_cases e : i = w
              · rw [e, up_eq, up_eq]; exact ⟨ha, hb, hab⟩
              · rw [up_ne e, up_ne e]; exact hl i (by omega)
            · intro i j hi' hj e1 e2
              by_cases e9 : i = w <;> by_cases e8 : j = w
              · omega
              · rw [e9, up_eq, up_ne e8] at e1 e2
                exact absurd ⟨e1.symm, e2.symm⟩ (hnew j (by omega))
              · rw [up_ne e9, e8, up_eq] at e1 e2
                exact absurd ⟨e1, e2⟩ (hnew i (by omega))
              · rw [up_ne e9, up_ne e8] at e1 e2
                exact hdist i j (by omega) (by omega) e1 e2
            · intro q hq
              rw [e55]
              by_cases e : q = Q
              · rw [e, upd_eq]; exact ⟨s, Nat.le_refl _, rfl⟩
              · rw [upd_ne e]; exact hpl q hq
            · intro q hq
              rw [e55]
              by_cases e : q = Q
              · rw [e, upd_eq, up_eq]; exact ⟨fun _ => by omega, fun _ => rfl⟩
              · rw [upd_ne e, up_ne e]; exact s0 q hq
            · intro q hq
              by_cases e : q = Q
              · rw [e, up_eq]; exact Nat.le_refl _
              · rw [up_ne e]; exact Nat.le_succ_of_le (s2 q hq)
            · intro q hq hne
              rw [e56, e57, e58]
              by_cases e : q = Q
              · rw [e, upd_eq, upd_eq, upd_eq, up_eq, Nat.add_sub_cancel, up_eq, up_eq]; exact ⟨rfl, rfl, rfl⟩
              · rw [up_ne e] at hne ⊢
                have := s2 q hq
                rw [upd_ne e, upd_ne e, upd_ne e, up_ne (by omega), up_ne (by omega)]
                exact s1 q hq hne
            · intro q q' hq hq' e9 e8
              by_cases a1 : q = Q <;> by_cases a2 : q' = Q
              · rw [a1, a2]
              · rw [a1, up_eq, up_ne a2] at e9
                have := s2 q' hq'
                omega
              · rw [up_ne a1, a2, up_eq] at e9
                have := s2 q hq
                omega
              · rw [up_ne a1, up_ne a2] at e9
                rw [up_ne a1] at e8
                exact s3 q q' hq hq' e9 e8
            · intro i hi'
              by_cases e9 : i = w
              · subst e9
                rw [up_eq, up_eq, hh]
                refine ⟨m, by rw [hQ, up_eq], fun m' hm' => ?_⟩
                by_cases a1 : (h0' + m') % 131072 = Q
                · rw [a1, up_eq]; omega
                · rw [up_ne a1]; exact (hpath m' hm').1
              · obtain ⟨mi, p1, p2⟩ := s4 i (by omega)
                rw [up_ne e9, up_ne e9]
                refine ⟨mi, ?_, fun m' hm' => ?_⟩
                · have a1 : ¬ (hsh (lo i) (hi i) + mi) % 131072 = Q := fun q => by rw [q, hz] at p1; omega
                  rw [up_ne a1]
                  exact p1
                · by_cases a1 : (hsh (lo i) (hi i) + m') % 131072 = Q
                  · rw [a1, up_eq]; omega
                  · rw [up_ne a1]; exact p2 m' hm'
        refine fin _ _ ?_ ?_
        · rw [sI_uIn (by decide), sI_uV, sI_uI, upd_eq]
          exact v11
        · have f11 : ∀ τ : St, sV τ = sV σ → sV τ 11 = nI (m0 + w) := fun τ e => by rw [e]; exact v11
          simp only [sV_uI, sI_uV, v11, v12]
          rw [sI_uIn (by decide), sI_uIn (by decide), sI_uIn (by decide), sI_uIn (by decide), v54, nI_1', nI_1']
      · have hz := (s0 Q hqm).mp hused
        obtain ⟨t1, t2, t3⟩ := s1 Q hqm hz
        have hw2 := s2 Q hqm
        have hlq := hl (sl Q - 1) (by omega)
        rw [t1, t2, t3, nI_eq (by omega) (by omega), nI_eq (by omega) (by omega)]
        refine ⟨hqm, fun q => hnext ⟨hz, fun q2 => q q2.1⟩, fun q => ⟨hqm, fun q2 => hnext ⟨hz, fun q3 => q2 q3.2⟩, fun q2 => ⟨hqm, h1 _ (by omega) hab q q2⟩⟩⟩
  have := loop 0 (Nat.zero_le _) (fun m' hm' => absurd hm' (Nat.not_lt_zero _))
  rw [show (h0' + 0) % 131072 = h0' from Nat.mod_eq_of_lt hh0] at this
  exact this
end MOD1

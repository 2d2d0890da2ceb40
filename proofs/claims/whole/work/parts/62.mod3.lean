/-- what forks leaves -/
def Ffr (σ σ' : St) : Prop := (∀ z, z ≠ 11 → z ≠ 12 → sV σ' z = sV σ z) ∧ ∀ z, z < 52 → sI σ' z = sI σ z
def LvS (F : Nat → Nat → Bool) (N a b q : Nat) (σ τ : St) (k m : Nat) (nu : Nat → Nat → Nat) (wk : Nat → Nat) : Prop :=
  Ffr σ τ ∧ sV τ 11 = nI m ∧ m = 2 + sumN wk N ∧ (∀ j, j < k → wk j = 0 ∧ sI τ 54 j = nI 0) ∧ (∀ j, k ≤ j → j < N → sI τ 54 j = nI (wk j) ∧ Wid F N a b j (wk j) ∧ wk j ≤ 8192) ∧ NU F N a b k nu ∧ (∀ r x, a ≤ r → r < b → x < 2 ^ k → sI τ 52 (4096 * r + x) = nI (nu r x) ∧ nu r x < m) ∧ ∃ s, s + k ≤ q + N ∧ sV τ 12 = nI s ∧ ∀ z, z < 131072 → ∃ p, p ≤ s ∧ sI τ 55 z = nI p
section MOD3
variable {g : Ev} {d : Nat} {K : Option Value → St → Prop} {F : Nat → Nat → Bool} {N a b q : Nat} {σ : St}
theorem LvS.le {τ : St} {k m : Nat} {nu : Nat → Nat → Nat} {wk : Nat → Nat} (h12 : N ≤ 12) (h : LvS F N a b q σ τ k m nu wk) : m ≤ 98306 := by
  obtain ⟨-, -, hm, h0, hw, -⟩ := h
  have h1 := sumN_le (f := wk) (m := 8192) (n := N) (fun j hj => by
    by_cases c : j < k
    · rw [(h0 j c).1]; omega
    · exact (hw j (by omega) hj).2.2)
  have h2 : N * 8192 ≤ 12 * 8192 := Nat.mul_le_mul_right _ h12
  omega
theorem m_levels (hN : 1 ≤ N ∧ N ≤ 12) (hab : a ≤ b) (hb : b ≤ 32) (hq : q < 2 ^ 30) (h : ∀ τ nu wk m, LvS F N a b q σ τ 0 m nu wk → K (some (.int (nI (sumN wk N)))) τ) : ∀ k, k ≤ N → ∀ τ m nu wk, LvS F N a b q σ τ k m nu wk → WP g 45 59 (d + 2) M_X3_forks 131 [(0, .ref (eA g 45)), (1, .int (nI a)), (2, .int (nI b)), (5, .int (nI k + (-1)))] [] τ K := by
  intro k
  induction k with
  | zero =>
    intro _ τ m nu wk hL
    refine R_X3_forks_131 g (d + 1) _ _ _ _ K ⟨fun _ => ?_, fun q => absurd (by decide) q⟩
    have := h τ nu wk m hL
    rw [hL.2.1, hL.2.2.1, pk_sub (by omega), Nat.add_sub_cancel_left]
    exact this
  | succ k ih =>
    intro hk τ m nu wk hL
    have hml := hL.le hN.2
    obtain ⟨hf, h11, hm, h0, hw, hNU, hnu, s, hs, h12, hp⟩ := id hL
    rw [pk_m1]
    refine R_X3_forks_131 g (d + 1) _ _ _ _ K ⟨fun q => absurd q (nI_pos (by omega)), fun _ => ?_⟩
    rw [h12, nI_1']
    have rows : ∀ r, r ≤ b → a ≤ r → ∀ τ' w lo hi, FL (uV τ 12 (nI (s + 1))) τ' a b k (s + 1) m nu r 0 w lo hi → WP g 45 59 (d + 2) M_X3_forks 149 [(0, .ref (eA g 45)), (1, .int (nI a)), (2, .int (nI b)), (5, .int (nI k)), (6, .int (nI r))] [] τ' K := by
      refine up_to (P := fun r => a ≤ r → ∀ τ' w lo hi, FL (uV τ 12 (nI (s + 1))) τ' a b k (s + 1) m nu r 0 w lo hi → WP g 45 59 (d + 2) M_X3_forks 149 [(0, .ref (eA g 45)), (1, .int (nI a)), (2, .int (nI b)), (5, .int (nI k)), (6, .int (nI r))] [] τ' K) b ?_ ?_
      · intro _ τ' w lo hi hF
        refine R_X3_forks_149 g (d + 1) _ _ _ _ _ K ⟨fun _ => ?_, fun q => absurd (nI_le (Nat.le_refl _) (by omega)) q⟩
        obtain ⟨f1, f2, f3, f4, f5, f6, f7, f8⟩ := id hF
        have hwb := lvl_bound (F := F) hN.2 (by omega) (by omega) hNU f1.2.2.2.1 f1.2.2.2.2.1 f8
        have ch : ∀ r x, ∃ v, a ≤ r → r < b → x < 2 ^ k → sI τ' 52 (4096 * r + x) = nI v ∧ RS nu m w lo hi r x v := fun r x => by
          by_cases c : a ≤ r ∧ r < b ∧ x < 2 ^ k
          · obtain ⟨v, hv⟩ := f5 r x c.1 c.2.1 c.2.2
            exact ⟨v, fun _ _ _ => hv⟩
          · exact ⟨0, fun c1 c2 c3 => absurd ⟨c1, c2, c3⟩ c⟩
        have hwid := lvl_wid (F := F) (by omega) hNU f1.2.2.2.1 f1.2.2.2.2.1 f8 (fun r x c1 c2 c3 => ⟨_, ((ch r x).choose_spec c1 c2 c3).2⟩)
        have hnn := lvl_NU (F := F) (by omega) hNU (fun r x c1 c2 c3 => (hnu r x c1 c2 c3).2) f1.2.2.2.2.1 (nu' := fun r x => (ch r x).choose) (fun r x c1 c2 c3 => ((ch r x).choose_spec c1 c2 c3).2)
        refine ih (by omega) τ' (m + w) _ (va_up wk k w) ⟨⟨fun z z1 z2 => ?_, fun z hz => ?_⟩, f1.2.1, ?_, fun j hj => ?_, fun j hj hjN => ?_, hnn.1, fun r x c1 c2 c3 => ⟨((ch r x).choose_spec c1 c2 c3).1, hnn.2 r x c1 c2 c3⟩, s + 1, by omega, f1.1, ?_⟩
        · rw [f2 z z1, sV_uVn z2]; exact hf.1 z z1 z2
        · rw [f3 z hz]; exact hf.2 z hz
        · rw [sumN_up (by omega) (h0 k (by omega)).1]; omega
        · rw [up_ne (by omega), f4 j (by omega)]; exact h0 j (by omega)
        · by_cases e : j = k
          · rw [e, up_eq]; exact ⟨f1.2.2.1, hwid, hwb⟩
          · rw [up_ne e, f4 j e]; exact hw j (by omega) hjN
        · exact f1.2.2.2.2.2.1
      · intro r hr ihr har τ' w lo hi hF
        refine R_X3_forks_149 g (d + 1) _ _ _ _ _ K ⟨fun q => absurd ((nI_leI (by omega) (by omega)).mp q) (by omega), fun _ => ?_⟩
        refine m_row (F := F) hN.2 hb (by omega) (by omega) (by omega) hNU (fun r x c1 c2 c3 => (hnu r x c1 c2 c3).2) har hr hF (fun τ'' w'' lo'' hi'' hF' => ihr (by omega) τ'' w'' lo'' hi'' hF')
    refine rows a hab (Nat.le_refl _) _ 0 (fun _ => 0) (fun _ => 0) ⟨PD.start sV_uV ?_ ?_ (by omega) ?_, fun _ _ => rfl, fun _ _ => rfl, fun _ _ => rfl, fun r' x q1 q2 => absurd q2 (by omega), fun r' x q1 q2 q3 => (hnu r' x q1 q2 q3).1, fun x hx => absurd hx (Nat.not_lt_zero _), fun i hi' => absurd hi' (Nat.not_lt_zero _)⟩
    · rw [sV_uVn (by decide)]; exact h11
    · exact (h0 k (by omega)).2
    · intro z hz
      obtain ⟨p, p1, p2⟩ := hp z hz
      exact ⟨p, by omega, p2⟩
theorem bI_toNat (x : Bool) : nI x.toNat = bI x := by cases x <;> rfl
theorem m_getv {r x : Nat} {v : Bool} (hr : r < 32) (hx : x < 4096) (hv : sI σ 46 (4096 * r + x) = bI v) (h : K (some (.int (bI v))) σ) : Runs g 45 59 (d + 1) M_X3_get [.ref (eA g 45), .int (nI r), .int (nI x)] σ K := by
  refine E_X3_get g d _ _ σ K ?_
  rw [pk_mul, nI_add, vp_iff (by omega), nI_clamp (by omega), hv]
  exact ⟨by show 4096 * r + x < 131072; omega, bI_nar _, h⟩
theorem m_forks {x3 : Int32} {k4 : Nat} {o' oi' : Nat → Nat} {G : Nat → Nat → Bool} (hk4 : k4 = 50 ∨ k4 = 51) (hN : 1 ≤ N ∧ N ≤ 12) (h8 : sV σ 8 = nI N) (h9 : sV σ 9 = nI (2 ^ N)) (hp : Prm o' oi' N) (ho : ∀ k, k < N → sI σ k4 k = nI (o' k)) (hab : a ≤ b) (hb : b ≤ 32)
    (hG : ∀ r x, a ≤ r → r < b → x < 2 ^ N → (nI r = x3 → sI σ 47 x = bI (G r x)) ∧ (¬ nI r = x3 → sI σ 46 (4096 * r + x) = bI (G r x))) (hS : MS σ q) (hq : q < 2 ^ 30)
    (h : ∀ τ wk, Ffr σ τ → MS τ (q + 12) → (∀ k, k < N → sI τ 54 k = nI (wk k)) → (∀ k, k < N → Wid (FT G o' N) N a b k (wk k) ∧ wk k ≤ 8192) → sumN wk N ≤ 98304 → K (some (.int (nI (sumN wk N)))) τ) :
    Runs g 45 59 (d + 2) M_X3_forks [.ref (eA g 45), .int (nI a), .int (nI b), .int x3, .ref (eA g k4)] σ K := by
  have hpw := pwN hN.1 hN.2
  obtain ⟨s, hs, h12, hpl⟩ := hS
  refine E_X3_forks g (d + 1) _ _ _ _ σ K ?_
  have lev := m_levels (g := g) (d := d) (K := K) (F := FT G o' N) (N := N) (a := a) (b := b) (q := q) (σ := σ) hN hab hb hq (fun τ nu wk m hL => by
    have hml := hL.le hN.2
    obtain ⟨hf, h11, hm, h0, hw, hNU, hnu, s', hs', h12', hpl'⟩ := hL
    exact h τ wk hf ⟨s', by omega, h12', hpl'⟩ (fun k hk => (hw k (Nat.zero_le _) hk).1) (fun k hk => (hw k (Nat.zero_le _) hk).2) (by omega))
  have l34 : ∀ f54, (∀ y, y < N → f54 y = nI 0) → ∀ i, i ≤ 2 ^ N → ∀ f, (∀ r x, a ≤ r → r < b → x < i → f (4096 * r + x) = bI (FT G o' N r x)) → WP g 45 59 (d + 2) M_X3_forks 34 [(0, .ref (eA g 45)), (1, .int (nI a)), (2, .int (nI b)), (3, .int x3), (4, .ref (eA g k4)), (5, .int (nI i))] [] (uIf (uIf (uV σ 11 (nI 2)) 54 f54) 52 f) K := by
    intro f54 hf54
    have e8 : ∀ f, sV (uIf (uIf (uV σ 11 (nI 2)) 54 f54) 52 f) 8 = nI N := fun f => by rw [sV_uIf, sV_uIf, sV_uVn (by decide)]; exact h8
    have e9 : ∀ f, sV (uIf (uIf (uV σ 11 (nI 2)) 54 f54) 52 f) 9 = nI (2 ^ N) := fun f => by rw [sV_uIf, sV_uIf, sV_uVn (by decide)]; exact h9
    have eI : ∀ f z, z < 52 → sI (uIf (uIf (uV σ 11 (nI 2)) 54 f54) 52 f) z = sI σ z := fun f z hz => by rw [sI_uIfn (by omega), sI_uIfn (by omega), sI_uV]
    refine up_to (P := fun i => ∀ f, (∀ r x, a ≤ r → r < b → x < i → f (4096 * r + x) = bI (FT G o' N r x)) → WP g 45 59 (d + 2) M_X3_forks 34 [(0, .ref (eA g 45)), (1, .int (nI a)), (2, .int (nI b)), (3, .int x3), (4, .ref (eA g k4)), (5, .int (nI i))] [] (uIf (uIf (uV σ 11 (nI 2)) 54 f54) 52 f) K) (2 ^ N) ?_ ?_
    · intro f hf
      refine R_X3_forks_34 g (d + 1) _ _ _ _ _ _ K ⟨fun _ => ?_, fun c => ?_⟩
      · have hx : sV (uIf (uIf (uV σ 11 (nI 2)) 54 f54) 52 f) 8 - nI 1 = nI N + (-1) := by
          rw [e8 f, pk_sub hN.1]
          obtain ⟨n, rfl⟩ : ∃ n, N = n + 1 := ⟨N - 1, by omega⟩
          rw [pk_m1]; rfl
        rw [hx]
        have nr : ∀ r x, (FT G o' N r x).toNat < 2 := fun r x => by cases FT G o' N r x <;> decide
        have n0 : sumN (fun _ => 0) N = 0 := by
          have := sumN_le (f := fun _ => 0) (m := 0) (n := N) (fun _ _ => Nat.le_refl _)
          omega
        refine lev N (Nat.le_refl _) _ 2 (fun r x => (FT G o' N r x).toNat) (fun _ => 0) ⟨⟨fun z z1 z2 => ?_, eI f⟩, ?_, by rw [n0], fun j hj => ⟨rfl, ?_⟩, fun j j1 j2 => absurd j2 (by omega), fun r x r' x' _ _ _ _ _ _ => ?_, fun r x r1 r2 hx' => ⟨?_, nr r x⟩, s, by omega, ?_, ?_⟩
        · rw [sV_uIf, sV_uIf, sV_uVn z1]
        · rw [sV_uIf, sV_uIf, sV_uV]
        · rw [sI_uIfn (by decide), sI_uIf]; exact hf54 j hj
        · rw [Nat.sub_self]
          unfold eqF
          simp only [Nat.pow_zero, Nat.mul_one]
          constructor
          · intro e j hj
            have : j = 0 := by omega
            subst this
            revert e
            show (FT G o' N r x).toNat = (FT G o' N r' x').toNat → FT G o' N r x = FT G o' N r' x'
            cases FT G o' N r x <;> cases FT G o' N r' x' <;> simp
          · intro e
            have : FT G o' N r x = FT G o' N r' x' := e 0 (by omega)
            rw [this]
        · rw [sI_uIf, bI_toNat]; exact hf r x r1 r2 hx'
        · rw [sV_uIf, sV_uIf, sV_uVn (by decide)]; exact h12
        · rw [sI_uIfn (by decide), sI_uIfn (by decide), sI_uV]; exact hpl
      · rw [e9] at c
        exact absurd (nI_le (Nat.le_refl _) (by omega)) c
    · intro i hi ih f hf
      refine R_X3_forks_34 g (d + 1) _ _ _ _ _ _ K ⟨fun c => ?_, fun _ => ?_⟩
      · rw [e9, nI_leI (by omega) (by omega)] at c
        omega
      · refine m_spread (d := d) hk4 hN (e8 f) hp (fun k hk => by rw [eI f _ (by omega)]; exact ho k hk) hi ⟨_, rfl, ?_⟩
        have hsp := spr_lt hp i
        have l56 : ∀ r, r ≤ b → a ≤ r → ∀ f, (∀ r' x, a ≤ r' → r' < b → (x < i ∨ x = i ∧ r' < r) → f (4096 * r' + x) = bI (FT G o' N r' x)) → WP g 45 59 (d + 2) M_X3_forks 56 [(0, .ref (eA g 45)), (1, .int (nI a)), (2, .int (nI b)), (3, .int x3), (4, .ref (eA g k4)), (5, .int (nI i)), (6, .int (nI (spr o' N i))), (7, .int (nI r))] [] (uIf (uIf (uV σ 11 (nI 2)) 54 f54) 52 f) K := by
          refine up_to (P := fun r => a ≤ r → ∀ f, (∀ r' x, a ≤ r' → r' < b → (x < i ∨ x = i ∧ r' < r) → f (4096 * r' + x) = bI (FT G o' N r' x)) → WP g 45 59 (d + 2) M_X3_forks 56 [(0, .ref (eA g 45)), (1, .int (nI a)), (2, .int (nI b)), (3, .int x3), (4, .ref (eA g k4)), (5, .int (nI i)), (6, .int (nI (spr o' N i))), (7, .int (nI r))] [] (uIf (uIf (uV σ 11 (nI 2)) 54 f54) 52 f) K) b ?_ ?_
          · intro _ f hf'
            refine R_X3_forks_56 g (d + 1) _ _ _ _ _ _ _ _ K ⟨fun _ => ?_, fun c => absurd (nI_le (Nat.le_refl _) (by omega)) c⟩
            rw [nI_1']
            exact ih f fun r' x q1 q2 q3 => hf' r' x q1 q2 (by omega)
          · intro r hr ihr har f hf'
            have nx : ∀ v : Bool, v = FT G o' N r i → WP g 45 59 (d + 2) M_X3_forks 56 [(0, .ref (eA g 45)), (1, .int (nI a)), (2, .int (nI b)), (3, .int x3), (4, .ref (eA g k4)), (5, .int (nI i)), (6, .int (nI (spr o' N i))), (7, .int (nI r + nI 1))] [] (uI (uIf (uIf (uV σ 11 (nI 2)) 54 f54) 52 f) 52 (4096 * r + i) (bI v)) K := by
              intro v hv
              rw [nI_1', uI_uIf]
              refine ihr (by omega) _ fun r' x q1 q2 q3 => ?_
              by_cases e : 4096 * r' + x = 4096 * r + i
              · have e1 : r' = r := by omega
                have e2 : x = i := by omega
                rw [e, upd_eq, e1, e2, hv]
              · rw [upd_ne e]
                exact hf' r' x q1 q2 (by omega)
            refine R_X3_forks_56 g (d + 1) _ _ _ _ _ _ _ _ K ⟨fun c => absurd ((nI_leI (by omega) (by omega)).mp c) (by omega), fun _ => ?_⟩
            rw [pk_mul, nI_add, vp_iff (show 4096 * r + i < 2 ^ 31 by omega), nI_clamp (show 4096 * r + i < 2 ^ 31 by omega), vp_iff (by omega), nI_clamp (by omega)]
            have hlen : 4096 * r + i < lenI 52 := by show _ < 131072; omega
            obtain ⟨hg1, hg2⟩ := hG r (spr o' N i) har hr hsp
            refine ⟨fun hne => m_getv (d := d) (v := G r (spr o' N i)) (by omega) (by omega) (by rw [eI f 46 (by omega)]; exact hg2 hne) ⟨_, rfl, fun e0 => ⟨hlen, ?_⟩, fun e0 => ⟨hlen, ?_⟩⟩, fun he => ⟨by show _ < 4096; omega, ?_⟩⟩
            · exact nx false (bI_0.mp e0).symm
            · refine nx true ?_
              rw [bI_0] at e0
              exact (eq_true_of_ne_false e0).symm
            · rw [eI f 47 (by omega), hg1 he, bI_0]
              refine ⟨fun e0 => ⟨hlen, nx false e0.symm⟩, fun e0 => ⟨hlen, nx true (eq_true_of_ne_false e0).symm⟩⟩
        exact l56 a hab (Nat.le_refl _) f fun r' x q1 q2 q3 => hf r' x q1 q2 (by omega)
  have l8 : ∀ k, k ≤ N → ∀ f, (∀ y, y < k → f y = (fun _ => nI 0) y) → WP g 45 59 (d + 2) M_X3_forks 8 [(0, .ref (eA g 45)), (1, .int (nI a)), (2, .int (nI b)), (3, .int x3), (4, .ref (eA g k4)), (5, .int (nI k))] [] (uIf (uV σ 11 (nI 2)) 54 f) K := by
    have e8 : ∀ f, sV (uIf (uV σ 11 (nI 2)) 54 f) 8 = nI N := fun f => by rw [sV_uIf, sV_uVn (by decide)]; exact h8
    refine up_to (P := fun k => ∀ f, (∀ y, y < k → f y = (fun _ => nI 0) y) → WP g 45 59 (d + 2) M_X3_forks 8 [(0, .ref (eA g 45)), (1, .int (nI a)), (2, .int (nI b)), (3, .int x3), (4, .ref (eA g k4)), (5, .int (nI k))] [] (uIf (uV σ 11 (nI 2)) 54 f) K) N ?_ ?_
    · intro f hf
      refine R_X3_forks_8 g (d + 1) _ _ _ _ _ _ K ⟨fun _ => ?_, fun c => ?_⟩
      · have := l34 f hf 0 (Nat.zero_le _) (sI (uIf (uV σ 11 (nI 2)) 54 f) 52) (fun r x _ _ hx => absurd hx (Nat.not_lt_zero _))
        rw [uIf_self] at this
        exact this
      · rw [e8] at c
        exact absurd (nI_le (Nat.le_refl _) (by omega)) c
    · intro k hk ih f hf
      refine R_X3_forks_8 g (d + 1) _ _ _ _ _ _ K ⟨fun c => ?_, fun _ => ?_⟩
      · rw [e8, nI_leI (by omega) (by omega)] at c
        omega
      · rw [vp_iff (by omega), nI_clamp (by omega), nI_1', uI_uIf]
        exact ⟨by show k < 12; omega, ih _ (fill_step rfl hf)⟩
  have := l8 0 (Nat.zero_le _) (sI (uV σ 11 (nI 2)) 54) fill_0
  rw [uIf_self] at this
  exact this
end MOD3

theorem whole_bit {N j b : Nat} (hj : j < 2 ^ (N - 6)) (hb : b < 64) : decide (b < 2 ^ N) = decide (64 * j + b < 2 ^ N) := by
  rcases Nat.lt_or_ge 6 N with h | h
  · have e : 2 ^ N = 64 * 2 ^ (N - 6) := by
      rw [show (64 : Nat) = 2 ^ 6 from rfl, ← Nat.pow_add]
      congr 1
      omega
    have h2 : 2 ^ 6 ≤ 2 ^ N := Nat.pow_le_pow_right (by omega) (by omega)
    have a1 : b < 2 ^ N := by omega
    have a2 : 64 * j + b < 2 ^ N := by omega
    simp [a1, a2]
  · rw [show N - 6 = 0 by omega] at hj
    rw [show j = 0 by omega, Nat.mul_zero, Nat.zero_add]
theorem sbt_sbt (i p : Nat) (a b : Bool) : sbt (sbt i p a) p b = sbt i p b := by
  apply Nat.eq_of_testBit_eq
  intro q
  rw [testBit_sbt, testBit_sbt, testBit_sbt]
  by_cases e : q = p
  · rw [if_pos e, if_pos e]
  · rw [if_neg e, if_neg e, if_neg e]
theorem sbt_lt_iff {i p n : Nat} {b : Bool} (hp : p < n) : sbt i p b < 2 ^ n ↔ i < 2 ^ n := by
  constructor
  · intro h
    have := sbt_lt (b := i.testBit p) h hp
    rw [sbt_sbt, sbt_self rfl] at this
    exact this
  · intro h
    exact sbt_lt h hp
theorem swb_lt_iff {i p q n : Nat} (hp : p < n) (hq : q < n) : swb i p q < 2 ^ n ↔ i < 2 ^ n := by
  unfold swb
  rw [sbt_lt_iff hq, sbt_lt_iff hp]
theorem all64 (N : Nat) : 64 * 2 ^ (N - 6) = 2 ^ (6 + (N - 6)) := by rw [Nat.pow_add]
/-- what a call that makes a table for register j answers, and leaves -/
def KP (N cap : Nat) (T : Nat → Nat → Bool) (o oi c : Nat → Nat) (P : Nat → Bool) (j : Nat) (h : Nat → Bool) (K : Option Value → St → Prop) : Prop :=
  (∀ σ', InvX σ' N cap (va_up T j h) o oi c (fun _ => false) → (∀ wk, (∀ k, k < N → Wid (FT (va_up T j h) o N) N 0 32 k (wk k)) → sumN wk N ≤ cap) → K (some (.int (nI 0))) σ') ∧
  ∀ σ', InvX σ' N cap T o oi c P → (∀ wk, (∀ k, k < N → Wid (FT (va_up T j h) o N) N 0 32 k (wk k)) → cap < sumN wk N) → K (some (.int (-8))) σ'
def isR (x : Int32) : Prop := ∃ j, j < 32 ∧ x = nI j
def isIn (n : Nat) (x : Int32) : Prop := ∃ j, j < n ∧ x = nI j
theorem isIn_nI {n j : Nat} (h : j < n) : isIn n (nI j) := ⟨j, h, rfl⟩
theorem vp32 : vp_in (nI 32) 34 := (vp_iff (by omega)).mpr (by omega)
theorem n10 : ¬ (nI 1 = nI 0) := by decide
section CLS2
variable {g : Ev} {d : Nat} {σ : St} {K : Option Value → St → Prop} {N cap : Nat} {T : Nat → Nat → Bool} {o oi c : Nat → Nat} {P : Nat → Bool}
theorem sp_keepP {j : Nat} {h : Nat → Bool} (hI : InvX σ N cap T o oi c P) (hj : j < 32) (f : Nat → Int64) (hsp : ∀ q, q < 2 ^ (N - 6) → ∀ b, b < 64 → bt (f q) b = (decide (64 * q + b < 2 ^ N) && h (spr o N (64 * q + b)))) (hK : KP N cap T o oi c P j h K) : Runs g 0 45 (d + 6) M_X2_keep [.ref (eA g 0), .int (nI j)] (uLf σ 43 f) (fun r1 σ1 => ∃ v1 : Int32, r1 = some (.int v1) ∧ K (some (.int v1)) σ1) :=
  sp_keep (h := h) hI.spare hj (fun i hi => by
    obtain ⟨a, b, rfl, hb⟩ := split64 i
    show tb (sL (uLf σ 43 f) 43) _ = _
    rw [sL_uLf, tb_at _ hb]
    exact hsp a (by omega) b hb) (fun σ' a b => ⟨_, rfl, hK.1 σ' a b⟩) (fun σ' a b => ⟨_, rfl, hK.2 σ' a b⟩)
theorem X_constant {x1 : Int32} {y : Bool} (hI : InvX σ N cap T o oi c P) (hbad : ¬ isR x1 → K (some (.int (-2))) σ) (hok : ∀ j, j < 32 → x1 = nI j → ∀ σ', InvX σ' N cap (va_up T j (fun _ => y)) o oi c (fun _ => false) → K (some (.int (nI 0))) σ') : Runs g 0 45 (d + 3) M_X2_constant [.ref (eA g 0), .int x1, .int (bI y)] σ K := by
  obtain ⟨hB, hT, hP⟩ := id hI
  have hpw := pwN hB.1.1 hB.1.2
  refine E_X2_constant g (d + 2) _ _ σ K (sp_isReg (d := d + 1) (fun j hj e => ⟨_, rfl, fun _ => ?_, fun q => absurd q n10⟩) (fun hn => ⟨_, rfl, fun q => absurd rfl q, fun _ => hbad hn⟩))
  subst e
  have fin : ∀ w : Int64, (∀ b, b < 64 → bt w b = (decide (b < 2 ^ N) && y)) → Runs g 0 45 (d + 2) M_J7_fill_bad5a [.ref (eA g (11 + j)), .int (nI 0), .int (nI (2 ^ (N - 6))), .long w] σ (fun r2 σ2 => r2 = none ∧ Runs g 0 45 (d + 2) M_X2_restPointer [.ref (eA g 0)] σ2 (fun r3 σ3 => r3 = none ∧ K (some (.int (nI 0))) σ3)) := by
    intro w hw
    refine sp_fillLr (lenJ_t (by omega)) hpw.2.2.2.2.2 (fun f h1 h2 => ⟨rfl, sp_rest ⟨rfl, hok j hj rfl _ (InvX.rest hB ?_)⟩⟩)
    refine XT.put hj hT (fun i hi => ?_)
    obtain ⟨a, b, rfl, hb⟩ := split64 i
    rw [tb_at _ hb, h1 a (by omega), hw b hb, whole_bit (j := a) (by omega) hb]
  rw [vp_iff (by omega), nI_clamp (by omega), hB.2.2.2.2.1, bI_0]
  refine ⟨by omega, fun hy => fin 0 fun b hb => ?_, fun hy => fin _ fun b hb => ?_⟩
  · rw [bt_0, hy, Bool.and_false]
  · rw [hB.2.2.2.2.2.1 b hb, show y = true by simpa using hy, Bool.and_true]
theorem X_letter {x1 x2 : Int32} (hI : InvX σ N cap T o oi c P) (hbad : ¬ (isR x1 ∧ isIn N x2) → K (some (.int (-2))) σ) (hok : ∀ j v, j < 32 → v < N → x1 = nI j → x2 = nI v → KP N cap T o oi c P j (fun x => x.testBit v) K) : Runs g 0 45 (d + 7) M_X2_letter [.ref (eA g 0), .int x1, .int x2] σ K := by
  obtain ⟨hB, hT, hP⟩ := id hI
  have hpw := pwN hB.1.1 hB.1.2
  have hN := hB.1
  have hp := hB.2.2.2.2.2.2.2.1
  refine E_X2_letter g (d + 6) _ _ σ K (sp_isReg (d := d + 5) (fun j hj e => ⟨_, rfl, fun q => absurd q n10, fun _ => ?_⟩) (fun hn => ⟨_, rfl, fun _ => hbad (fun q => hn q.1), fun q => absurd rfl q⟩))
  refine sp_isLetter (d := d + 5) hB (fun v hv e2 => ⟨_, rfl, fun _ => ?_, fun q => absurd q n10⟩) (fun hn => ⟨_, rfl, fun q => absurd rfl q, fun _ => hbad (fun q => hn q.2)⟩)
  subst e e2
  have hov := (hp.2 v hv).1
  have hK := hok j v hj hv rfl rfl
  refine sp_placeOf (d := d + 4) hB hv ⟨_, rfl, vp32, ?_⟩
  rw [cy43]
  have loop : ∀ q, q ≤ 2 ^ (N - 6) → ∀ f, (∀ q', q' < q → ∀ b, b < 64 → bt (f q') b = (decide (64 * q' + b < 2 ^ N) && (spr o N (64 * q' + b)).testBit v)) → WP g 0 45 (d + 7) M_X2_letter 36 [(0, .ref (eA g 0)), (1, .int (nI j)), (3, .int (nI (N - 1 - oi v))), (4, .ref (eA g 43)), (5, .int (nI q))] [] (uLf σ 43 f) K := by
    refine up_to (P := fun q => ∀ f, (∀ q', q' < q → ∀ b, b < 64 → bt (f q') b = (decide (64 * q' + b < 2 ^ N) && (spr o N (64 * q' + b)).testBit v)) → WP g 0 45 (d + 7) M_X2_letter 36 [(0, .ref (eA g 0)), (1, .int (nI j)), (3, .int (nI (N - 1 - oi v))), (4, .ref (eA g 43)), (5, .int (nI q))] [] (uLf σ 43 f) K) (2 ^ (N - 6)) ?_ ?_
    · intro f hf
      refine R_X2_letter_36 g (d + 6) _ _ _ _ _ K ⟨fun _ => sp_keepP hI hj f hf hK, fun q => ?_⟩
      rw [sV_uLf, hB.2.2.2.2.1] at q
      exact absurd (nI_le (Nat.le_refl _) (by omega)) q
    · intro q hq ih f hf
      refine R_X2_letter_36 g (d + 6) _ _ _ _ _ K ⟨fun z => ?_, fun _ => ?_⟩
      · rw [sV_uLf, hB.2.2.2.2.1] at z
        exact absurd ((nI_leI (by omega) (by omega)).mp z) (by omega)
      · refine sp_letterWord (d := d + 5) (by omega) (by omega) (fun w hw => ⟨w, rfl, ?_⟩)
        rw [vp_iff (by omega), nI_1', nI_clamp (by omega), uL_is, uLf_uLf, sL_uLf, sW_uLf]
        refine ⟨by show q < 64; omega, ih _ fun q' hq' b hb => ?_⟩
        by_cases e : q' = q
        · subst e
          rw [updL_eq, bt_and, hw b hb, hB.2.2.2.2.2.1 b hb, whole_bit hq hb, spr_bit hp hv, Bool.and_comm]
        · rw [updL_ne e]
          exact hf q' (by omega) b hb
  have := loop 0 (Nat.zero_le _) (sL σ 43) (fun q hq => absurd hq (Nat.not_lt_zero _))
  rw [uLf_self] at this
  exact this
/-- a register's bit -/
theorem tab_bit {a q b : Nat} (hT : XT (sL σ) N T o) (ha : a < 32) (hq : q < 2 ^ (N - 6)) (hb : b < 64) : bt (sL σ (11 + a) q) b = (decide (64 * q + b < 2 ^ N) && T a (spr o N (64 * q + b))) := by
  have := hT.1 a ha (64 * q + b) (by omega)
  rw [tb_at _ hb] at this
  exact this
theorem X_join {x1 x2 x3 x4 : Int32} (hI : InvX σ N cap T o oi c P) (hbad : ¬ (isR x1 ∧ isR x2 ∧ isR x3 ∧ isIn 16 x4) → K (some (.int (-2))) σ) (hok : ∀ j a b t, j < 32 → a < 32 → b < 32 → t < 16 → x1 = nI j → x2 = nI a → x3 = nI b → x4 = nI t → KP N cap T o oi c P j (fun x => t.testBit ((if T a x then 1 else 0) + (if T b x then 2 else 0))) K) : Runs g 0 45 (d + 7) M_X2_join [.ref (eA g 0), .int x1, .int x2, .int x3, .int x4] σ K := by
  obtain ⟨hB, hT, hP⟩ := id hI
  have hpw := pwN hB.1.1 hB.1.2
  have hN := hB.1
  refine E_X2_join g (d + 6) _ _ _ _ σ K (sp_isReg (d := d + 5) (fun j hj e => ⟨_, rfl, fun q => absurd q n10, fun _ => ?_⟩) (fun hn => ⟨_, rfl, fun _ => hbad (fun q => hn q.1), fun q => absurd rfl q⟩))
  refine sp_isReg (d := d + 5) (fun a ha e2 => ⟨_, rfl, fun q => absurd q n10, fun _ => ?_⟩) (fun hn => ⟨_, rfl, fun _ => hbad (fun q => hn q.2.1), fun q => absurd rfl q⟩)
  refine sp_isReg (d := d + 5) (fun b hb e3 => ⟨_, rfl, fun q => absurd q n10, fun _ => ?_⟩) (fun hn => ⟨_, rfl, fun _ => hbad (fun q => hn q.2.2.1), fun q => absurd rfl q⟩)
  have bad4 : ¬ (nI 0 ≤ x4 ∧ x4 < nI 16) → K (some (.int (-2))) σ := fun hq => hbad fun ⟨_, _, _, t, ht, e4⟩ => hq (by rw [e4]; exact nI_rng ht (by omega))
  rcases (nI_cases x4 (n := 16) (by omega)).symm with hx4 | ⟨t, ht, e4⟩
  · refine ⟨fun _ => bad4 hx4, fun q => ⟨fun q2 => absurd ⟨Int32.not_lt.mp q, ?_⟩ hx4, fun _ => bad4 hx4⟩⟩
    have h15 := Int32.le_iff_toInt_le.mp q2
    refine Int32.lt_iff_toInt_lt.mpr ?_
    have e15 : (nI 15).toInt = 15 := by decide
    have e16 : (nI 16).toInt = 16 := by decide
    omega
  subst e e2 e3 e4
  have hK := hok j a b t hj ha hb ht rfl rfl rfl rfl
  refine ⟨fun q => absurd q (nI_pos (by omega)), fun _ => ⟨fun _ => ⟨vp32, ?_⟩, fun q => absurd (nI_le (by omega) (by omega)) q⟩⟩
  rw [cy43]
  have loop : ∀ q, q ≤ 2 ^ (N - 6) → ∀ f, (∀ q', q' < q → ∀ z, z < 64 → bt (f q') z = (decide (64 * q' + z < 2 ^ N) && t.testBit ((if T a (spr o N (64 * q' + z)) then 1 else 0) + (if T b (spr o N (64 * q' + z)) then 2 else 0)))) → WP g 0 45 (d + 7) M_X2_join 48 [(0, .ref (eA g 0)), (1, .int (nI j)), (2, .int (nI a)), (3, .int (nI b)), (4, .int (nI t)), (5, .ref (eA g 43)), (6, .int (nI q))] [] (uLf σ 43 f) K := by
    refine up_to (P := fun q => ∀ f, (∀ q', q' < q → ∀ z, z < 64 → bt (f q') z = (decide (64 * q' + z < 2 ^ N) && t.testBit ((if T a (spr o N (64 * q' + z)) then 1 else 0) + (if T b (spr o N (64 * q' + z)) then 2 else 0)))) → WP g 0 45 (d + 7) M_X2_join 48 [(0, .ref (eA g 0)), (1, .int (nI j)), (2, .int (nI a)), (3, .int (nI b)), (4, .int (nI t)), (5, .ref (eA g 43)), (6, .int (nI q))] [] (uLf σ 43 f) K) (2 ^ (N - 6)) ?_ ?_
    · intro f hf
      refine R_X2_join_48 g (d + 6) _ _ _ _ _ _ _ K ⟨fun _ => sp_keepP hI hj f hf hK, fun q => ?_⟩
      rw [sV_uLf, hB.2.2.2.2.1] at q
      exact absurd (nI_le (Nat.le_refl _) (by omega)) q
    · intro q hq ih f hf
      refine R_X2_join_48 g (d + 6) _ _ _ _ _ _ _ K ⟨fun z => ?_, fun _ => ?_⟩
      · rw [sV_uLf, hB.2.2.2.2.1] at z
        exact absurd ((nI_leI (by omega) (by omega)).mp z) (by omega)
      · rw [vp_iff (by omega), vp_iff (by omega), vp_iff (by omega), vp_iff (by omega), nI_clamp (by omega), nI_clamp (by omega), nI_clamp (by omega), lenJ_t (by omega), lenJ_t (by omega)]
        refine ⟨by omega, by omega, by omega, by omega, sp_joinedWord (d := d + 5) ht (fun w hw => ⟨w, rfl, ?_⟩)⟩
        rw [vp_iff (by omega), nI_1', uL_is, uLf_uLf, sL_uLf, sW_uLf]
        refine ⟨by show q < 64; omega, ih _ fun q' hq' z hz => ?_⟩
        by_cases e : q' = q
        · subst e
          rw [updL_eq, bt_and, hw z hz, hB.2.2.2.2.2.1 z hz, whole_bit hq hz, sL_uLfn (by omega), sL_uLfn (by omega), tab_bit hT ha hq hz, tab_bit hT hb hq hz]
          by_cases hlt : 64 * q' + z < 2 ^ N
          · simp [hlt]
          · simp [hlt]
        · rw [updL_ne e]
          exact hf q' (by omega) z hz
  have := loop 0 (Nat.zero_le _) (sL σ 43) (fun q hq => absurd hq (Nat.not_lt_zero _))
  rw [uLf_self] at this
  exact this
theorem X_fork {x1 x2 x3 x4 : Int32} (hI : InvX σ N cap T o oi c P) (hbad : ¬ (isR x1 ∧ isR x2 ∧ isR x3 ∧ isR x4) → K (some (.int (-2))) σ) (hok : ∀ j a b e, j < 32 → a < 32 → b < 32 → e < 32 → x1 = nI j → x2 = nI a → x3 = nI b → x4 = nI e → KP N cap T o oi c P j (fun x => if T a x then T b x else T e x) K) : Runs g 0 45 (d + 7) M_X2_fork [.ref (eA g 0), .int x1, .int x2, .int x3, .int x4] σ K := by
  obtain ⟨hB, hT, hP⟩ := id hI
  have hpw := pwN hB.1.1 hB.1.2
  have hN := hB.1
  refine E_X2_fork g (d + 6) _ _ _ _ σ K (sp_isReg (d := d + 5) (fun j hj e1 => ⟨_, rfl, fun q => absurd q n10, fun _ => ?_⟩) (fun hn => ⟨_, rfl, fun _ => hbad (fun q => hn q.1), fun q => absurd rfl q⟩))
  refine sp_isReg (d := d + 5) (fun a ha e2 => ⟨_, rfl, fun q => absurd q n10, fun _ => ?_⟩) (fun hn => ⟨_, rfl, fun _ => hbad (fun q => hn q.2.1), fun q => absurd rfl q⟩)
  refine sp_isReg (d := d + 5) (fun b hb e3 => ⟨_, rfl, fun q => absurd q n10, fun _ => ?_⟩) (fun hn => ⟨_, rfl, fun _ => hbad (fun q => hn q.2.2.1), fun q => absurd rfl q⟩)
  refine sp_isReg (d := d + 5) (fun e0 he e4 => ⟨_, rfl, fun _ => ?_, fun q => absurd q n10⟩) (fun hn => ⟨_, rfl, fun q => absurd rfl q, fun _ => hbad (fun q => hn q.2.2.2)⟩)
  subst e1 e2 e3 e4
  have hK := hok j a b e0 hj ha hb he rfl rfl rfl rfl
  refine ⟨vp32, ?_⟩
  rw [cy43]
  have loop : ∀ q, q ≤ 2 ^ (N - 6) → ∀ f, (∀ q', q' < q → ∀ z, z < 64 → bt (f q') z = (decide (64 * q' + z < 2 ^ N) && (if T a (spr o N (64 * q' + z)) then T b (spr o N (64 * q' + z)) else T e0 (spr o N (64 * q' + z))))) → WP g 0 45 (d + 7) M_X2_fork 44 [(0, .ref (eA g 0)), (1, .int (nI j)), (2, .int (nI a)), (3, .int (nI b)), (4, .int (nI e0)), (5, .ref (eA g 43)), (6, .int (nI q))] [] (uLf σ 43 f) K := by
    refine up_to (P := fun q => ∀ f, (∀ q', q' < q → ∀ z, z < 64 → bt (f q') z = (decide (64 * q' + z < 2 ^ N) && (if T a (spr o N (64 * q' + z)) then T b (spr o N (64 * q' + z)) else T e0 (spr o N (64 * q' + z))))) → WP g 0 45 (d + 7) M_X2_fork 44 [(0, .ref (eA g 0)), (1, .int (nI j)), (2, .int (nI a)), (3, .int (nI b)), (4, .int (nI e0)), (5, .ref (eA g 43)), (6, .int (nI q))] [] (uLf σ 43 f) K) (2 ^ (N - 6)) ?_ ?_
    · intro f hf
      refine R_X2_fork_44 g (d + 6) _ _ _ _ _ _ _ K ⟨fun _ => sp_keepP hI hj f hf hK, fun q => ?_⟩
      rw [sV_uLf, hB.2.2.2.2.1] at q
      exact absurd (nI_le (Nat.le_refl _) (by omega)) q
    · intro q hq ih f hf
      refine R_X2_fork_44 g (d + 6) _ _ _ _ _ _ _ K ⟨fun z => ?_, fun _ => ?_⟩
      · rw [sV_uLf, hB.2.2.2.2.1] at z
        exact absurd ((nI_leI (by omega) (by omega)).mp z) (by omega)
      · rw [vp_iff (by omega), vp_iff (by omega), vp_iff (by omega), vp_iff (by omega), vp_iff (by omega), vp_iff (by omega), nI_clamp (by omega), nI_clamp (by omega), nI_clamp (by omega), nI_clamp (by omega), lenJ_t (by omega), lenJ_t (by omega), lenJ_t (by omega)]
        refine ⟨by omega, by omega, by omega, by omega, by omega, by omega, sp_chosenWord (d := d + 5) (fun w hw => ⟨w, rfl, ?_⟩)⟩
        rw [vp_iff (by omega), nI_1', uL_is, uLf_uLf, sL_uLf]
        refine ⟨by show q < 64; omega, ih _ fun q' hq' z hz => ?_⟩
        by_cases e : q' = q
        · subst e
          rw [updL_eq, hw z hz, sL_uLfn (by omega), sL_uLfn (by omega), sL_uLfn (by omega), tab_bit hT ha hq hz, tab_bit hT hb hq hz, tab_bit hT he hq hz]
          by_cases hlt : 64 * q' + z < 2 ^ N
          · simp [hlt]
          · simp [hlt]
        · rw [updL_ne e]
          exact hf q' (by omega) z hz
  have := loop 0 (Nat.zero_le _) (sL σ 43) (fun q hq => absurd hq (Nat.not_lt_zero _))
  rw [uLf_self] at this
  exact this
theorem X_copy {x1 x2 : Int32} (hI : InvX σ N cap T o oi c P) (hbad : ¬ (isR x1 ∧ isR x2) → K (some (.int (-2))) σ) (hok : ∀ j a, j < 32 → a < 32 → x1 = nI j → x2 = nI a → ∀ σ', InvX σ' N cap (va_up T j (T a)) o oi c (fun _ => false) → K (some (.int (nI 0))) σ') : Runs g 0 45 (d + 3) M_X2_copy [.ref (eA g 0), .int x1, .int x2] σ K := by
  obtain ⟨hB, hT, hP⟩ := id hI
  have hpw := pwN hB.1.1 hB.1.2
  refine E_X2_copy g (d + 2) _ _ σ K (sp_isReg (d := d + 1) (fun j hj e => ⟨_, rfl, fun q => absurd q n10, fun _ => ?_⟩) (fun hn => ⟨_, rfl, fun _ => hbad (fun q => hn q.1), fun q => absurd rfl q⟩))
  refine sp_isReg (d := d + 1) (fun a ha e2 => ⟨_, rfl, fun _ => ?_, fun q => absurd q n10⟩) (fun hn => ⟨_, rfl, fun q => absurd rfl q, fun _ => hbad (fun q => hn q.2)⟩)
  subst e e2
  rw [vp_iff (by omega), vp_iff (by omega), nI_clamp (by omega), nI_clamp (by omega), nI_clamp (by omega), hB.2.2.2.2.1, nI_clamp (by omega), lenJ_t (by omega), lenJ_t (by omega)]
  refine ⟨by omega, by omega, ⟨by omega, by omega, by decide, by decide, nI_pos (by omega), by omega, by omega⟩, sp_rest (d := d) ⟨rfl, hok j a hj ha rfl rfl _ (InvX.rest hB (hT.put hj fun i hi => ?_))⟩⟩
  obtain ⟨q, b, rfl, hb⟩ := split64 i
  have hq : q < 2 ^ (N - 6) := by omega
  rw [tb_at _ hb, pk_cpy_in (by omega) (by omega), show 0 + (q - 0) = q by omega, tab_bit hT ha hq hb]
end CLS2

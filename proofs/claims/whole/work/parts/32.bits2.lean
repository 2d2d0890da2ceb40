theorem uLf_uLf {σ : St} {k : Nat} {f f' : Nat → Int64} : uLf (uLf σ k f) k f' = uLf σ k f' := by
  unfold uLf
  rw [bx_uu]
theorem uL_is {σ : St} {k i : Nat} {x : Int64} : uL σ k i x = uLf σ k (vp_updL (sL σ k) i x) := rfl
theorem uLf_self {σ : St} {k : Nat} : uLf σ k (sL σ k) = σ := by
  obtain ⟨a, b, c⟩ := σ
  unfold uLf sL
  congr 2
  funext j
  by_cases h : j = k
  · subst h; exact up_eq
  · exact up_ne h
/-- all bits of a table that are used, of a table made of another -/
theorem swb_lo {j b p q : Nat} (hb : b < 64) (hp : p < 6) (hq : q < 6) : swb (64 * j + b) p q = 64 * j + swb b p q := by
  unfold swb
  rw [sbt_lo hb hp, sbt_lo (sbt_lt (n := 6) hb hp) hq, tbw hb, tbw hb, if_pos hp, if_pos hq]
theorem swb_hi {j b p q : Nat} (hb : b < 64) (hp : 6 ≤ p) (hq : 6 ≤ q) : swb (64 * j + b) p q = 64 * swb j (p - 6) (q - 6) + b := by
  unfold swb
  rw [sbt_hi hb hp, sbt_hi hb hq, tbw hb, tbw hb, if_neg (by omega), if_neg (by omega)]
theorem swb_mid {j b p q : Nat} (hb : b < 64) (hp : 6 ≤ p) (hq : q < 6) : swb (64 * j + b) p q = 64 * sbt j (p - 6) (b.testBit q) + sbt b q (j.testBit (p - 6)) := by
  unfold swb
  rw [sbt_hi hb hp, sbt_lo hb hq, tbw hb, tbw hb, if_pos hq, if_neg (by omega)]
theorem xin_key : ∀ (p : Fin 6) (q : Fin 6) (b : Fin 64), q.1 < p.1 → (b.1.testBit p.1 = b.1.testBit q.1 → swb b.1 p.1 q.1 = b.1) ∧ (b.1.testBit p.1 = false → b.1.testBit q.1 = true → swb b.1 p.1 q.1 = b.1 + (2 ^ p.1 - 2 ^ q.1) ∧ b.1 + (2 ^ p.1 - 2 ^ q.1) < 64) ∧ (b.1.testBit p.1 = true → b.1.testBit q.1 = false → swb b.1 p.1 q.1 = b.1 - (2 ^ p.1 - 2 ^ q.1) ∧ 2 ^ p.1 - 2 ^ q.1 ≤ b.1 ∧ (b.1 - (2 ^ p.1 - 2 ^ q.1)).testBit q.1 = true ∧ (b.1 - (2 ^ p.1 - 2 ^ q.1)).testBit p.1 = false) ∧ (¬ (b.1.testBit p.1 = true ∧ b.1.testBit q.1 = false) → 2 ^ p.1 - 2 ^ q.1 ≤ b.1 → ((b.1 - (2 ^ p.1 - 2 ^ q.1)).testBit q.1 && !(b.1 - (2 ^ p.1 - 2 ^ q.1)).testBit p.1) = false) ∧ 2 ^ p.1 - 2 ^ q.1 < 64 := by decide +kernel
theorem xin (w : Int64) {p q b : Nat} (hpq : q < p) (hp : p < 6) (hb : b < 64) : bt ((w ^^^ ((jlushr w (nI (2 ^ p - 2 ^ q)) ^^^ w) &&& (fONE q &&& (fONE p ^^^ (-1))))) ^^^ (jlshl ((jlushr w (nI (2 ^ p - 2 ^ q)) ^^^ w) &&& (fONE q &&& (fONE p ^^^ (-1)))) (nI (2 ^ p - 2 ^ q)))) b = bt w (swb b p q) := by
  obtain ⟨a1, a2, a3, a4, hs⟩ := xin_key ⟨p, hp⟩ ⟨q, by omega⟩ ⟨b, hb⟩ hpq
  simp only at a1 a2 a3 a4 hs
  have hm : ∀ z, z < 64 → bt (fONE q &&& (fONE p ^^^ (-1))) z = (z.testBit q && !z.testBit p) := fun z hz => by rw [bt_and, bt_not hz, bt_ONE hp hz, bt_ONE (by omega) hz]
  generalize fONE q &&& (fONE p ^^^ (-1)) = m at hm ⊢
  generalize 2 ^ p - 2 ^ q = D at a1 a2 a3 a4 hs ⊢
  rw [bt_xor, bt_xor, bt_shl hs, bt_and, bt_and, bt_xor, bt_xor, bt_ushr hs, bt_ushr hs, hm b hb, hm (b - D) (by omega)]
  cases hbp : b.testBit p <;> cases hbq : b.testBit q
  · rw [a1 (by rw [hbp, hbq])]
    by_cases hle : D ≤ b
    · rw [a4 (by simp [hbp]) hle]
      cases bt w b <;> simp
    · simp [show b < D by omega]
  · obtain ⟨e1, e2⟩ := a2 hbp hbq
    rw [e1]
    by_cases hle : D ≤ b
    · rw [a4 (by simp [hbp]) hle]
      cases bt w b <;> cases bt w (b + D) <;> simp
    · cases bt w b <;> cases bt w (b + D) <;> simp [show b < D by omega]
  · obtain ⟨e1, e2, e3, e4⟩ := a3 hbp hbq
    rw [e1, e3, e4, Nat.sub_add_cancel e2]
    cases bt w b <;> cases bt w (b - D) <;> simp [show ¬ b < D by omega, hb]
  · rw [a1 (by rw [hbp, hbq])]
    by_cases hle : D ≤ b
    · rw [a4 (by simp [hbq]) hle]
      cases bt w b <;> simp
    · cases bt w b <;> simp [show b < D by omega]
theorem or_add : ∀ (n : Fin 64) (r : Fin 6), n.1.testBit r.1 = false → n.1 + 2 ^ r.1 = sbt n.1 r.1 true := by decide +kernel
theorem xw_key : ∀ (r s : Fin 6) (n : Fin 64), s.1 < r.1 → (n.1.testBit r.1 = n.1.testBit s.1 → swb n.1 r.1 s.1 = n.1) ∧ (n.1.testBit r.1 = false → n.1.testBit s.1 = true → swb n.1 r.1 s.1 = n.1 + 2 ^ r.1 - 2 ^ s.1 ∧ n.1 < swb n.1 r.1 s.1) ∧ (n.1.testBit r.1 = true → n.1.testBit s.1 = false → swb n.1 r.1 s.1 < n.1) := by decide +kernel
theorem and_bit {n r : Nat} (hn : n < 2 ^ 31) : (nI n &&& nI (2 ^ r) = nI 0) ↔ n.testBit r = false := by
  rw [nI_and, nI_eq (by have := @Nat.and_le_left n (2 ^ r); omega) (by omega)]
  constructor
  · intro e
    have := congrArg (fun z => z.testBit r) e
    simpa using this
  · intro e
    apply Nat.eq_of_testBit_eq
    intro z
    rw [Nat.testBit_and, Nat.testBit_two_pow, Nat.zero_testBit]
    by_cases hz : r = z
    · subst hz; simp [e]
    · simp [hz]
section BITS2
variable {g : Ev} {d : Nat} {σ : St} {K : Option Value → St → Prop}
theorem sp_inWords {k W p q : Nat} (hk : lenJ k = 64) (hW : W ≤ 64) (hpq : q < p) (hp : p < 6) (h : ∀ f, (∀ i, i < 64 * W → tb f i = tb (sL σ k) (swb i p q)) → (∀ j, W ≤ j → f j = sL σ k j) → K none (uLf σ k f)) : Runs g 0 45 (d + 1) M_X0_exchangeInWords [.ref (eA g k), .int (nI W), .int (nI p), .int (nI q)] σ K := by
  have h2p : 2 ^ p ≤ 32 := (Nat.pow_le_pow_right (by omega) (by omega) : 2 ^ p ≤ 2 ^ 5)
  have h2q : 2 ^ q < 2 ^ p := Nat.pow_lt_pow_right (by omega) hpq
  refine E_X0_exchangeInWords g d _ _ _ _ σ K ?_
  rw [vp_iff (by omega), vp_iff (by omega), nI_clamp (by omega), nI_clamp (by omega), jshl1 (by omega), jshl1 (by omega), pk_sub (by omega)]
  refine ⟨by omega, hp, ?_⟩
  have loop : ∀ n, n ≤ W → ∀ f, (∀ j, j < n → ∀ b, b < 64 → bt (f j) b = tb (sL σ k) (swb (64 * j + b) p q)) → (∀ j, n ≤ j → f j = sL σ k j) → WP g 0 45 (d + 1) M_X0_exchangeInWords 29 [(0, .ref (eA g k)), (1, .int (nI W)), (4, .int (nI (2 ^ p - 2 ^ q))), (5, .long (fONE q &&& (fONE p ^^^ (-1)))), (7, .int (nI n))] [] (uLf σ k f) K := by
    intro n hn
    refine up_to (P := fun n => ∀ f, (∀ j, j < n → ∀ b, b < 64 → bt (f j) b = tb (sL σ k) (swb (64 * j + b) p q)) → (∀ j, n ≤ j → f j = sL σ k j) → WP g 0 45 (d + 1) M_X0_exchangeInWords 29 [(0, .ref (eA g k)), (1, .int (nI W)), (4, .int (nI (2 ^ p - 2 ^ q))), (5, .long (fONE q &&& (fONE p ^^^ (-1)))), (7, .int (nI n))] [] (uLf σ k f) K) W ?_ ?_ n hn
    · intro f h1 h2
      refine R_X0_exchangeInWords_29 g d _ _ _ _ _ _ K ⟨fun _ => h f (fun i hi => ?_) h2, fun c => absurd (nI_le (Nat.le_refl _) (by omega)) c⟩
      obtain ⟨j, b, rfl, hb⟩ := split64 i
      rw [tb_at _ hb]
      exact h1 j (by omega) b hb
    · intro n hn ih f h1 h2
      refine R_X0_exchangeInWords_29 g d _ _ _ _ _ _ K ⟨fun c => absurd ((nI_leI (by omega) (by omega)).mp c) (by omega), fun _ => ?_⟩
      rw [hk, vp_iff (by omega), nI_clamp (by omega), nI_1' , uL_is, uLf_uLf, sL_uLf]
      refine ⟨by omega, by omega, ih _ (fun j hj b hb => ?_) (fun j hj => ?_)⟩
      · by_cases e : j = n
        · subst e
          rw [updL_eq, h2 j (Nat.le_refl _), swb_lo hb hp (by omega), tb_at _ (swb_lt (n := 6) hb hp (by omega))]
          exact xin _ hpq hp hb
        · rw [updL_ne e]
          exact h1 j (by omega) b hb
      · rw [updL_ne (by omega)]
        exact h2 j (by omega)
  have := loop 0 (Nat.zero_le _) (sL σ k) (fun j hj => absurd hj (Nat.not_lt_zero _)) (fun _ _ => rfl)
  rw [uLf_self] at this
  exact this
theorem sp_acrossWords {k m p q : Nat} (hk : lenJ k = 64) (hm : m ≤ 6) (hp : 6 ≤ p) (hpm : p - 6 < m) (hq : q < 6) (h : ∀ f, (∀ i, i < 64 * 2 ^ m → tb f i = tb (sL σ k) (swb i p q)) → (∀ j, 2 ^ m ≤ j → f j = sL σ k j) → K none (uLf σ k f)) : Runs g 0 45 (d + 1) M_X0_exchangeAcrossWords [.ref (eA g k), .int (nI (2 ^ m)), .int (nI p), .int (nI q)] σ K := by
  have hW : 2 ^ m ≤ 64 := (Nat.pow_le_pow_right (by omega) hm : 2 ^ m ≤ 2 ^ 6)
  have h2p : 2 ^ (p - 6) ≤ 32 := (Nat.pow_le_pow_right (by omega) (by omega) : 2 ^ (p - 6) ≤ 2 ^ 5)
  have h2q : 2 ^ q ≤ 32 := (Nat.pow_le_pow_right (by omega) (by omega) : 2 ^ q ≤ 2 ^ 5)
  refine E_X0_exchangeAcrossWords g d _ _ _ _ σ K ?_
  rw [pk_sub hp, jshl1 (by omega), jshl1 (by omega)]
  generalize hr : p - 6 = r at *
  -- word j is done if its lower partner is below n
  have key : ∀ n, n ≤ 2 ^ m → ∀ f, (∀ j, j < 2 ^ m → ∀ b, b < 64 → bt (f j) b = if sbt j r false < n then tb (sL σ k) (swb (64 * j + b) p q) else bt (sL σ k j) b) → (∀ j, 2 ^ m ≤ j → f j = sL σ k j) → WP g 0 45 (d + 1) M_X0_exchangeAcrossWords 16 [(0, .ref (eA g k)), (1, .int (nI (2 ^ m))), (3, .int (nI q)), (4, .int (nI (2 ^ r))), (5, .int (nI (2 ^ q))), (6, .int (nI n))] [] (uLf σ k f) K := by
    intro n hn
    refine up_to (P := fun n => ∀ f, (∀ j, j < 2 ^ m → ∀ b, b < 64 → bt (f j) b = if sbt j r false < n then tb (sL σ k) (swb (64 * j + b) p q) else bt (sL σ k j) b) → (∀ j, 2 ^ m ≤ j → f j = sL σ k j) → WP g 0 45 (d + 1) M_X0_exchangeAcrossWords 16 [(0, .ref (eA g k)), (1, .int (nI (2 ^ m))), (3, .int (nI q)), (4, .int (nI (2 ^ r))), (5, .int (nI (2 ^ q))), (6, .int (nI n))] [] (uLf σ k f) K) (2 ^ m) ?_ ?_ n hn
    · intro f h1 h2
      refine R_X0_exchangeAcrossWords_16 g d _ _ _ _ _ _ _ K ⟨fun _ => h f (fun i hi => ?_) h2, fun c => absurd (nI_le (Nat.le_refl _) (by omega)) c⟩
      obtain ⟨j, b, rfl, hb⟩ := split64 i
      have hj : j < 2 ^ m := by omega
      rw [tb_at _ hb, h1 j hj b hb, if_pos (sbt_lt hj hpm)]
    · intro n hn ih f h1 h2
      have hand : (nI n &&& nI (2 ^ r) = nI 0) ↔ n.testBit r = false := by
        rw [nI_and, nI_eq (by have := @Nat.and_le_left n (2 ^ r); omega) (by omega)]
        constructor
        · intro e
          have := congrArg (fun z => z.testBit r) e
          simpa using this
        · intro e
          apply Nat.eq_of_testBit_eq
          intro z
          rw [Nat.testBit_and, Nat.testBit_two_pow, Nat.zero_testBit]
          by_cases hz : r = z
          · subst hz; simp [e]
          · simp [hz]
      refine R_X0_exchangeAcrossWords_16 g d _ _ _ _ _ _ _ K ⟨fun c => absurd ((nI_leI (by omega) (by omega)).mp c) (by omega), fun _ => ⟨fun c => ?_, fun c => ?_⟩⟩
      · rw [nI_1']
        refine ih f (fun j hj b hb => ?_) h2
        rw [h1 j hj b hb]
        have hne : sbt j r false ≠ n := fun e => by
          have : (sbt j r false).testBit r = false := by rw [testBit_sbt, if_pos rfl]
          rw [e] at this
          exact c (hand.mpr this)
        by_cases hl : sbt j r false < n
        · rw [if_pos hl, if_pos (by omega)]
        · rw [if_neg hl, if_neg (by omega)]
      · have hnb := hand.mp c
        have hpn : n + 2 ^ r = sbt n r true := by
          have := or_add ⟨n, by omega⟩ ⟨r, by omega⟩ hnb
          exact this
        have hpl : sbt n r true < 2 ^ m := sbt_lt hn hpm
        rw [nI_add, hpn, hk, vp_iff (by omega), vp_iff (by omega), vp_iff (by omega), nI_clamp (by omega), nI_clamp (by omega), nI_clamp (by omega), nI_1', uL_is, uL_is, uLf_uLf, sL_uLf, uLf_uLf, sL_uLf]
        refine ⟨by omega, by omega, hq, by omega, by omega, by omega, by omega, ih _ (fun j hj b hb => ?_) (fun j hj => ?_)⟩
        · have hnn : sbt n r true ≠ n := fun e => by
            have : (sbt n r true).testBit r = true := by rw [testBit_sbt, if_pos rfl]
            rw [e, hnb] at this
            cases this
          have hsn : sbt n r false = n := sbt_self hnb
          have e0 : f n = sL σ k n := bt_ext fun b hb => by rw [h1 n hn b hb, hsn, if_neg (Nat.lt_irrefl _)]
          have esn : sbt (sbt n r true) r false = n := by
            apply Nat.eq_of_testBit_eq
            intro z
            rw [testBit_sbt, testBit_sbt]
            by_cases hz : z = r
            · rw [if_pos hz, hz, hnb]
            · rw [if_neg hz, if_neg hz]
          have e1 : f (sbt n r true) = sL σ k (sbt n r true) := bt_ext fun b hb => by rw [h1 _ hpl b hb, esn, if_neg (Nat.lt_irrefl _)]
          rw [e0, e1, updL_ne (Ne.symm hnn), e0]
          have hs : 2 ^ q < 64 := by omega
          have tf : ∀ (p : Fin 6) (b : Fin 64), b.1.testBit p.1 = true → sbt b.1 p.1 false = b.1 - 2 ^ p.1 ∧ 2 ^ p.1 ≤ b.1 ∧ (b.1 - 2 ^ p.1).testBit p.1 = false := by decide +kernel
          have tg : ∀ (p : Fin 6) (b : Fin 64), b.1.testBit p.1 = false → sbt b.1 p.1 true = b.1 + 2 ^ p.1 ∧ b.1 + 2 ^ p.1 < 64 := by decide +kernel
          have th : ∀ (p : Fin 6) (b : Fin 64), b.1.testBit p.1 = false → 2 ^ p.1 ≤ b.1 → (b.1 - 2 ^ p.1).testBit p.1 = true := by decide +kernel
          by_cases ejn : j = n
          · subst ejn
            rw [updL_eq, if_pos (by rw [hsn]; omega), swb_mid hb hp hq, hr, tb_at _ (sbt_lt (n := 6) hb hq), hnb, bt_xor, bt_shl hs, bt_and, bt_xor, bt_ushr hs]
            cases hbq : b.testBit q
            · rw [sbt_self hnb, sbt_self hbq]
              by_cases hle : 2 ^ q ≤ b
              · have hx : b - 2 ^ q < 64 := Nat.lt_of_le_of_lt (Nat.sub_le _ _) hb
                rw [bt_not hx, bt_ONE hq hx, th ⟨q, hq⟩ ⟨b, hb⟩ hbq hle]
                cases bt (sL σ k j) b <;> simp
              · simp [show b < 2 ^ q by omega]
            · obtain ⟨g1, g2, g3⟩ := tf ⟨q, hq⟩ ⟨b, hb⟩ hbq
              simp only at g1 g2 g3
              have hx : b - 2 ^ q < 64 := Nat.lt_of_le_of_lt (Nat.sub_le _ _) hb
              rw [bt_not hx, bt_ONE hq hx, g3, g1, Nat.sub_add_cancel g2]
              cases bt (sL σ k j) b <;> cases bt (sL σ k (sbt j r true)) (b - 2 ^ q) <;> simp [hb, show ¬ b < 2 ^ q by omega]
          · rw [updL_ne ejn]
            by_cases ejp : j = sbt n r true
            · subst ejp
              rw [updL_eq, if_pos (by rw [esn]; omega), swb_mid hb hp hq, hr, tb_at _ (sbt_lt (n := 6) hb hq), testBit_sbt, if_pos rfl, bt_xor, bt_and, bt_xor, bt_ushr hs, bt_not hb, bt_ONE hq hb]
              have et : sbt (sbt n r true) r true = sbt n r true := sbt_self (by rw [testBit_sbt, if_pos rfl])
              cases hbq : b.testBit q
              · obtain ⟨g1, g2⟩ := tg ⟨q, hq⟩ ⟨b, hb⟩ hbq
                simp only at g1 g2
                rw [g1, esn]
                cases bt (sL σ k (sbt n r true)) b <;> cases bt (sL σ k n) (b + 2 ^ q) <;> simp
              · rw [sbt_self hbq, et]
                cases bt (sL σ k (sbt n r true)) b <;> simp
            · rw [updL_ne ejp, h1 j hj b hb]
              have hne : sbt j r false ≠ n := fun e => by
                cases hjr : j.testBit r
                · rw [sbt_self hjr] at e
                  exact ejn e
                · apply ejp
                  rw [← e]
                  apply Nat.eq_of_testBit_eq
                  intro z
                  rw [testBit_sbt, testBit_sbt]
                  by_cases hz : z = r
                  · rw [if_pos hz, hz, hjr]
                  · rw [if_neg hz, if_neg hz]
              by_cases hl : sbt j r false < n
              · rw [if_pos hl, if_pos (by omega)]
              · rw [if_neg hl, if_neg (by omega)]
        · rw [updL_ne (by omega), updL_ne (by omega)]
          exact h2 j hj
  have := key 0 (Nat.zero_le _) (sL σ k) (fun j hj b hb => by rw [if_neg (Nat.not_lt_zero _)]) (fun _ _ => rfl)
  rw [uLf_self] at this
  exact this
theorem sp_xwords {k m p q : Nat} (hk : lenJ k = 64) (hm : m ≤ 6) (hq : 6 ≤ q) (hpq : q < p) (hpm : p - 6 < m) (h : ∀ f, (∀ i, i < 64 * 2 ^ m → tb f i = tb (sL σ k) (swb i p q)) → (∀ j, 2 ^ m ≤ j → f j = sL σ k j) → K none (uLf σ k f)) : Runs g 0 45 (d + 1) M_X0_exchangeWords [.ref (eA g k), .int (nI (2 ^ m)), .int (nI p), .int (nI q)] σ K := by
  have hW : 2 ^ m ≤ 64 := (Nat.pow_le_pow_right (by omega) hm : 2 ^ m ≤ 2 ^ 6)
  have h2p : 2 ^ (p - 6) ≤ 32 := (Nat.pow_le_pow_right (by omega) (by omega) : 2 ^ (p - 6) ≤ 2 ^ 5)
  have h2q : 2 ^ (q - 6) ≤ 32 := (Nat.pow_le_pow_right (by omega) (by omega) : 2 ^ (q - 6) ≤ 2 ^ 5)
  refine E_X0_exchangeWords g d _ _ _ _ σ K ?_
  rw [pk_sub (show 6 ≤ p by omega), pk_sub hq, jshl1 (by omega), jshl1 (by omega)]
  have hrr : 6 ≤ p := by omega
  generalize hr : p - 6 = r at *
  generalize hs : q - 6 = s at *
  have hsr : s < r := by omega
  have key : ∀ n, n ≤ 2 ^ m → ∀ f, (∀ j, j < 2 ^ m → f j = if j < n ∨ swb j r s < n then sL σ k (swb j r s) else sL σ k j) → (∀ j, 2 ^ m ≤ j → f j = sL σ k j) → WP g 0 45 (d + 1) M_X0_exchangeWords 19 [(0, .ref (eA g k)), (1, .int (nI (2 ^ m))), (4, .int (nI (2 ^ r))), (5, .int (nI (2 ^ s))), (6, .int (nI n))] [] (uLf σ k f) K := by
    intro n hn
    refine up_to (P := fun n => ∀ f, (∀ j, j < 2 ^ m → f j = if j < n ∨ swb j r s < n then sL σ k (swb j r s) else sL σ k j) → (∀ j, 2 ^ m ≤ j → f j = sL σ k j) → WP g 0 45 (d + 1) M_X0_exchangeWords 19 [(0, .ref (eA g k)), (1, .int (nI (2 ^ m))), (4, .int (nI (2 ^ r))), (5, .int (nI (2 ^ s))), (6, .int (nI n))] [] (uLf σ k f) K) (2 ^ m) ?_ ?_ n hn
    · intro f h1 h2
      refine R_X0_exchangeWords_19 g d _ _ _ _ _ _ K ⟨fun _ => h f (fun i hi => ?_) h2, fun c => absurd (nI_le (Nat.le_refl _) (by omega)) c⟩
      obtain ⟨j, b, rfl, hb⟩ := split64 i
      have hj : j < 2 ^ m := by omega
      rw [tb_at _ hb, h1 j hj, if_pos (Or.inl hj), swb_hi hb hrr hq, hr, hs, tb_at _ hb]
    · intro n hn ih f h1 h2
      obtain ⟨a1, a2, a3⟩ := xw_key ⟨r, by omega⟩ ⟨s, by omega⟩ ⟨n, by omega⟩ hsr
      simp only at a1 a2 a3
      have inv : ∀ j, swb j r s = n → j = swb n r s := fun j e => by rw [← e, swb_swb]
      refine R_X0_exchangeWords_19 g d _ _ _ _ _ _ K ⟨fun c => absurd ((nI_leI (by omega) (by omega)).mp c) (by omega), fun _ => ⟨fun c => ?_, fun c => ⟨fun c2 => ?_, fun c2 => ?_⟩⟩⟩
      · rw [nI_1']
        rw [and_bit (by omega)] at c
        refine ih f (fun j hj => ?_) h2
        rw [h1 j hj]
        have hb1 : n.testBit r = true := by simpa using c
        by_cases hl : j < n ∨ swb j r s < n
        · rw [if_pos hl, if_pos (by omega)]
        · rw [if_neg hl]
          by_cases hl2 : j < n + 1 ∨ swb j r s < n + 1
          · rw [if_pos hl2]
            cases hb2 : n.testBit s
            · have := a3 hb1 hb2
              rcases (show j = n ∨ swb j r s = n by omega) with rfl | e
              · omega
              · have := inv j e
                omega
            · have e0 := a1 (by rw [hb1, hb2])
              rcases (show j = n ∨ swb j r s = n by omega) with rfl | e
              · rw [e0]
              · rw [e, inv j e, e0]
          · rw [if_neg hl2]
      · rw [nI_1']
        rw [and_bit (by omega)] at c c2
        refine ih f (fun j hj => ?_) h2
        rw [h1 j hj]
        have e0 := a1 (by rw [c, c2])
        by_cases hl : j < n ∨ swb j r s < n
        · rw [if_pos hl, if_pos (by omega)]
        · rw [if_neg hl]
          by_cases hl2 : j < n + 1 ∨ swb j r s < n + 1
          · rw [if_pos hl2]
            rcases (show j = n ∨ swb j r s = n by omega) with rfl | e
            · rw [e0]
            · rw [e, inv j e, e0]
          · rw [if_neg hl2]
      · rw [and_bit (by omega)] at c c2
        have hb2 : n.testBit s = true := by simpa using c2
        obtain ⟨e1, e2⟩ := a2 c hb2
        have hpl : swb n r s < 2 ^ m := swb_lt hn (by omega) (by omega)
        rw [nI_add, pk_sub (by omega), ← e1, hk, vp_iff (by omega), vp_iff (by omega), nI_clamp (by omega), nI_clamp (by omega), nI_1', uL_is, uL_is, uLf_uLf, sL_uLf, uLf_uLf, sL_uLf]
        refine ⟨by omega, by omega, by omega, by omega, ih _ (fun j hj => ?_) (fun j hj => ?_)⟩
        · have f1 : f n = sL σ k n := by rw [h1 n hn, if_neg (by omega)]
          have f2 : f (swb n r s) = sL σ k (swb n r s) := by rw [h1 _ hpl, if_neg (by rw [swb_swb]; omega)]
          rw [f1, f2]
          by_cases ej : j = swb n r s
          · subst ej
            rw [updL_eq, if_pos (by rw [swb_swb]; omega), swb_swb]
          · rw [updL_ne ej]
            by_cases ej2 : j = n
            · subst ej2
              rw [updL_eq, if_pos (by omega)]
            · rw [updL_ne ej2, h1 j hj]
              have : swb j r s ≠ n := fun e => ej (inv j e)
              by_cases hl : j < n ∨ swb j r s < n
              · rw [if_pos hl, if_pos (by omega)]
              · rw [if_neg hl, if_neg (by omega)]
        · rw [updL_ne (by omega), updL_ne (by omega)]
          exact h2 j hj
  have := key 0 (Nat.zero_le _) (sL σ k) (fun j hj => by rw [if_neg (by omega)]) (fun _ _ => rfl)
  rw [uLf_self] at this
  exact this
/-- exchange: the places p and q change in the table; 2 ^ m words, or one of 2 ^ n bits -/
theorem sp_exchange {k m p q : Nat} (hk : lenJ k = 64) (hm : m ≤ 6) (hp : p < 6 + m) (hq : q < 6 + m) (h : ∀ f, (∀ i, i < 64 * 2 ^ m → tb f i = tb (sL σ k) (swb i p q)) → (∀ j, 2 ^ m ≤ j → f j = sL σ k j) → K none (uLf σ k f)) : Runs g 0 45 (d + 2) M_X0_exchange [.ref (eA g k), .int (nI (2 ^ m)), .int (nI p), .int (nI q)] σ K := by
  have hW : 2 ^ m ≤ 64 := (Nat.pow_le_pow_right (by omega) hm : 2 ^ m ≤ 2 ^ 6)
  have e1 : (if nI p < nI q then nI q else nI p) = nI (max p q) := by
    by_cases c : p < q
    · rw [if_pos ((nI_ltI (by omega) (by omega)).mpr c), Nat.max_eq_right (by omega)]
    · rw [if_neg (fun z => c ((nI_ltI (by omega) (by omega)).mp z)), Nat.max_eq_left (by omega)]
  have e2 : (if nI q < nI p then nI q else nI p) = nI (min p q) := by
    by_cases c : q < p
    · rw [if_pos ((nI_ltI (by omega) (by omega)).mpr c), Nat.min_eq_right (by omega)]
    · rw [if_neg (fun z => c ((nI_ltI (by omega) (by omega)).mp z)), Nat.min_eq_left (by omega)]
  have e3 : ∀ i, swb i p q = swb i (max p q) (min p q) := fun i => by
    rcases Nat.le_total p q with c | c
    · rw [Nat.max_eq_right c, Nat.min_eq_left c, swb_comm]
    · rw [Nat.max_eq_left c, Nat.min_eq_right c]
  refine E_X0_exchange g (d + 1) _ _ _ _ σ K ?_
  rw [e1, e2, nI_eq (by omega) (by omega), nI_leI (by omega) (by omega), nI_leI (by omega) (by omega)]
  refine ⟨fun c => ⟨fun c1 => ⟨fun c2 => ?_, fun c2 => ?_⟩, fun c1 => ?_⟩, fun c => ?_⟩
  · exact sp_xwords hk hm c2 (by omega) (by omega) (fun f h1 h2 => ⟨rfl, h f (fun i hi => by rw [h1 i hi, e3]) h2⟩)
  · exact sp_acrossWords hk hm c1 (by omega) (by omega) (fun f h1 h2 => ⟨rfl, h f (fun i hi => by rw [h1 i hi, e3]) h2⟩)
  · exact sp_inWords hk (by omega) (by omega) (by omega) (fun f h1 h2 => ⟨rfl, h f (fun i hi => by rw [h1 i hi, e3]) h2⟩)
  · have := h (sL σ k) (fun i hi => by rw [e3, c, swb_same]) (fun _ _ => rfl)
    rw [uLf_self] at this
    exact this
end BITS2

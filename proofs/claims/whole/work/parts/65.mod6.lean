/-! submasks in their order -/
def sub (z R : Nat) : Prop := ∀ b, z.testBit b = true → R.testBit b = true
theorem sub_half {z R : Nat} (h : sub z R) : z % 2 ≤ R % 2 ∧ sub (z / 2) (R / 2) := by
  constructor
  · have := h 0
    rw [Nat.testBit_zero, Nat.testBit_zero, decide_eq_true_eq, decide_eq_true_eq] at this
    omega
  · intro b hb
    have := h (b + 1)
    rw [Nat.testBit_succ, Nat.testBit_succ] at this
    exact this hb
theorem sub_and {z R : Nat} (h : sub z R) : z &&& R = z := by
  apply Nat.eq_of_testBit_eq
  intro b
  rw [Nat.testBit_and]
  cases hb : z.testBit b
  · rfl
  · rw [h b hb]; rfl
theorem sub_le {z R : Nat} (h : sub z R) : z ≤ R := by
  rw [← sub_and h]
  exact Nat.and_le_right
theorem and_sub (a R : Nat) : sub (a &&& R) R := fun b hb => by
  rw [Nat.testBit_and, Bool.and_eq_true] at hb
  exact hb.2
theorem and_mod2 (a b : Nat) : (a &&& b) % 2 = (a % 2) * (b % 2) := by
  have h := Nat.and_mod_two_eq_one (a := a) (b := b)
  rcases Nat.mod_two_eq_zero_or_one a with ha | ha <;> rcases Nat.mod_two_eq_zero_or_one b with hb | hb <;> rw [ha, hb] at h ⊢ <;> omega
theorem sub_comp : ∀ n R x, R < 2 ^ n → sub x R → (2 ^ n - 1 - (R - x)) &&& R = x
  | 0, R, x, hR, hs => by
    have := sub_le hs
    have h1 : R = 0 := by rw [Nat.pow_zero] at hR; omega
    subst h1
    rw [Nat.and_zero]; omega
  | n + 1, R, x, hR, hs => by
    have hle := sub_le hs
    obtain ⟨h1, h2⟩ := sub_half hs
    have hle2 := sub_le h2
    rw [Nat.pow_succ] at hR ⊢
    have ih := sub_comp n (R / 2) (x / 2) (by omega) h2
    have e1 : ((2 ^ n * 2 - 1 - (R - x)) &&& R) / 2 = x / 2 := by
      rw [Nat.and_div_two, show (2 ^ n * 2 - 1 - (R - x)) / 2 = 2 ^ n - 1 - (R / 2 - x / 2) by omega, ih]
    have e2 : ((2 ^ n * 2 - 1 - (R - x)) &&& R) % 2 = x % 2 := by
      rw [and_mod2]
      rcases Nat.mod_two_eq_zero_or_one R with hr | hr
      · rw [hr]; omega
      · rw [hr]; omega
    omega
theorem sub_next : ∀ n R x, R < 2 ^ n → sub x R → x ≠ R → x < (2 ^ n - (R - x)) &&& R ∧ ∀ z, sub z R → x < z → (2 ^ n - (R - x)) &&& R ≤ z
  | 0, R, x, hR, hs, hne => by
    have := sub_le hs
    rw [Nat.pow_zero] at hR
    omega
  | n + 1, R, x, hR, hs, hne => by
    have hle := sub_le hs
    obtain ⟨h1, h2⟩ := sub_half hs
    have hle2 := sub_le h2
    rw [Nat.pow_succ] at hR ⊢
    by_cases hb : x % 2 = R % 2
    · have ih := sub_next n (R / 2) (x / 2) (by omega) h2 (by omega)
      have e1 : ((2 ^ n * 2 - (R - x)) &&& R) / 2 = (2 ^ n - (R / 2 - x / 2)) &&& (R / 2) := by
        rw [Nat.and_div_two, show (2 ^ n * 2 - (R - x)) / 2 = 2 ^ n - (R / 2 - x / 2) by omega]
      have e2 : ((2 ^ n * 2 - (R - x)) &&& R) % 2 = 0 := by
        rw [and_mod2, show (2 ^ n * 2 - (R - x)) % 2 = 0 by omega, Nat.zero_mul]
      refine ⟨by omega, fun z hz hlt => ?_⟩
      obtain ⟨z1, z2⟩ := sub_half hz
      have := ih.2 (z / 2) z2
      omega
    · have ec := sub_comp n (R / 2) (x / 2) (by omega) h2
      have e1 : ((2 ^ n * 2 - (R - x)) &&& R) / 2 = x / 2 := by
        rw [Nat.and_div_two, show (2 ^ n * 2 - (R - x)) / 2 = 2 ^ n - 1 - (R / 2 - x / 2) by omega, ec]
      have e2 : ((2 ^ n * 2 - (R - x)) &&& R) % 2 = 1 := by
        rw [and_mod2, show (2 ^ n * 2 - (R - x)) % 2 = 1 by omega, show R % 2 = 1 by omega]
      exact ⟨by omega, fun z hz hlt => by omega⟩
theorem nI_wrap {x R : Nat} (h : x ≤ R) (hR : R < 2 ^ 31) : nI x - nI R = nI (2 ^ 32 - (R - x)) := by
  apply Int32.toBitVec_inj.mp
  rw [Int32.toBitVec_sub, nI_tb, nI_tb, nI_tb]
  apply BitVec.eq_of_toNat_eq
  simp only [BitVec.toNat_sub, BitVec.toNat_ofNat]
  omega
/-! the order's letters as places -/
section PLACE
variable {o oi : Nat → Nat} {N : Nat}
theorem spr_eq (hp : Prm o oi N) {i x : Nat} (hx : x < 2 ^ N) (h : ∀ v, v < N → i.testBit (N - 1 - oi v) = x.testBit v) : spr o N i = x := by
  apply Nat.eq_of_testBit_eq
  intro v
  by_cases hv : v < N
  · rw [spr_bit hp hv]; exact h v hv
  · rw [spr_bit_hi hp (by omega), bit_hi hx (by omega)]
theorem spr_0 (hp : Prm o oi N) : spr o N 0 = 0 := spr_eq hp (Nat.two_pow_pos N) fun v _ => by rw [Nat.zero_testBit, Nat.zero_testBit]
theorem spr_bitk (hp : Prm o oi N) {k m q : Nat} (hk : k < N) (hm : m = N - 1 - k) (c : Bool) : spr o N (q * 2 ^ (m + 1)) ||| (if c then 2 ^ o k else 0) = spr o N ((2 * q + c.toNat) * 2 ^ m) := by
  apply Nat.eq_of_testBit_eq
  intro v
  have hok := hp.1 k hk
  rw [Nat.testBit_or, ite_pow_bit]
  by_cases hv : v < N
  · have hov := hp.2 v hv
    rw [spr_bit hp hv, spr_bit hp hv, Nat.testBit_mul_two_pow, Nat.testBit_mul_two_pow]
    by_cases e : o k = v
    · have e1 : oi v = k := by rw [← e, hok.2]
      rw [e1, ← hm]
      rw [decide_eq_true e, decide_eq_false (show ¬ m + 1 ≤ m by omega), decide_eq_true (Nat.le_refl m), Nat.sub_self, Nat.testBit_zero]
      cases c
      · simp
      · simp
    · have e1 : oi v ≠ k := fun q => e (by rw [← q, hov.2])
      rw [decide_eq_false e, Bool.and_false, Bool.or_false]
      by_cases l : oi v < k
      · obtain ⟨w, hw⟩ : ∃ w, N - 1 - oi v = m + (w + 1) := ⟨N - 1 - oi v - m - 1, by omega⟩
        rw [hw, decide_eq_true (show m + 1 ≤ m + (w + 1) by omega), decide_eq_true (show m ≤ m + (w + 1) by omega), show m + (w + 1) - (m + 1) = w by omega, show m + (w + 1) - m = w + 1 by omega, Nat.testBit_succ, show (2 * q + c.toNat) / 2 = q by cases c <;> simp <;> omega]
      · rw [decide_eq_false (show ¬ m + 1 ≤ N - 1 - oi v by omega), decide_eq_false (show ¬ m ≤ N - 1 - oi v by omega), Bool.false_and, Bool.false_and]
  · rw [spr_bit_hi hp (by omega), spr_bit_hi hp (by omega), decide_eq_false (show ¬ o k = v by omega), Bool.and_false]
    rfl
theorem spr_or (hp : Prm o oi N) {a j m : Nat} (hj : j < 2 ^ m) : spr o N (a * 2 ^ m) ||| spr o N j = spr o N (a * 2 ^ m + j) := by
  apply Nat.eq_of_testBit_eq
  intro v
  rw [Nat.testBit_or]
  by_cases hv : v < N
  · rw [spr_bit hp hv, spr_bit hp hv, spr_bit hp hv, Nat.mul_comm a, Nat.testBit_two_pow_mul_add _ hj, Nat.testBit_two_pow_mul]
    by_cases l : N - 1 - oi v < m
    · rw [if_pos l, decide_eq_false (show ¬ N - 1 - oi v ≥ m by omega), Bool.false_and, Bool.false_or]
    · rw [if_neg l, decide_eq_true (show N - 1 - oi v ≥ m by omega), Bool.true_and, bit_hi hj (by omega), Bool.or_false]
  · rw [spr_bit_hi hp (by omega), spr_bit_hi hp (by omega), spr_bit_hi hp (by omega)]
    rfl
def msk (o : Nat → Nat) (N k : Nat) : Nat := spr o N ((2 ^ k - 1) * 2 ^ (N - k))
theorem msk_bit (hp : Prm o oi N) {k v : Nat} (hk : k ≤ N) (hv : v < N) : (msk o N k).testBit v = decide (oi v < k) := by
  have hov := (hp.2 v hv).1
  unfold msk
  rw [spr_bit hp hv, Nat.testBit_mul_two_pow, Nat.testBit_two_pow_sub_one]
  by_cases l : oi v < k
  · rw [decide_eq_true l, decide_eq_true (show N - k ≤ N - 1 - oi v by omega), decide_eq_true (show N - 1 - oi v - (N - k) < k by omega)]; rfl
  · rw [decide_eq_false l, decide_eq_false (show ¬ N - k ≤ N - 1 - oi v by omega)]; rfl
theorem msk_up (hp : Prm o oi N) {k : Nat} (hk : k < N) : msk o N k ||| 2 ^ o k = msk o N (k + 1) := by
  have := spr_bitk hp (q := 2 ^ k - 1) hk rfl true
  unfold msk
  rw [show N - k = N - 1 - k + 1 by omega, show N - (k + 1) = N - 1 - k by omega]
  have h1 : (if true = true then 2 ^ o k else 0) = 2 ^ o k := rfl
  rw [h1] at this
  rw [this]
  congr 2
  have := Nat.two_pow_pos k
  rw [Nat.pow_succ]
  show 2 * (2 ^ k - 1) + 1 = 2 ^ k * 2 - 1
  omega
/-- the submasks of what is left below level k are the places below it -/
theorem some_exA (hp : Prm o oi N) {f : Nat → Bool} {k m a R : Nat} (hk : k < N) (hm : m = N - 1 - k) (ha : a < 2 ^ (k + 1)) (hR : ∀ v, R.testBit v = (decide (v < N) && !(msk o N (k + 1)).testBit v)) : (∃ z, sub z R ∧ f (spr o N (a * 2 ^ m) ||| z) = true) ↔ exA (fun i => f (spr o N i)) (a * 2 ^ m) (2 ^ m) = true := by
  rw [exA_iff]
  have hal : ∀ j, j < 2 ^ m → a * 2 ^ m + j < 2 ^ N := fun j hj => by
    have h1 : (a + 1) * 2 ^ m ≤ 2 ^ (k + 1) * 2 ^ m := Nat.mul_le_mul_right _ ha
    rw [← Nat.pow_add, show k + 1 + m = N by omega, Nat.add_mul, Nat.one_mul] at h1
    omega
  constructor
  · rintro ⟨z, hz, hf⟩
    have hzN : z < 2 ^ N := Nat.lt_pow_two_of_testBit _ fun v hv => by
      cases hb : z.testBit v
      · rfl
      · have := hz v hb
        rw [hR, decide_eq_false (show ¬ v < N by omega)] at this
        cases this
    refine ⟨pos o N z, ?_, ?_⟩
    · refine Nat.lt_pow_two_of_testBit _ fun p hpm => ?_
      by_cases hpN : p < N
      · rw [pos_bit' hpN]
        cases hb : z.testBit (o (N - 1 - p))
        · rfl
        · have h1 := hp.1 (N - 1 - p) (by omega)
          have := hz _ hb
          rw [hR, msk_bit hp (by omega) h1.1, h1.2, decide_eq_true (show N - 1 - p < k + 1 by omega), Bool.not_true, Bool.and_false] at this
          cases this
      · exact pos_bit_hi (by omega)
    · have h1 : pos o N z < 2 ^ m := by
        refine Nat.lt_pow_two_of_testBit _ fun p hpm => ?_
        by_cases hpN : p < N
        · rw [pos_bit' hpN]
          cases hb : z.testBit (o (N - 1 - p))
          · rfl
          · have h1 := hp.1 (N - 1 - p) (by omega)
            have := hz _ hb
            rw [hR, msk_bit hp (by omega) h1.1, h1.2, decide_eq_true (show N - 1 - p < k + 1 by omega), Bool.not_true, Bool.and_false] at this
            cases this
        · exact pos_bit_hi (by omega)
      show f (spr o N (a * 2 ^ m + pos o N z)) = true
      rw [← spr_or hp h1, spr_pos hp hzN]
      exact hf
  · rintro ⟨j, hj, hf⟩
    refine ⟨spr o N j, fun v hv => ?_, ?_⟩
    · by_cases hvN : v < N
      · rw [spr_bit hp hvN] at hv
        rw [hR, decide_eq_true hvN, msk_bit hp (by omega) hvN]
        have : ¬ m ≤ N - 1 - oi v := fun l => by rw [bit_hi hj l] at hv; cases hv
        rw [decide_eq_false (show ¬ oi v < k + 1 by omega)]
        rfl
      · rw [spr_bit_hi hp (by omega)] at hv
        cases hv
    · rw [spr_or hp hj]
      exact hf
end PLACE
section MOD6
variable {g : Ev} {d : Nat} {σ : St} {K : Option Value → St → Prop} {N cap q : Nat} {T : Nat → Nat → Bool} {o oi c : Nat → Nat} {P : Nat → Bool}
theorem m_isSome {e R as : Nat} {x2 : Int32} (hN : 1 ≤ N ∧ N ≤ 12) (hT : MT (sI σ 46) N T) (h9 : sV σ 9 = nI (2 ^ N)) (he : e < 32) (hR : R < 2 ^ N) (hRe : (nI (2 ^ N) - nI 1) &&& (x2 ^^^ (-1)) = nI R) (has : as < 2 ^ N) (h1 : ∀ z, sub z R → T e (as ||| z) = true → K (some (.int (nI 1))) σ) (h0 : (∀ z, sub z R → T e (as ||| z) = false) → K (some (.int (nI 0))) σ) : Runs g 45 59 (d + 2) M_X3_isSome [.ref (eA g 45), .int (nI e), .int x2, .int (nI as)] σ K := by
  have hpw := pwN hN.1 hN.2
  refine E_X3_isSome g (d + 1) _ _ _ σ K ?_
  rw [h9, hRe]
  have loop : ∀ n x, R - x ≤ n → sub x R → (∀ z, sub z R → z < x → T e (as ||| z) = false) → WP g 45 59 (d + 2) M_X3_isSome 15 [(0, .ref (eA g 45)), (1, .int (nI e)), (3, .int (nI as)), (4, .int (nI R)), (5, .int (nI x))] [] σ K := by
    intro n
    induction n with
    | zero =>
      intro x hx hs hz
      have hle := sub_le hs
      have hxR : x = R := by omega
      subst hxR
      refine R_X3_isSome_15 g (d + 1) _ _ _ _ σ K ?_
      rw [nI_or]
      refine m_get (d := d) hT hN he (Nat.or_lt_two_pow has hR) ⟨_, rfl, fun e0 => ⟨fun q => absurd rfl q, fun _ => h0 fun z zs => ?_⟩, fun e1 => h1 x hs (bI_n0 e1)⟩
      rcases (show z < x ∨ z = x by have := sub_le zs; omega) with l | rfl
      · exact hz z zs l
      · exact bI_0.mp e0
    | succ n ih =>
      intro x hx hs hz
      have hle := sub_le hs
      refine R_X3_isSome_15 g (d + 1) _ _ _ _ σ K ?_
      rw [nI_or]
      refine m_get (d := d) hT hN he (Nat.or_lt_two_pow has (by omega)) ⟨_, rfl, fun e0 => ⟨fun q => ?_, fun q => ?_⟩, fun e1 => h1 x hs (bI_n0 e1)⟩
      · have hne : x ≠ R := fun e => q (by rw [e])
        have nx := sub_next 32 R x (by omega) hs hne
        rw [nI_wrap hle (by omega), nI_and]
        have hsy := and_sub (2 ^ 32 - (R - x)) R
        have hly := sub_le hsy
        refine ih _ (by omega) hsy fun z zs zl => ?_
        rcases (show z < x ∨ z = x ∨ x < z by omega) with l | rfl | l
        · exact hz z zs l
        · exact bI_0.mp e0
        · have := nx.2 z zs l
          omega
      · have hxR : x = R := nI_inj (by omega) (by omega) q
        subst hxR
        refine h0 fun z zs => ?_
        rcases (show z < x ∨ z = x by have := sub_le zs; omega) with l | rfl
        · exact hz z zs l
        · exact bI_0.mp e0
  exact loop R 0 (by omega) (fun b hb => by rw [Nat.zero_testBit] at hb; cases hb) (fun z _ hz => absurd hz (Nat.not_lt_zero _))
theorem m_nearest {e x : Nat} (hN : 1 ≤ N ∧ N ≤ 12) (hT : MT (sI σ 46) N T) (h8 : sV σ 8 = nI N) (h9 : sV σ 9 = nI (2 ^ N)) (hp : Prm o oi N) (ho : ∀ k, k < N → sI σ 50 k = nI (o k)) (he : e < 32) (hx : x < 2 ^ N) (h : K (some (.int (nI (spr o N (npr (fun i => T e (spr o N i)) N N (pos o N x)))))) σ) : Runs g 45 59 (d + 3) M_X3_nearest [.ref (eA g 45), .int (nI e), .int (nI x)] σ K := by
  have hpw := pwN hN.1 hN.2
  refine E_X3_nearest g (d + 2) _ _ σ K ?_
  generalize hA : (fun i => T e (spr o N i)) = A at h
  generalize hP : pos o N x = p at h
  have loop : ∀ k, k ≤ N → WP g 45 59 (d + 3) M_X3_nearest 8 [(0, .ref (eA g 45)), (1, .int (nI e)), (2, .int (nI x)), (3, .int (nI (msk o N k))), (4, .int (nI (spr o N (npr A N k (p / 2 ^ (N - k)) * 2 ^ (N - k))))), (5, .int (nI k))] [] σ K := by
    refine up_to (P := fun k => WP g 45 59 (d + 3) M_X3_nearest 8 [(0, .ref (eA g 45)), (1, .int (nI e)), (2, .int (nI x)), (3, .int (nI (msk o N k))), (4, .int (nI (spr o N (npr A N k (p / 2 ^ (N - k)) * 2 ^ (N - k))))), (5, .int (nI k))] [] σ K) N ?_ ?_
    · refine R_X3_nearest_8 g (d + 2) _ _ _ _ _ σ K ⟨fun _ => ?_, fun q => ?_⟩
      · rw [Nat.sub_self, Nat.pow_zero, Nat.div_one, Nat.mul_one]
        exact h
      · rw [h8] at q
        exact absurd (nI_le (Nat.le_refl _) (by omega)) q
    · intro k hk ih
      have hok := hp.1 k hk
      generalize hm : N - 1 - k = m
      have e1 : N - k = m + 1 := by omega
      have e2 : N - (k + 1) = m := by omega
      have hxb : x.testBit (o k) = decide (p / 2 ^ m % 2 = 1) := by
        rw [← Nat.testBit_eq_decide_div_mod_eq, ← hP, ← hm, pos_bit hk]
      have hp2 : p / 2 ^ m / 2 = p / 2 ^ (m + 1) := by rw [Nat.div_div_eq_div_mul, Nat.pow_succ]
      have hql := npr_lt (A := A) (N := N) k (p / 2 ^ (m + 1))
      generalize hq : npr A N k (p / 2 ^ (m + 1)) = qk at hql
      have hn : npr A N (k + 1) (p / 2 ^ m) = if exA A ((2 * qk + p / 2 ^ m % 2) * 2 ^ m) (2 ^ m) then 2 * qk + p / 2 ^ m % 2 else flp (2 * qk + p / 2 ^ m % 2) := by
        show (if exA A ((2 * npr A N k (p / 2 ^ m / 2) + p / 2 ^ m % 2) * 2 ^ (N - 1 - k)) (2 ^ (N - 1 - k)) then _ else _) = _
        rw [hp2, hq, hm]
      rw [e2, hn, ← msk_up hp hk] at ih
      have hb2 : p / 2 ^ m % 2 = (x.testBit (o k)).toNat := by
        rw [hxb]
        rcases Nat.mod_two_eq_zero_or_one (p / 2 ^ m) with h | h <;> rw [h] <;> rfl
      rw [hb2] at ih
      have h2k : (2 : Nat) ^ (k + 1) = 2 * 2 ^ k := Nat.pow_succ'
      have hal : 2 * qk + (x.testBit (o k)).toNat < 2 ^ (k + 1) := by cases x.testBit (o k) <;> simp <;> omega
      have s1 : spr o N (qk * 2 ^ (m + 1)) ||| (x &&& 2 ^ o k) = spr o N ((2 * qk + (x.testBit (o k)).toNat) * 2 ^ m) := by
        rw [← spr_bitk hp hk hm.symm (x.testBit (o k))]
        congr 1
        apply Nat.eq_of_testBit_eq
        intro v
        rw [Nat.testBit_and, ite_pow_bit, Nat.testBit_two_pow]
        by_cases ev : o k = v
        · rw [← ev]
        · rw [decide_eq_false ev, Bool.and_false, Bool.and_false]
      have s2 : spr o N (qk * 2 ^ (m + 1)) ||| ((2 ^ o k ||| x) ^^^ x) = spr o N (flp (2 * qk + (x.testBit (o k)).toNat) * 2 ^ m) := by
        have hf : flp (2 * qk + (x.testBit (o k)).toNat) = 2 * qk + (!x.testBit (o k)).toNat := by
          unfold flp
          cases x.testBit (o k)
          · rw [if_pos (by simp)]; rfl
          · rw [if_neg (by simp)]; rfl
        rw [hf, ← spr_bitk hp hk hm.symm (!x.testBit (o k))]
        congr 1
        apply Nat.eq_of_testBit_eq
        intro v
        rw [Nat.testBit_xor, Nat.testBit_or, ite_pow_bit, Nat.testBit_two_pow]
        by_cases ev : o k = v
        · rw [← ev, decide_eq_true rfl]
          cases x.testBit (o k) <;> rfl
        · rw [decide_eq_false ev]
          cases x.testBit v <;> cases x.testBit (o k) <;> rfl
      refine R_X3_nearest_8 g (d + 2) _ _ _ _ _ σ K ⟨fun q => ?_, fun _ => ?_⟩
      · rw [h8] at q
        exact absurd ((nI_leI (by omega) (by omega)).mp q) (by omega)
      · rw [vp_iff (by omega), nI_clamp (by omega), ho k hk, jshl1 (by omega), nI_or, nI_and, nI_or, Int32.and_comm (nI x ^^^ (-1)), nI_andn, nI_or, nI_1', e1, hq, s1, s2]
        have hmask : ∀ v, ((2 ^ N - 1 ||| msk o N (k + 1)) ^^^ msk o N (k + 1)).testBit v = (decide (v < N) && !(msk o N (k + 1)).testBit v) := fun v => by
          rw [Nat.testBit_xor, Nat.testBit_or, Nat.testBit_two_pow_sub_one]
          by_cases hv : v < N
          · rw [decide_eq_true hv]; cases (msk o N (k + 1)).testBit v <;> rfl
          · rw [decide_eq_false hv]; cases (msk o N (k + 1)).testBit v <;> rfl
        have hRl : ((2 ^ N - 1 ||| msk o N (k + 1)) ^^^ msk o N (k + 1)) < 2 ^ N := Nat.lt_pow_two_of_testBit _ fun v hv => by
          rw [hmask, decide_eq_false (show ¬ v < N by omega)]; rfl
        have hiff := some_exA (f := T e) hp hk hm.symm hal hmask
        have hA' : (fun i => T e (spr o N i)) = A := hA
        rw [hA'] at hiff
        refine ⟨by show k < 12; omega, m_isSome (d := d) hN hT h9 he hRl ?_ (spr_lt hp _) (fun z zs zt => ⟨_, rfl, fun q => absurd q n10, fun _ => ?_⟩) (fun hz => ⟨_, rfl, fun _ => ?_, fun q => absurd rfl q⟩)⟩
        · rw [pk_sub (by omega), msk_up hp hk, nI_andn]
        · rw [if_pos (hiff.mp ⟨z, zs, zt⟩)] at ih
          exact ih
        · have : ¬ exA A ((2 * qk + (x.testBit (o k)).toNat) * 2 ^ m) (2 ^ m) = true := fun q => by
            obtain ⟨z, zs, zt⟩ := hiff.mpr q
            rw [hz z zs] at zt
            cases zt
          rw [if_neg this] at ih
          exact ih
  have := loop 0 (Nat.zero_le _)
  have e0 : npr A N 0 (p / 2 ^ (N - 0)) = 0 := rfl
  rw [e0, Nat.zero_mul, spr_0 hp] at this
  have e1 : msk o N 0 = 0 := by
    unfold msk
    rw [Nat.pow_zero, Nat.sub_self, Nat.zero_mul, spr_0 hp]
  rw [e1] at this
  exact this
theorem m_many {a : Nat} (hN : 1 ≤ N ∧ N ≤ 12) (hT : MT (sI σ 46) N T) (h9 : sV σ 9 = nI (2 ^ N)) (ha : a < 32) (h : K (some (.int (nI (cntB (T a) (2 ^ N))))) σ) : Runs g 45 59 (d + 2) M_X3_manyOf [.ref (eA g 45), .int (nI a)] σ K := by
  have hpw := pwN hN.1 hN.2
  refine E_X3_manyOf g (d + 1) _ σ K ?_
  have loop : ∀ x, x ≤ 2 ^ N → WP g 45 59 (d + 2) M_X3_manyOf 4 [(0, .ref (eA g 45)), (1, .int (nI a)), (2, .int (nI (cntB (T a) x))), (3, .int (nI x))] [] σ K := by
    refine up_to (P := fun x => WP g 45 59 (d + 2) M_X3_manyOf 4 [(0, .ref (eA g 45)), (1, .int (nI a)), (2, .int (nI (cntB (T a) x))), (3, .int (nI x))] [] σ K) (2 ^ N) ?_ ?_
    · exact R_X3_manyOf_4 g (d + 1) _ _ _ σ K ⟨fun _ => h, fun q => absurd (le9 hN h9) q⟩
    · intro x hx ih
      have e : cntB (T a) (x + 1) = cntB (T a) x + (T a x).toNat := rfl
      rw [e] at ih
      refine R_X3_manyOf_4 g (d + 1) _ _ _ σ K ⟨fun q => absurd q (ge9 hN h9 hx), fun _ => m_get (d := d) hT hN ha hx ⟨_, rfl, fun e0 => ?_, fun e0 => ?_⟩⟩
      · rw [bI_0.mp e0] at ih
        rw [nI_add, nI_1']
        exact ih
      · rw [bI_n0 e0] at ih
        rw [nI_1', nI_1']
        exact ih
  exact loop 0 (Nat.zero_le _)
theorem cnt_none {f : Nat → Bool} : ∀ {n : Nat}, cntB f n = 0 ↔ ∀ x, x < n → f x = false
  | 0 => ⟨fun _ x hx => absurd hx (Nat.not_lt_zero _), fun _ => rfl⟩
  | n + 1 => by
    show cntB f n + (f n).toNat = 0 ↔ _
    constructor
    · intro h x hx
      have h1 : cntB f n = 0 := by omega
      rcases (show x < n ∨ x = n by omega) with l | rfl
      · exact cnt_none.mp h1 x l
      · cases hb : f x
        · rfl
        · rw [hb] at h; simp at h
    · intro h
      rw [cnt_none.mpr (fun x hx => h x (by omega)), h n (by omega)]
      rfl
theorem M_near {x1 x2 x3 : Int32} (hI : InvM σ N cap T o oi c P q) (hq : q < 2 ^ 30) (hbad : ¬ (isR x1 ∧ isR x2 ∧ isR x3) → K (some (.int (-2))) σ)
    (hno : ∀ j a e, j < 32 → a < 32 → e < 32 → x1 = nI j → x2 = nI a → x3 = nI e → (∀ x, x < 2 ^ N → T e x = false) → K (some (.int (-3))) σ)
    (hok : ∀ j a e, j < 32 → a < 32 → e < 32 → x1 = nI j → x2 = nI a → x3 = nI e → ¬ (∀ x, x < 2 ^ N → T e x = false) → KM N cap T o oi c P q j (fun x => T a (spr o N (npr (fun i => T e (spr o N i)) N N (pos o N x)))) K) : Runs g 45 59 (d + 4) M_X3_near [.ref (eA g 45), .int x1, .int x2, .int x3] σ K := by
  obtain ⟨hB, hT, hP, hS⟩ := id hI
  obtain ⟨hN, hcap, h8, h9, h10, hp, ho, hc⟩ := id hB
  have hpw := pwN hN.1 hN.2
  refine E_X3_near g (d + 3) _ _ _ σ K (m_isReg (d := d + 2) (fun j hj e1 => ⟨_, rfl, fun q => absurd q n10, fun _ => m_isReg (d := d + 2) (fun a ha e2 => ⟨_, rfl, fun q => absurd q n10, fun _ => m_isReg (d := d + 2) (fun e he e3 => ⟨_, rfl, fun _ => ?_, fun q => absurd q n10⟩) (fun hn => ⟨_, rfl, fun q => absurd rfl q, fun _ => hbad (fun q => hn q.2.2)⟩)⟩) (fun hn => ⟨_, rfl, fun _ => hbad (fun q => hn q.2.1), fun q => absurd rfl q⟩)⟩) (fun hn => ⟨_, rfl, fun _ => hbad (fun q => hn q.1), fun q => absurd rfl q⟩))
  subst e1 e2 e3
  have hcl := cntB_le (T e) (2 ^ N)
  have hcn := cnt_none (f := T e) (n := 2 ^ N)
  refine m_many (d := d + 1) hN hT h9 he ⟨_, rfl, fun q => ?_, fun q => hno j a e hj ha he rfl rfl rfl (hcn.mp (nI_inj (by omega) (by omega) q))⟩
  replace hok := hok j a e hj ha he rfl rfl rfl (fun z => q (by rw [hcn.mpr z]))
  generalize hH : (fun x => T a (spr o N (npr (fun i => T e (spr o N i)) N N (pos o N x)))) = H at hok
  refine fillA (z := 47) (n := 2 ^ N) (h := H) (lv := fun x => [(0, .ref (eA g 45)), (1, .int (nI j)), (2, .int (nI a)), (3, .int (nI e)), (4, .int x)]) (fun x f hx hf nx => ?_) (fun f hf => ?_)
  · have hHx := congrFun hH x
    have hT' : MT (sI (uIf σ 47 f) 46) N T := by rw [sI_uIfn (by decide)]; exact hT
    refine R_X3_near_41 g (d + 3) _ _ _ _ _ _ ⟨fun c => absurd c (ge9 hN h9 hx), fun _ => m_nearest (d := d) hN hT' h8 h9 hp (by rw [sI_uIfn (by decide)]; exact ho) he hx ⟨_, rfl, m_get (d := d + 2) hT' hN ha (spr_lt hp _) ⟨_, rfl, ?_⟩⟩⟩
    rw [vp_iff (by omega), nI_clamp (by omega), nI_1', uI_uIf, bI_vp, hHx]
    exact ⟨by show x < 4096; omega, nx⟩
  · exact R_X3_near_41 g (d + 3) _ _ _ _ _ _ ⟨fun _ => m_puts (d := d) hI hq hj hf hok, fun c => absurd (le9 hN h9) c⟩
end MOD6

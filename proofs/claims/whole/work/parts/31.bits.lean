/-! digits of a number: set one, change two -/
def sbt (i p : Nat) (b : Bool) : Nat := if b then i ||| 2 ^ p else (i ||| 2 ^ p) ^^^ 2 ^ p
theorem testBit_sbt (i p : Nat) (b : Bool) (q : Nat) : (sbt i p b).testBit q = if q = p then b else i.testBit q := by
  unfold sbt
  by_cases h : q = p
  · subst h
    cases b <;> simp
  · have h' : ¬ p = q := fun e => h e.symm
    cases b <;> simp [Nat.testBit_two_pow, h, h']
theorem sbt_lt {i p n : Nat} {b : Bool} (hi : i < 2 ^ n) (hp : p < n) : sbt i p b < 2 ^ n := by
  apply Nat.lt_pow_two_of_testBit
  intro q hq
  rw [testBit_sbt, if_neg (by omega)]
  exact Nat.testBit_lt_two_pow (Nat.lt_of_lt_of_le hi (Nat.pow_le_pow_right (by omega) hq))
theorem sbt_self {i p : Nat} {b : Bool} (h : i.testBit p = b) : sbt i p b = i := by
  apply Nat.eq_of_testBit_eq
  intro q
  rw [testBit_sbt]
  by_cases e : q = p
  · rw [if_pos e, e, h]
  · rw [if_neg e]
def swb (i p q : Nat) : Nat := sbt (sbt i p (i.testBit q)) q (i.testBit p)
theorem testBit_swb (i p q r : Nat) : (swb i p q).testBit r = if r = q then i.testBit p else if r = p then i.testBit q else i.testBit r := by
  unfold swb
  rw [testBit_sbt, testBit_sbt]
theorem swb_lt {i p q n : Nat} (hi : i < 2 ^ n) (hp : p < n) (hq : q < n) : swb i p q < 2 ^ n := sbt_lt (sbt_lt hi hp) hq
theorem swb_comm (i p q : Nat) : swb i p q = swb i q p := by
  apply Nat.eq_of_testBit_eq
  intro r
  rw [testBit_swb, testBit_swb]
  by_cases h1 : r = q <;> by_cases h2 : r = p
  · subst h1; subst h2; simp
  · rw [if_pos h1, if_neg h2, if_pos h1]
  · rw [if_neg h1, if_pos h2, if_pos h2]
  · rw [if_neg h1, if_neg h2, if_neg h2, if_neg h1]
theorem swb_same (i p : Nat) : swb i p p = i := by
  apply Nat.eq_of_testBit_eq
  intro r
  rw [testBit_swb]
  by_cases h1 : r = p
  · rw [if_pos h1, h1]
  · rw [if_neg h1, if_neg h1]
theorem swb_swb (i p q : Nat) : swb (swb i p q) p q = i := by
  apply Nat.eq_of_testBit_eq
  intro r
  rw [testBit_swb, testBit_swb, testBit_swb, testBit_swb]
  by_cases h1 : r = q <;> by_cases h2 : r = p
  · subst h1; subst h2; simp
  · subst h1; simp [h2, Ne.symm h2]
  · subst h2; simp [h1]
  · simp [h1, h2]
/-- 64 bits in a word -/
theorem tbw {j b : Nat} (hb : b < 64) (p : Nat) : (64 * j + b).testBit p = if p < 6 then b.testBit p else j.testBit (p - 6) := Nat.testBit_two_pow_mul_add (i := 6) j hb p
theorem sbt_lo {j b p : Nat} {c : Bool} (hb : b < 64) (hp : p < 6) : sbt (64 * j + b) p c = 64 * j + sbt b p c := by
  have hl : sbt b p c < 64 := sbt_lt (n := 6) hb hp
  apply Nat.eq_of_testBit_eq
  intro q
  rw [testBit_sbt, tbw hb, tbw hl, testBit_sbt]
  by_cases e : q = p
  · subst e; simp [hp]
  · simp [e]
theorem sbt_hi {j b p : Nat} {c : Bool} (hb : b < 64) (hp : 6 ≤ p) : sbt (64 * j + b) p c = 64 * sbt j (p - 6) c + b := by
  apply Nat.eq_of_testBit_eq
  intro q
  rw [testBit_sbt, tbw hb, tbw hb, testBit_sbt]
  by_cases e : q = p
  · subst e; simp [show ¬ q < 6 by omega]
  · by_cases h : q < 6
    · simp [h, e]
    · simp [h, e, show ¬ q - 6 = p - 6 by omega]
def tb (f : Nat → Int64) (i : Nat) : Bool := bt (f (i / 64)) (i % 64)
theorem tb_at (f : Nat → Int64) {j b : Nat} (hb : b < 64) : tb f (64 * j + b) = bt (f j) b := by
  unfold tb
  rw [show (64 * j + b) / 64 = j by omega, show (64 * j + b) % 64 = b by omega]
theorem split64 (i : Nat) : ∃ j b, i = 64 * j + b ∧ b < 64 := ⟨i / 64, i % 64, by omega, by omega⟩
def bI (b : Bool) : Int32 := if b then nI 1 else nI 0
theorem bI_0 {b : Bool} : bI b = nI 0 ↔ b = false := by cases b <;> decide
theorem bI_nar (b : Bool) : narrow .boolean (.int (bI b)) = .int (bI b) := by cases b <;> rfl
theorem bI_vp (b : Bool) : vp_nar .boolean (bI b) = bI b := by cases b <;> rfl
theorem and63 (i : Nat) : nI i &&& nI 63 = nI (i % 64) := by
  rw [nI_and]
  congr 1
  exact Nat.and_two_pow_sub_one_eq_mod i 6
theorem nI_andn (a m : Nat) : nI a &&& (nI m ^^^ (-1)) = nI ((a ||| m) ^^^ m) := by
  apply Int32.toBitVec_inj.mp
  rw [Int32.toBitVec_and, Int32.toBitVec_xor, nI_tb, nI_tb, nI_tb, BitVec.ofNat_xor, BitVec.ofNat_or]
  have e : (-1 : Int32).toBitVec = BitVec.allOnes 32 := by decide
  rw [e]
  apply BitVec.eq_of_getLsbD_eq
  intro i hi
  simp only [BitVec.getLsbD_and, BitVec.getLsbD_xor, BitVec.getLsbD_or, BitVec.getLsbD_allOnes, hi, decide_true, Bool.xor_true]
  cases (BitVec.ofNat 32 a).getLsbD i <;> cases (BitVec.ofNat 32 m).getLsbD i <;> rfl
theorem jshl1 {p : Nat} (hp : p < 31) : jshl (nI 1) (nI p) = nI (2 ^ p) := by
  have h2 : 2 ^ p < 2 ^ 31 := Nat.pow_lt_pow_right (by omega) hp
  rw [jshl_nI (by omega) (by omega), Nat.one_mul]
theorem bt_1 (i : Nat) : bt 1 i = decide (i = 0) := by
  by_cases h : i < 64
  · have : ∀ i : Fin 64, bt 1 i.1 = decide (i.1 = 0) := by decide +kernel
    exact this ⟨i, h⟩
  · rw [bt_hi (by omega)]
    simp
    omega
section BITS
variable {g : Ev} {d : Nat} {σ : St} {K : Option Value → St → Prop}
theorem sp_has {k i : Nat} (hk : lenJ k = 64) (hi : i < 4096) (h : K (some (.int (bI (tb (sL σ k) i)))) σ) : Runs g 0 45 (d + 1) M_X0_has [.ref (eA g k), .int (nI i)] σ K := by
  refine E_X0_has g d _ _ σ K ?_
  rw [jshr_nI (by omega) (by omega), and63, hk, vp_iff (by omega), nI_clamp (by omega)]
  refine ⟨by omega, ?_⟩
  rw [cmp_0]
  have e : ((jlushr (sL σ k (i / 2 ^ 6)) (nI (i % 64)) &&& 1 = 0) ↔ tb (sL σ k) i = false) := by
    constructor
    · intro q
      have := congrArg (fun w => bt w 0) q
      simp only [bt_and, bt_ushr (show i % 64 < 64 by omega), bt_1, bt_0] at this
      simpa [tb] using this
    · intro q
      apply bt_ext
      intro z hz
      rw [bt_and, bt_ushr (by omega), bt_1, bt_0]
      by_cases hz0 : z = 0
      · subst hz0
        unfold tb at q
        simp [q]
      · simp [hz0]
  rw [e]
  constructor
  · intro q
    rw [q] at h
    exact h
  · intro q
    rw [show tb (sL σ k) i = true by cases hq : tb (sL σ k) i <;> simp_all] at h
    exact h
theorem sp_lowOnes {b : Nat} (hb : b < 8192) (hb1 : 1 ≤ b) (h : ∀ w, (∀ i, i < 64 → bt w i = decide (i < b)) → K (some (.long w)) σ) : Runs g 0 45 (d + 1) M_X0_lowOnes [.int (nI b)] σ K := by
  refine E_X0_lowOnes g d _ σ K ⟨fun c => h _ ?_, fun c => h _ ?_⟩
  · have c : b < 64 := (nI_ltI (by omega) (by omega)).mp c
    have : ∀ b : Fin 64, ∀ i : Fin 64, bt (jlshl 1 (nI b.1) - 1) i.1 = decide (i.1 < b.1) := by decide +kernel
    intro i hi
    exact this ⟨b, c⟩ ⟨i, hi⟩
  · have c : ¬ b < 64 := fun q => c ((nI_ltI (by omega) (by omega)).mpr q)
    intro i hi
    rw [bt_m1 hi]
    simp
    omega
theorem sp_letterWord {j p : Nat} (hj : j < 64) (hp : p < 12) (h : ∀ w, (∀ b, b < 64 → bt w b = (64 * j + b).testBit p) → K (some (.long w)) σ) : Runs g 0 45 (d + 1) M_X0_letterWord [.int (nI j), .int (nI p)] σ K := by
  refine E_X0_letterWord g d _ _ σ K ?_
  rw [nI_leI (by omega) (by omega)]
  refine ⟨fun c => ?_, fun c => ?_⟩
  · rw [pk_sub c, jshr_nI (by omega) (by omega), nI_and, nI_eq (by have := @Nat.and_le_right (j / 2 ^ (p - 6)) 1; omega) (by omega)]
    have e : (j / 2 ^ (p - 6) &&& 1 = 0 ↔ j.testBit (p - 6) = false) := by
      rw [Nat.and_one_is_mod, Nat.testBit_eq_decide_div_mod_eq]
      simp
    refine ⟨fun q => h _ fun b hb => ?_, fun q => h _ fun b hb => ?_⟩
    · rw [tbw hb, if_neg (by omega), e.mp q, bt_0]
    · rw [tbw hb, if_neg (by omega), bt_m1 hb]
      cases hz : j.testBit (p - 6)
      · exact absurd (e.mpr hz) q
      · rfl
  · rw [vp_iff (by omega), nI_clamp (by omega)]
    refine ⟨by omega, h _ fun b hb => ?_⟩
    rw [tbw hb, if_pos (by omega), bt_ONE (by omega) hb]
theorem sp_chosenWord {a b c : Int64} (h : ∀ w, (∀ i, i < 64 → bt w i = if bt a i then bt b i else bt c i) → K (some (.long w)) σ) : Runs g 0 45 (d + 1) M_X0_chosenWord [.long a, .long b, .long c] σ K := by
  refine E_X0_chosenWord g d _ _ _ σ K (h _ fun i hi => ?_)
  rw [bt_or, bt_and, bt_and, bt_not hi]
  cases bt a i <;> cases bt b i <;> cases bt c i <;> rfl
theorem sp_shortPart {k i n : Nat} (hk : lenJ k = 64) (hi : i < 4096) (hn : n < 64) (h : ∀ w, (∀ b, b < 64 → bt w b = (decide (b < n) && bt (sL σ k (i / 64)) (b + i % 64))) → K (some (.long w)) σ) : Runs g 0 45 (d + 1) M_X0_shortPart [.ref (eA g k), .int (nI i), .int (nI n)] σ K := by
  refine E_X0_shortPart g d _ _ _ σ K ?_
  rw [jshr_nI (by omega) (by omega), and63, hk, vp_iff (by omega), nI_clamp (by omega)]
  refine ⟨by omega, h _ fun b hb => ?_⟩
  have : ∀ n : Fin 64, ∀ i : Fin 64, bt (jlshl 1 (nI n.1) - 1) i.1 = decide (i.1 < n.1) := by decide +kernel
  rw [bt_and, bt_ushr (by omega), this ⟨n, hn⟩ ⟨b, hb⟩]
  simp only [show (2 : Nat) ^ 6 = 64 from rfl]
  exact Bool.and_comm _ _
theorem sp_fixedWord {k j p : Nat} {one : Bool} (hk : lenJ k = 64) (hj : j < 64) (hp : p < 12) (h : ∀ w, (∀ b, b < 64 → bt w b = tb (sL σ k) (sbt (64 * j + b) p one)) → K (some (.long w)) σ) : Runs g 0 45 (d + 1) M_X0_fixedWord [.ref (eA g k), .int (nI j), .int (nI p), .int (bI one)] σ K := by
  refine E_X0_fixedWord g d _ _ _ _ σ K ?_
  rw [nI_ltI (by omega) (by omega), hk, bI_0]
  refine ⟨fun c => ?_, fun c => ?_⟩
  · have hs : 2 ^ p < 64 := Nat.pow_lt_pow_right (a := 2) (n := 6) (by omega) c
    rw [vp_iff (by omega), vp_iff (by omega), nI_clamp (by omega), nI_clamp (by omega), jshl1 (by omega)]
    refine ⟨fun q => ⟨hj, c, h _ fun b hb => ?_⟩, fun q => ⟨hj, c, h _ fun b hb => ?_⟩⟩
    · have hl : sbt b p one < 64 := sbt_lt (n := 6) hb c
      rw [sbt_lo hb c, tb_at _ hl, bt_or, bt_shl hs, bt_and, bt_and, bt_not hb, bt_ONE c hb]
      subst q
      have tf : ∀ (p : Fin 6) (b : Fin 64), b.1.testBit p.1 = true → sbt b.1 p.1 false = b.1 - 2 ^ p.1 ∧ 2 ^ p.1 ≤ b.1 ∧ (b.1 - 2 ^ p.1).testBit p.1 = false := by decide +kernel
      have tg : ∀ (p : Fin 6) (b : Fin 64), b.1.testBit p.1 = false → sbt b.1 p.1 false = b.1 ∧ (2 ^ p.1 ≤ b.1 → (b.1 - 2 ^ p.1).testBit p.1 = true) := by decide +kernel
      cases ht : b.testBit p
      · obtain ⟨e1, e2⟩ := tg ⟨p, c⟩ ⟨b, hb⟩ ht
        simp only at e1 e2
        rw [e1]
        by_cases hle : 2 ^ p ≤ b
        · have hx : b - 2 ^ p < 64 := Nat.lt_of_le_of_lt (Nat.sub_le _ _) hb
          rw [bt_not hx, bt_ONE c hx, e2 hle]
          simp
        · simp [show b < 2 ^ p by omega]
      · obtain ⟨e1, e2, e3⟩ := tf ⟨p, c⟩ ⟨b, hb⟩ ht
        simp only at e1 e2 e3
        rw [e1, bt_not (by omega), bt_ONE c (by omega), e3]
        simp [hb, show ¬ b < 2 ^ p by omega]
    · have hl : sbt b p one < 64 := sbt_lt (n := 6) hb c
      rw [sbt_lo hb c, tb_at _ hl, bt_or, bt_ushr hs, bt_and, bt_and, bt_ONE c hb]
      have q : one = true := by cases one <;> simp_all
      subst q
      have tf : ∀ (p : Fin 6) (b : Fin 64), b.1.testBit p.1 = false → sbt b.1 p.1 true = b.1 + 2 ^ p.1 ∧ b.1 + 2 ^ p.1 < 64 ∧ (b.1 + 2 ^ p.1).testBit p.1 = true := by decide +kernel
      have tg : ∀ (p : Fin 6) (b : Fin 64), b.1.testBit p.1 = true → sbt b.1 p.1 true = b.1 ∧ (b.1 + 2 ^ p.1 < 64 → (b.1 + 2 ^ p.1).testBit p.1 = false) := by decide +kernel
      cases ht : b.testBit p
      · obtain ⟨e1, e2, e3⟩ := tf ⟨p, c⟩ ⟨b, hb⟩ ht
        simp only at e1 e2 e3
        rw [e1, bt_ONE c e2, e3]
        simp
      · obtain ⟨e1, e2⟩ := tg ⟨p, c⟩ ⟨b, hb⟩ ht
        simp only at e1 e2
        rw [e1]
        by_cases hle : b + 2 ^ p < 64
        · rw [bt_ONE c hle, e2 hle]
          simp
        · rw [bt_hi (i := b + 2 ^ p) (by omega)]
          simp
  · have hs : 2 ^ (p - 6) < 64 := Nat.pow_lt_pow_right (a := 2) (n := 6) (by omega) (by omega)
    rw [pk_sub (by omega), jshl1 (by omega), nI_andn, nI_or]
    have l1 : sbt j (p - 6) true < 64 := sbt_lt (n := 6) hj (by omega)
    have l0 : sbt j (p - 6) false < 64 := sbt_lt (n := 6) hj (by omega)
    refine ⟨fun q => ?_, fun q => ?_⟩
    · show vp_in (nI (sbt j (p - 6) false)) 64 ∧ K (some (.long (sL σ k (nI (sbt j (p - 6) false)).toNatClampNeg))) σ
      rw [vp_iff (by omega), nI_clamp (by omega)]
      refine ⟨l0, h _ fun b hb => ?_⟩
      rw [sbt_hi hb (by omega), tb_at _ hb, q]
    · show vp_in (nI (sbt j (p - 6) true)) 64 ∧ K (some (.long (sL σ k (nI (sbt j (p - 6) true)).toNatClampNeg))) σ
      rw [vp_iff (by omega), nI_clamp (by omega)]
      refine ⟨l1, h _ fun b hb => ?_⟩
      rw [sbt_hi hb (by omega), tb_at _ hb]
      cases one <;> simp_all
end BITS

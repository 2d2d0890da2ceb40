/-! how many: counting bits -/
def cntB (f : Nat → Bool) : Nat → Nat
  | 0 => 0
  | n + 1 => cntB f n + (f n).toNat
theorem cntB_le (f : Nat → Bool) : ∀ n, cntB f n ≤ n
  | 0 => Nat.le_refl _
  | n + 1 => by
    have := cntB_le f n
    show cntB f n + (f n).toNat ≤ n + 1
    have := Bool.toNat_le (f n)
    omega
theorem cntB_congr {f f' : Nat → Bool} : ∀ {n : Nat}, (∀ i, i < n → f i = f' i) → cntB f n = cntB f' n
  | 0, _ => rfl
  | n + 1, h => by
    show cntB f n + (f n).toNat = cntB f' n + (f' n).toNat
    rw [cntB_congr (n := n) (fun i hi => h i (by omega)), h n (by omega)]
theorem cntB_add (f : Nat → Bool) (a : Nat) : ∀ b, cntB f (a + b) = cntB f a + cntB (fun i => f (a + i)) b
  | 0 => rfl
  | b + 1 => by
    show cntB f (a + b) + (f (a + b)).toNat = cntB f a + (cntB (fun i => f (a + i)) b + (f (a + b)).toNat)
    rw [cntB_add f a b]
    omega
theorem cntB_mono {f : Nat → Bool} {a b : Nat} (h : a ≤ b) : cntB f a ≤ cntB f b := by
  obtain ⟨c, rfl⟩ : ∃ c, b = a + c := ⟨b - a, by omega⟩
  rw [cntB_add]
  omega
theorem cntB_crd (f : Nat → Bool) : ∀ n, Crd (fun x => x < n ∧ f x = true) (fun a b : Nat => a = b) (cntB f n)
  | 0 => ⟨fun _ => 0, fun i hi => absurd hi (Nat.not_lt_zero _), fun i j hi => absurd hi (Nat.not_lt_zero _), fun a ha => absurd ha.1 (Nat.not_lt_zero _)⟩
  | n + 1 => by
    obtain ⟨fn, a1, a2, a3⟩ := cntB_crd f n
    show Crd _ _ (cntB f n + (f n).toNat)
    cases hf : f n
    · refine ⟨fn, fun i hi => ⟨by have := (a1 i hi).1; omega, (a1 i hi).2⟩, a2, fun a ha => ?_⟩
      rcases (show a < n ∨ a = n by omega) with h | rfl
      · exact a3 a ⟨h, ha.2⟩
      · rw [hf] at ha
        exact absurd ha.2 (by decide)
    · show Crd _ _ (cntB f n + 1)
      refine ⟨va_up fn (cntB f n) n, fun i hi => ?_, fun i j hi hj e => ?_, fun a ha => ?_⟩
      · by_cases c : i = cntB f n
        · rw [c, up_eq]
          exact ⟨by omega, hf⟩
        · rw [up_ne c]
          have := a1 i (by omega)
          exact ⟨by omega, this.2⟩
      · by_cases c : i = cntB f n <;> by_cases c2 : j = cntB f n
        · omega
        · rw [c, up_eq, up_ne c2] at e
          have := (a1 j (by omega)).1
          omega
        · rw [c2, up_eq, up_ne c] at e
          have := (a1 i (by omega)).1
          omega
        · rw [up_ne c, up_ne c2] at e
          exact a2 i j (by omega) (by omega) e
      · rcases (show a < n ∨ a = n by omega) with h | rfl
        · obtain ⟨i, hi, e⟩ := a3 a ⟨h, ha.2⟩
          exact ⟨i, by omega, by rw [up_ne (by omega)]; exact e⟩
        · exact ⟨cntB f a, by omega, up_eq⟩
/-- the same number in another order -/
theorem cnt_spr {o oi : Nat → Nat} {N : Nat} (hp : Prm o oi N) (f : Nat → Bool) : cntB (fun i => f (spr o N i)) (2 ^ N) = cntB f (2 ^ N) := by
  refine Crd.eq (E := fun a b : Nat => a = b) (P := fun x => x < 2 ^ N ∧ f x = true) (fun a b h => h.symm) (fun a b c h h' => h.trans h') ?_ (cntB_crd f _)
  obtain ⟨fn, a1, a2, a3⟩ := cntB_crd (fun i => f (spr o N i)) (2 ^ N)
  refine ⟨fun i => spr o N (fn i), fun i hi => ⟨spr_lt hp _, (a1 i hi).2⟩, fun i j hi hj e => a2 i j hi hj (spr_inj hp (a1 i hi).1 (a1 j hj).1 e), fun a ha => ?_⟩
  obtain ⟨i, hi, e⟩ := a3 (pos o N a) ⟨pos_lt _, by rw [spr_pos hp ha.1]; exact ha.2⟩
  refine ⟨i, hi, ?_⟩
  show spr o N (fn i) = a
  rw [show fn i = pos o N a from e, spr_pos hp ha.1]
/-- bytes -/
def ofB : List Nat → Nat
  | [] => 0
  | b :: r => b + 256 * ofB r
theorem and_256 {b m R M : Nat} (hb : b < 256) (hm : m < 256) : (b + 256 * R) &&& (m + 256 * M) = (b &&& m) + 256 * (R &&& M) := by
  have hbm : b &&& m < 256 := Nat.lt_of_le_of_lt Nat.and_le_left hb
  apply Nat.eq_of_testBit_eq
  intro q
  rw [Nat.testBit_and, Nat.add_comm b, Nat.add_comm m, Nat.add_comm (b &&& m)]
  rw [Nat.testBit_two_pow_mul_add (i := 8) R hb, Nat.testBit_two_pow_mul_add (i := 8) M hm, Nat.testBit_two_pow_mul_add (i := 8) (R &&& M) hbm]
  split <;> rw [Nat.testBit_and]
theorem ofB_and {m : Nat} (hm : m < 256) : ∀ l : List Nat, (∀ b ∈ l, b < 256) → ofB l &&& ofB (l.map fun _ => m) = ofB (l.map fun b => b &&& m)
  | [], _ => by
    show (0 : Nat) &&& 0 = 0
    simp
  | b :: r, h => by
    show (b + 256 * ofB r) &&& (m + 256 * ofB (r.map fun _ => m)) = (b &&& m) + 256 * ofB (r.map fun b => b &&& m)
    rw [and_256 (h b List.mem_cons_self) hm, ofB_and hm r (fun x hx => h x (List.mem_cons_of_mem _ hx))]
theorem ofB_shr {m s : Nat} (hs : s ≤ 8) (hm : m < 2 ^ (8 - s)) : ∀ l : List Nat, (∀ b ∈ l, b < 256) → (ofB l / 2 ^ s) &&& ofB (l.map fun _ => m) = ofB (l.map fun b => (b / 2 ^ s) &&& m)
  | [], _ => by
    show (0 / 2 ^ s) &&& 0 = 0
    simp
  | b :: r, h => by
    have hb := h b List.mem_cons_self
    have ih := ofB_shr hs hm r (fun x hx => h x (List.mem_cons_of_mem _ hx))
    have h2 : 2 ^ (8 - s) * 2 ^ s = 256 := by rw [← Nat.pow_add, show 8 - s + s = 8 by omega]
    have hps := Nat.two_pow_pos s
    have hbs : b / 2 ^ s < 2 ^ (8 - s) := by
      apply Nat.div_lt_of_lt_mul
      rw [Nat.mul_comm, h2]
      exact hb
    have hle : 2 ^ (8 - s) ≤ 256 := (Nat.pow_le_pow_right (by omega) (by omega) : 2 ^ (8 - s) ≤ 2 ^ 8)
    have e : (b + 256 * ofB r) / 2 ^ s = (b / 2 ^ s + 2 ^ (8 - s) * (ofB r % 2 ^ s)) + 256 * (ofB r / 2 ^ s) := by
      have e1 : b + 256 * ofB r = b + 2 ^ (8 - s) * ofB r * 2 ^ s := by
        rw [Nat.mul_right_comm, h2]
      rw [e1, Nat.add_mul_div_right _ _ hps]
      have e2 := Nat.div_add_mod (ofB r) (2 ^ s)
      have e3 : 2 ^ (8 - s) * ofB r = 256 * (ofB r / 2 ^ s) + 2 ^ (8 - s) * (ofB r % 2 ^ s) := by
        rw [← h2, Nat.mul_assoc, ← Nat.mul_add, e2]
      rw [e3]
      omega
    have hlow : b / 2 ^ s + 2 ^ (8 - s) * (ofB r % 2 ^ s) < 256 := by
      have h5 : ofB r % 2 ^ s + 1 ≤ 2 ^ s := Nat.mod_lt _ hps
      have h6 : 2 ^ (8 - s) * (ofB r % 2 ^ s + 1) ≤ 2 ^ (8 - s) * 2 ^ s := Nat.mul_le_mul_left _ h5
      rw [h2, Nat.mul_add, Nat.mul_one] at h6
      omega
    show ((b + 256 * ofB r) / 2 ^ s) &&& (m + 256 * ofB (r.map fun _ => m)) = ((b / 2 ^ s) &&& m) + 256 * ofB (r.map fun b => (b / 2 ^ s) &&& m)
    rw [e, and_256 hlow (by omega), ih]
    congr 1
    apply Nat.eq_of_testBit_eq
    intro q
    rw [Nat.testBit_and, Nat.testBit_and, Nat.add_comm, Nat.testBit_two_pow_mul_add _ hbs]
    split
    · rfl
    · rw [Nat.testBit_lt_two_pow (Nat.lt_of_lt_of_le hm (Nat.pow_le_pow_right (by omega) (by omega)))]
      simp
theorem ofB_sub {f h : Nat → Nat} : ∀ l : List Nat, (∀ b ∈ l, h b ≤ f b) → ofB (l.map f) = ofB (l.map fun b => f b - h b) + ofB (l.map h)
  | [], _ => rfl
  | b :: r, q => by
    have ih := ofB_sub r (fun x hx => q x (List.mem_cons_of_mem _ hx))
    have := q b List.mem_cons_self
    show f b + 256 * ofB (r.map f) = (f b - h b + 256 * ofB (r.map fun b => f b - h b)) + (h b + 256 * ofB (r.map h))
    omega
theorem ofB_add {f h : Nat → Nat} : ∀ l : List Nat, ofB (l.map f) + ofB (l.map h) = ofB (l.map fun b => f b + h b)
  | [] => rfl
  | b :: r => by
    have ih := ofB_add (f := f) (h := h) r
    show (f b + 256 * ofB (r.map f)) + (h b + 256 * ofB (r.map h)) = f b + h b + 256 * ofB (r.map fun b => f b + h b)
    omega
theorem ofB_nib : ∀ l : List Nat, (∀ b ∈ l, b % 16 ≤ 4 ∧ b / 16 ≤ 4) → (ofB l + ofB l / 16) &&& ofB (l.map fun _ => 15) = ofB (l.map fun b => b % 16 + b / 16)
  | [], _ => rfl
  | b :: r, h => by
    have hb := h b List.mem_cons_self
    have ih := ofB_nib r (fun x hx => h x (List.mem_cons_of_mem _ hx))
    have hr : ofB r % 16 ≤ 4 := by
      cases r with
      | nil => exact Nat.zero_le _
      | cons x r =>
        have := (h x (List.mem_cons_of_mem _ List.mem_cons_self)).1
        show (x + 256 * ofB r) % 16 ≤ 4
        omega
    show ((b + 256 * ofB r) + (b + 256 * ofB r) / 16) &&& (15 + 256 * ofB (r.map fun _ => 15)) = (b % 16 + b / 16) + 256 * ofB (r.map fun b => b % 16 + b / 16)
    have e : (b + 256 * ofB r) + (b + 256 * ofB r) / 16 = (b + b / 16 + 16 * (ofB r % 16)) + 256 * (ofB r + ofB r / 16) := by omega
    rw [e, and_256 (by omega) (by omega), ih]
    congr 1
    rw [show (15 : Nat) = 2 ^ 4 - 1 from rfl, Nat.and_two_pow_sub_one_eq_mod]
    omega
def bytes8 (u : Nat) : List Nat := [u % 256, u / 256 % 256, u / 65536 % 256, u / 16777216 % 256, u / 4294967296 % 256, u / 1099511627776 % 256, u / 281474976710656 % 256, u / 72057594037927936 % 256]
theorem ofB_bytes {u : Nat} (h : u < 2 ^ 64) : ofB (bytes8 u) = u := by
  unfold bytes8
  simp only [ofB]
  omega
theorem bytes8_lt (u : Nat) : ∀ b ∈ bytes8 u, b < 256 := by
  intro b hb
  unfold bytes8 at hb
  simp only [List.mem_cons, List.not_mem_nil, or_false] at hb
  omega
def u64 (w : Int64) : Nat := w.toBitVec.toNat
theorem u64_lt (w : Int64) : u64 w < 2 ^ 64 := w.toBitVec.isLt
theorem u64_and (a b : Int64) : u64 (a &&& b) = u64 a &&& u64 b := by
  unfold u64
  rw [Int64.toBitVec_and, BitVec.toNat_and]
theorem u64_add (a b : Int64) (h : u64 a + u64 b < 2 ^ 64) : u64 (a + b) = u64 a + u64 b := by
  unfold u64 at *
  rw [Int64.toBitVec_add, BitVec.toNat_add, Nat.mod_eq_of_lt h]
theorem u64_sub (a b : Int64) (h : u64 b ≤ u64 a) : u64 (a - b) = u64 a - u64 b := by
  unfold u64 at *
  rw [Int64.toBitVec_sub, BitVec.toNat_sub]
  have := b.toBitVec.isLt
  have := a.toBitVec.isLt
  omega
theorem u64_shr (a : Int64) {s : Nat} (hs : s < 64) : u64 (jlushr a (nI s)) = u64 a / 2 ^ s := by
  have e : (jlushr a (nI s)).toBitVec = a.toBitVec >>> s := by
    apply BitVec.eq_of_getLsbD_eq
    intro i hi
    rw [BitVec.getLsbD_ushiftRight]
    have := bt_ushr (x := a) (i := i) hs
    unfold bt at this
    rw [this, Nat.add_comm]
  unfold u64
  rw [e, BitVec.toNat_ushiftRight, Nat.shiftRight_eq_div_pow]
theorem u64_bit (w : Int64) (i : Nat) : bt w i = (u64 w).testBit i := rfl
def pop1 (b : Nat) : Nat := b - ((b / 2 ^ 1) &&& 0x55)
def pop2 (b : Nat) : Nat := (pop1 b &&& 0x33) + ((pop1 b / 2 ^ 2) &&& 0x33)
theorem pop_ok : ∀ b : Fin 256, (b.1 / 2 ^ 1) &&& 0x55 ≤ b.1 ∧ pop1 b.1 < 256 ∧ pop2 b.1 < 256 ∧ pop2 b.1 % 16 ≤ 4 ∧ pop2 b.1 / 16 ≤ 4 ∧ pop2 b.1 % 16 + pop2 b.1 / 16 = cntB (fun i => b.1.testBit i) 8 := by decide +kernel
section POP
variable {g : Ev} {d : Nat} {σ : St} {K : Option Value → St → Prop}
theorem d256 {x y : Nat} (h : x < 256) : (x + 256 * y) / 2 ^ 8 = y := by omega
theorem d65536 {x y z : Nat} (h : x < 256) (h2 : y < 256) : (x + 256 * (y + 256 * z)) / 2 ^ 16 = z := by omega
theorem d32 {x y : Nat} (h : x < 4294967296) : (x + 4294967296 * y) / 2 ^ 32 = y := by omega
theorem pop_end {a0 : Int64} {q0 q1 q2 q3 q4 q5 q6 q7 r1 r2 r3 r4 r5 r6 r7 : Nat} (c0 : q0 ≤ 8) (c1 : q1 ≤ 8) (c2 : q2 ≤ 8) (c3 : q3 ≤ 8) (c4 : q4 ≤ 8) (c5 : q5 ≤ 8) (c6 : q6 ≤ 8) (c7 : q7 ≤ 8) (h7 : r7 = q7) (h6 : r6 = q6 + 256 * r7) (h5 : r5 = q5 + 256 * r6) (h4 : r4 = q4 + 256 * r5) (h3 : r3 = q3 + 256 * r4) (h2 : r2 = q2 + 256 * r3) (h1 : r1 = q1 + 256 * r2) (h0 : u64 a0 = q0 + 256 * r1) (h : K (some (.int (nI (q0 + q1 + q2 + q3 + q4 + q5 + q6 + q7)))) σ) : WP g 0 45 (d + 1) M_J13_bitCount_95d88 34 [(0, .long a0)] [] σ K := by
  have b7 : r7 < 2 ^ 4 := by rw [h7]; omega
  have b6 : r6 < 2 ^ 12 := by clear h h0 h1 h2 h3 h4 h5 h7; omega
  have b5 : r5 < 2 ^ 20 := by clear h h0 h1 h2 h3 h4 h6 h7; omega
  have b4 : r4 < 2 ^ 28 := by clear h h0 h1 h2 h3 h5 h6 h7; omega
  have b3 : r3 < 2 ^ 36 := by clear h h0 h1 h2 h4 h5 h6 h7; omega
  have b2 : r2 < 2 ^ 44 := by clear h h0 h1 h3 h4 h5 h6 h7; omega
  have b1 : r1 < 2 ^ 52 := by clear h h0 h2 h3 h4 h5 h6 h7; omega
  have b0 : u64 a0 < 2 ^ 60 := by clear h h1 h2 h3 h4 h5 h6 h7; omega
  refine R_J13_bitCount_95d88_34 g d _ σ K ?_
  have t1 : u64 (a0 + jlushr a0 (nI 8)) = u64 a0 + r1 := by
    have e : u64 a0 / 2 ^ 8 = r1 := by rw [h0]; exact d256 (by omega)
    rw [u64_add _ _ (by rw [u64_shr _ (by omega), e]; clear h h0 h1 h2 h3 h4 h5 h6 h7; omega), u64_shr _ (by omega), e]
  generalize a0 + jlushr a0 (nI 8) = a1 at t1
  refine R_J13_bitCount_95d88_41 g d _ σ K ?_
  have f1 : u64 a1 = (q0 + q1) + 256 * ((q1 + q2) + 256 * (r2 + r3)) := by
    rw [t1, h0, h1, h2]
    clear h h0 h1 h2 h3 h4 h5 h6 h7
    omega
  have t2 : u64 (a1 + jlushr a1 (nI 16)) = u64 a1 + (r2 + r3) := by
    have e : u64 a1 / 2 ^ 16 = r2 + r3 := by rw [f1]; exact d65536 (by omega) (by omega)
    rw [u64_add _ _ (by rw [u64_shr _ (by omega), e, t1]; clear h h0 h1 h2 h3 h4 h5 h6 h7 f1; omega), u64_shr _ (by omega), e]
  generalize a1 + jlushr a1 (nI 16) = a2 at t2
  refine R_J13_bitCount_95d88_48 g d _ σ K ?_
  have f2 : u64 a2 = ((q0 + q1 + q2 + q3) + 256 * (q1 + q2 + q3 + q4) + 65536 * (q2 + q3 + q4 + q5) + 16777216 * (q3 + q4 + q5 + q6)) + 4294967296 * (r4 + r5 + r6 + r7) := by
    rw [t2, t1, h0, h1, h2, h3]
    have e4 := h4
    have e5 := h5
    have e6 := h6
    clear h h0 h1 h2 h3 h7 t1 t2 f1 h4 h5 h6
    omega
  have t3 : u64 (a2 + jlushr a2 (nI 32)) = u64 a2 + (r4 + r5 + r6 + r7) := by
    have e : u64 a2 / 2 ^ 32 = r4 + r5 + r6 + r7 := by rw [f2]; exact d32 (by omega)
    rw [u64_add _ _ (by rw [u64_shr _ (by omega), e, t2, t1]; clear h h0 h1 h2 h3 h4 h5 h6 h7 f1 f2; omega), u64_shr _ (by omega), e]
  generalize a2 + jlushr a2 (nI 32) = a3 at t3
  refine R_J13_bitCount_95d88_55 g d _ σ K ?_
  have f3 : u64 a3 = (q0 + q1 + q2 + q3 + q4 + q5 + q6 + q7) + 256 * ((q1 + q2 + q3 + q4) + 256 * (q2 + q3 + q4 + q5) + 65536 * (q3 + q4 + q5 + q6) + 16777216 * (r4 + r5 + r6 + r7) + r5 + r6 + r7) := by
    rw [t3, f2]
    have e4 := h4
    have e5 := h5
    have e6 := h6
    have e7 := h7
    clear h h0 h1 h2 h3 h7 t1 t2 t3 f1 f2 h4 h5 h6
    omega
  have fin : a3.toInt32 &&& nI 127 = nI (q0 + q1 + q2 + q3 + q4 + q5 + q6 + q7) := by
    have e : a3.toInt32 &&& nI 127 = nI (a3.toInt32.toBitVec.toNat % 2 ^ 7) := pk_and _ 7 (pk_tn (by omega))
    have e2 : a3.toInt32.toBitVec.toNat = u64 a3 % 2 ^ 32 := by
      unfold u64
      rw [Int64.toBitVec_toInt32, BitVec.signExtend_eq_setWidth_of_le _ (by omega), BitVec.toNat_setWidth]
    rw [e, e2]
    congr 1
    rw [show (2 : Nat) ^ 32 = 2 ^ 7 * 2 ^ 25 from rfl, Nat.mod_mul_right_mod, f3]
    generalize (q1 + q2 + q3 + q4) + 256 * (q2 + q3 + q4 + q5) + 65536 * (q3 + q4 + q5 + q6) + 16777216 * (r4 + r5 + r6 + r7) + r5 + r6 + r7 = R
    clear h h0 h1 h2 h3 h7 t1 t2 t3 f1 f2 h4 h5 h6 f3 e e2
    omega
  rw [fin]
  exact h
theorem sp_bitCount (w : Int64) (h : K (some (.int (nI (cntB (bt w) 64)))) σ) : Runs g 0 45 (d + 1) M_J13_bitCount_95d88 [.long w] σ K := by
  have hl := bytes8_lt (u64 w)
  have hu := ofB_bytes (u64_lt w)
  have m5 : u64 6148914691236517205 = ofB ((bytes8 (u64 w)).map fun _ => 0x55) := by unfold bytes8; simp only [List.map_cons, List.map_nil, ofB]; decide +kernel
  have m3 : u64 3689348814741910323 = ofB ((bytes8 (u64 w)).map fun _ => 0x33) := by unfold bytes8; simp only [List.map_cons, List.map_nil, ofB]; decide +kernel
  have mf : u64 1085102592571150095 = ofB ((bytes8 (u64 w)).map fun _ => 15) := by unfold bytes8; simp only [List.map_cons, List.map_nil, ofB]; decide +kernel
  generalize hle : bytes8 (u64 w) = l at *
  have mm : ∀ (m : Nat) (f : Nat → Nat), (l.map f).map (fun _ => m) = l.map fun _ => m := fun m f => by rw [List.map_map]; rfl
  have big : ∀ (f : Nat → Nat), (∀ b ∈ l, f b < 256) → ofB (l.map f) < 2 ^ 64 := fun f hf => by
    rw [← hle] at hf ⊢
    unfold bytes8 at *
    simp only [List.map_cons, List.map_nil, ofB, List.mem_cons, List.not_mem_nil, or_false, forall_eq_or_imp, forall_eq] at hf ⊢
    omega
  have pk : ∀ b ∈ l, (b / 2 ^ 1) &&& 0x55 ≤ b ∧ pop1 b < 256 ∧ pop2 b < 256 ∧ pop2 b % 16 ≤ 4 ∧ pop2 b / 16 ≤ 4 ∧ pop2 b % 16 + pop2 b / 16 = cntB (fun i => b.testBit i) 8 := fun b hb => pop_ok ⟨b, hl b hb⟩
  -- first
  refine E_J13_bitCount_95d88 g d _ σ K ?_
  have s1 : u64 (w - (jlushr w (nI 1) &&& 6148914691236517205)) = ofB (l.map pop1) := by
    have e1 : u64 (jlushr w (nI 1) &&& 6148914691236517205) = ofB (l.map fun b => (b / 2 ^ 1) &&& 0x55) := by
      rw [u64_and, u64_shr _ (by omega), m5, ← hu, ofB_shr (by omega) (by decide) l hl]
    have e2 := ofB_sub (f := fun b => b) (h := fun b => (b / 2 ^ 1) &&& 0x55) l (fun b hb => (pk b hb).1)
    rw [List.map_id'] at e2
    rw [u64_sub _ _ (by rw [e1, ← hu]; omega), e1, ← hu]
    show _ = ofB (l.map fun b => b - ((b / 2 ^ 1) &&& 0x55))
    omega
  generalize w - (jlushr w (nI 1) &&& 6148914691236517205) = y at s1
  refine R_J13_bitCount_95d88_10 g d _ σ K ?_
  have hl1 : ∀ b ∈ l.map pop1, b < 256 := fun b hb => by
    obtain ⟨c, hc, rfl⟩ := List.mem_map.mp hb
    exact (pk c hc).2.1
  have s2 : u64 ((y &&& 3689348814741910323) + (jlushr y (nI 2) &&& 3689348814741910323)) = ofB (l.map pop2) := by
    have e1 : u64 (y &&& 3689348814741910323) = ofB (l.map fun b => pop1 b &&& 0x33) := by
      rw [u64_and, s1, m3, ← mm 0x33 pop1, ofB_and (by omega) _ hl1, List.map_map]
      rfl
    have e2 : u64 (jlushr y (nI 2) &&& 3689348814741910323) = ofB (l.map fun b => (pop1 b / 2 ^ 2) &&& 0x33) := by
      rw [u64_and, u64_shr _ (by omega), s1, m3, ← mm 0x33 pop1, ofB_shr (by omega) (by decide) _ hl1, List.map_map]
      rfl
    have e3 := ofB_add (f := fun b => pop1 b &&& 0x33) (h := fun b => (pop1 b / 2 ^ 2) &&& 0x33) l
    rw [u64_add _ _ (by rw [e1, e2, e3]; exact big pop2 (fun b hb => (pk b hb).2.2.1)), e1, e2, e3]
    rfl
  generalize (y &&& 3689348814741910323) + (jlushr y (nI 2) &&& 3689348814741910323) = z at s2
  refine R_J13_bitCount_95d88_24 g d _ σ K ?_
  have s3 : u64 ((z + jlushr z (nI 4)) &&& 1085102592571150095) = ofB (l.map fun b => cntB (fun i => b.testBit i) 8) := by
    have hz : ofB (l.map pop2) < 2 ^ 63 := by
      have hb : ∀ b ∈ l, pop2 b < 69 := fun b hb => by
        have := pk b hb
        omega
      rw [← hle] at hb ⊢
      unfold bytes8 at *
      simp only [List.map_cons, List.map_nil, ofB, List.mem_cons, List.not_mem_nil, or_false, forall_eq_or_imp, forall_eq] at hb ⊢
      omega
    rw [u64_and, u64_add _ _ (by rw [u64_shr _ (by omega), s2]; omega), u64_shr _ (by omega), s2, mf, ← mm 15 pop2, show (2 : Nat) ^ 4 = 16 from rfl, ofB_nib _ (fun b hb => by
      obtain ⟨c, hc, rfl⟩ := List.mem_map.mp hb
      exact ⟨(pk c hc).2.2.2.1, (pk c hc).2.2.2.2.1⟩), List.map_map]
    congr 1
    apply List.map_congr_left
    intro b hb
    exact (pk b hb).2.2.2.2.2
  generalize (z + jlushr z (nI 4)) &&& 1085102592571150095 = a0 at s3
  -- the eight sums
  have tot : ∃ q0 q1 q2 q3 q4 q5 q6 q7 : Nat, (q0 ≤ 8 ∧ q1 ≤ 8 ∧ q2 ≤ 8 ∧ q3 ≤ 8 ∧ q4 ≤ 8 ∧ q5 ≤ 8 ∧ q6 ≤ 8 ∧ q7 ≤ 8) ∧ u64 a0 = q0 + 256 * (q1 + 256 * (q2 + 256 * (q3 + 256 * (q4 + 256 * (q5 + 256 * (q6 + 256 * q7)))))) ∧ cntB (bt w) 64 = q0 + q1 + q2 + q3 + q4 + q5 + q6 + q7 := by
    have tb8 : ∀ s, cntB (fun i => bt w (8 * s + i)) 8 = cntB (fun i => (u64 w / 2 ^ (8 * s) % 256).testBit i) 8 := fun s => cntB_congr fun i hi => by
      rw [u64_bit, show (256 : Nat) = 2 ^ 8 from rfl, Nat.testBit_mod_two_pow, Nat.testBit_div_two_pow, Nat.add_comm i]
      simp [hi]
    refine ⟨cntB (fun i => (u64 w / 2 ^ (8 * 0) % 256).testBit i) 8, cntB (fun i => (u64 w / 2 ^ (8 * 1) % 256).testBit i) 8, cntB (fun i => (u64 w / 2 ^ (8 * 2) % 256).testBit i) 8, cntB (fun i => (u64 w / 2 ^ (8 * 3) % 256).testBit i) 8, cntB (fun i => (u64 w / 2 ^ (8 * 4) % 256).testBit i) 8, cntB (fun i => (u64 w / 2 ^ (8 * 5) % 256).testBit i) 8, cntB (fun i => (u64 w / 2 ^ (8 * 6) % 256).testBit i) 8, cntB (fun i => (u64 w / 2 ^ (8 * 7) % 256).testBit i) 8, ⟨cntB_le _ 8, cntB_le _ 8, cntB_le _ 8, cntB_le _ 8, cntB_le _ 8, cntB_le _ 8, cntB_le _ 8, cntB_le _ 8⟩, ?_, ?_⟩
    · rw [s3, ← hle]
      unfold bytes8
      simp only [List.map_cons, List.map_nil, ofB, Nat.mul_zero, Nat.pow_zero, Nat.div_one]
      rfl
    · rw [← tb8 0, ← tb8 1, ← tb8 2, ← tb8 3, ← tb8 4, ← tb8 5, ← tb8 6, ← tb8 7]
      rw [show (64 : Nat) = 8 + (8 + (8 + (8 + (8 + (8 + (8 + 8)))))) from rfl, cntB_add, cntB_add, cntB_add, cntB_add, cntB_add, cntB_add, cntB_add]
      simp only [Nat.mul_zero, Nat.zero_add, ← Nat.add_assoc]
  obtain ⟨q0, q1, q2, q3, q4, q5, q6, q7, ⟨c0, c1, c2, c3, c4, c5, c6, c7⟩, ha0, hcnt⟩ := tot
  obtain ⟨r7, h7⟩ : ∃ r, r = q7 := ⟨_, rfl⟩
  obtain ⟨r6, h6⟩ : ∃ r, r = q6 + 256 * r7 := ⟨_, rfl⟩
  obtain ⟨r5, h5⟩ : ∃ r, r = q5 + 256 * r6 := ⟨_, rfl⟩
  obtain ⟨r4, h4⟩ : ∃ r, r = q4 + 256 * r5 := ⟨_, rfl⟩
  obtain ⟨r3, h3⟩ : ∃ r, r = q3 + 256 * r4 := ⟨_, rfl⟩
  obtain ⟨r2, h2⟩ : ∃ r, r = q2 + 256 * r3 := ⟨_, rfl⟩
  obtain ⟨r1, h1⟩ : ∃ r, r = q1 + 256 * r2 := ⟨_, rfl⟩
  rw [← h7, ← h6, ← h5, ← h4, ← h3, ← h2, ← h1] at ha0
  exact pop_end c0 c1 c2 c3 c4 c5 c6 c7 h7 h6 h5 h4 h3 h2 h1 ha0 (by rw [← hcnt]; exact h)
end POP

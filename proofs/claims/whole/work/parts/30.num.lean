/-! numbers: ints as nI, bits of longs -/
theorem nI_tb (n : Nat) : (nI n).toBitVec = BitVec.ofNat 32 n := rfl
theorem nI_and (a b : Nat) : nI a &&& nI b = nI (a &&& b) := by
  apply Int32.toBitVec_inj.mp
  rw [Int32.toBitVec_and, nI_tb, nI_tb, nI_tb, BitVec.ofNat_and]
theorem nI_or (a b : Nat) : nI a ||| nI b = nI (a ||| b) := by
  apply Int32.toBitVec_inj.mp
  rw [Int32.toBitVec_or, nI_tb, nI_tb, nI_tb, BitVec.ofNat_or]
theorem nI_xor (a b : Nat) : nI a ^^^ nI b = nI (a ^^^ b) := by
  apply Int32.toBitVec_inj.mp
  rw [Int32.toBitVec_xor, nI_tb, nI_tb, nI_tb, BitVec.ofNat_xor]
theorem nI_31 {s : Nat} (hs : s < 32) : nI s &&& 31 = nI s := by
  show nI s &&& nI 31 = nI s
  rw [nI_and]
  congr 1
  have := Nat.and_two_pow_sub_one_eq_mod s 5
  rw [show (2 ^ 5 - 1 : Nat) = 31 from rfl] at this
  rw [this]
  omega
theorem nI_smod {s : Nat} (hs : s < 32) : ((nI s).toBitVec.smod 32).toNat = s := by
  rw [nI_tb]
  have : ∀ s : Fin 32, ((BitVec.ofNat 32 s.1).smod 32).toNat = s.1 := by decide +kernel
  exact this ⟨s, hs⟩
theorem jshl_nI {a s : Nat} (hs : s < 32) (h : a * 2 ^ s < 2 ^ 32) : jshl (nI a) (nI s) = nI (a * 2 ^ s) := by
  unfold jshl
  rw [nI_31 hs]
  exact pk_shlN (nI s) s (nI_smod hs) h
theorem jshr_nI {a s : Nat} (ha : a < 2 ^ 31) (hs : s < 32) : jshr (nI a) (nI s) = nI (a / 2 ^ s) := by
  unfold jshr
  rw [nI_31 hs]
  exact pk_shrN ha (nI s) s (nI_smod hs)
theorem vp_iff {i n : Nat} (hi : i < 2 ^ 31) : vp_in (nI i) n ↔ i < n := by
  rw [vp_in_iff, nI_toInt hi]
  omega
theorem nI_1' (a : Nat) : nI a + nI 1 = nI (a + 1) := nI_1 a
theorem nI_inj {a b : Nat} (ha : a < 2 ^ 31) (hb : b < 2 ^ 31) (h : nI a = nI b) : a = b := (nI_eq ha hb).mp h
/-- a number in a range, or not -/
theorem nI_cases (x : Int32) {n : Nat} (hn : n < 2 ^ 31) : (∃ j, j < n ∧ x = nI j) ∨ ¬ (nI 0 ≤ x ∧ x < nI n) := by
  rcases pk_ix x hn with h | h | ⟨j, h1, h2⟩
  · right
    intro q
    exact absurd h (Int32.not_lt.mpr q.1)
  · right
    intro q
    exact absurd q.2 (Int32.not_lt.mpr h)
  · exact Or.inl ⟨j, h1, h2⟩
theorem nI_rng {j n : Nat} (h : j < n) (hn : n < 2 ^ 31) : nI 0 ≤ nI j ∧ nI j < nI n := ⟨nI_pos' (by omega), nI_lt h hn⟩
-- bits of a long
def bt (w : Int64) (i : Nat) : Bool := w.toBitVec.getLsbD i
theorem bt_ext {a b : Int64} (h : ∀ i, i < 64 → bt a i = bt b i) : a = b := Int64.toBitVec_inj.mp (BitVec.eq_of_getLsbD_eq fun i hi => h i hi)
theorem bt_hi {a : Int64} {i : Nat} (h : 64 ≤ i) : bt a i = false := BitVec.getLsbD_of_ge _ _ h
theorem bt_and (a b : Int64) (i : Nat) : bt (a &&& b) i = (bt a i && bt b i) := by
  unfold bt
  rw [Int64.toBitVec_and, BitVec.getLsbD_and]
theorem bt_or (a b : Int64) (i : Nat) : bt (a ||| b) i = (bt a i || bt b i) := by
  unfold bt
  rw [Int64.toBitVec_or, BitVec.getLsbD_or]
theorem bt_xor (a b : Int64) (i : Nat) : bt (a ^^^ b) i = (bt a i != bt b i) := by
  unfold bt
  rw [Int64.toBitVec_xor, BitVec.getLsbD_xor]
theorem bt_m1 {i : Nat} (h : i < 64) : bt (-1) i = true := by
  have : ∀ i : Fin 64, bt (-1) i.1 = true := by decide +kernel
  exact this ⟨i, h⟩
theorem bt_0 (i : Nat) : bt 0 i = false := by
  by_cases h : i < 64
  · have : ∀ i : Fin 64, bt 0 i.1 = false := by decide +kernel
    exact this ⟨i, h⟩
  · exact bt_hi (by omega)
theorem bt_not {a : Int64} {i : Nat} (h : i < 64) : bt (a ^^^ (-1)) i = !bt a i := by
  rw [bt_xor, bt_m1 h]
  cases bt a i <;> rfl
theorem nI_toInt64 {s : Nat} (hs : s < 64) : (nI s).toInt64 = Int64.ofNat s := nI_l (by omega)
theorem fin64_and : ∀ s : Fin 64, ((nI s.1).toInt64 &&& 63) = Int64.ofNat s.1 := by decide +kernel
theorem fin64_shr : ∀ s : Fin 64, (((nI s.1).toInt64.toUInt64 &&& Int64.toUInt64 63).toBitVec.toNat % 64) = s.1 := by decide +kernel
theorem fin64_smod : ∀ s : Fin 64, ((Int64.ofNat s.1).toBitVec.smod 64).toNat = s.1 := by decide +kernel
theorem bt_shl {x : Int64} {s i : Nat} (hs : s < 64) : bt (jlshl x (nI s)) i = (decide (i < 64) && !decide (i < s) && bt x (i - s)) := by
  unfold jlshl bt
  rw [fin64_and ⟨s, hs⟩]
  show ((x <<< Int64.ofNat s).toBitVec).getLsbD i = _
  rw [Int64.toBitVec_shiftLeft]
  have e : ((Int64.ofNat s).toBitVec.smod 64).toNat = s := fin64_smod ⟨s, hs⟩
  first
    | (rw [show x.toBitVec <<< ((Int64.ofNat s).toBitVec.smod 64) = x.toBitVec <<< ((Int64.ofNat s).toBitVec.smod 64).toNat from rfl, e, BitVec.getLsbD_shiftLeft])
    | (rw [BitVec.shiftLeft_eq', e, BitVec.getLsbD_shiftLeft])
theorem bt_ushr {x : Int64} {s i : Nat} (hs : s < 64) : bt (jlushr x (nI s)) i = bt x (i + s) := by
  unfold jlushr bt
  have e := fin64_shr ⟨s, hs⟩
  show ((x.toUInt64 >>> ((nI s).toInt64.toUInt64 &&& Int64.toUInt64 63)).toBitVec).getLsbD i = _
  rw [UInt64.toBitVec_shiftRight]
  first
    | (rw [BitVec.ushiftRight_eq', BitVec.toNat_umod, BitVec.getLsbD_ushiftRight]
       rw [show ((nI s).toInt64.toUInt64 &&& Int64.toUInt64 63).toBitVec.toNat % (64 : BitVec 64).toNat = s from e]
       rw [Nat.add_comm s i]; rfl)
    | (simp [BitVec.getLsbD_ushiftRight]; done)
theorem bt_one : ∀ j : Fin 6, ∀ i : Fin 64, bt (fONE j.1) i.1 = i.1.testBit j.1 := by decide +kernel
theorem bt_ONE {j i : Nat} (hj : j < 6) (hi : i < 64) : bt (fONE j) i = i.testBit j := bt_one ⟨j, hj⟩ ⟨i, hi⟩
theorem cmp_0 (x y : Int64) : lg_cmp x y = nI 0 ↔ x = y := by
  unfold lg_cmp
  constructor
  · intro h
    split at h
    · exact absurd h (by decide)
    · split at h
      · assumption
      · exact absurd h (by decide)
  · rintro rfl
    simp
    rfl
-- states
theorem sI_uI {σ : St} {k i : Nat} {x : Int32} : sI (uI σ k i x) k = upd (sI σ k) i x := up_eq
theorem sI_uIn {σ : St} {k k' i : Nat} {x : Int32} (h : k' ≠ k) : sI (uI σ k i x) k' = sI σ k' := up_ne h
theorem sV_uI {σ : St} {k i : Nat} {x : Int32} : sV (uI σ k i x) = sV σ := rfl
theorem sL_uI {σ : St} {k i : Nat} {x : Int32} : sL (uI σ k i x) = sL σ := rfl
theorem sW_uI {σ : St} {k i : Nat} {x : Int32} : sW (uI σ k i x) = sW σ := rfl
theorem sR_uI {σ : St} {k i : Nat} {x : Int32} : sR (uI σ k i x) = sR σ := rfl
theorem sL_uL {σ : St} {k i : Nat} {x : Int64} : sL (uL σ k i x) k = vp_updL (sL σ k) i x := up_eq
theorem sL_uLn {σ : St} {k k' i : Nat} {x : Int64} (h : k' ≠ k) : sL (uL σ k i x) k' = sL σ k' := up_ne h
theorem sV_uL {σ : St} {k i : Nat} {x : Int64} : sV (uL σ k i x) = sV σ := rfl
theorem sI_uL {σ : St} {k i : Nat} {x : Int64} : sI (uL σ k i x) = sI σ := rfl
theorem sW_uL {σ : St} {k i : Nat} {x : Int64} : sW (uL σ k i x) = sW σ := rfl
theorem sR_uL {σ : St} {k i : Nat} {x : Int64} : sR (uL σ k i x) = sR σ := rfl
theorem sL_uLf {σ : St} {k : Nat} {f : Nat → Int64} : sL (uLf σ k f) k = f := up_eq
theorem sL_uLfn {σ : St} {k k' : Nat} {f : Nat → Int64} (h : k' ≠ k) : sL (uLf σ k f) k' = sL σ k' := up_ne h
theorem sV_uLf {σ : St} {k : Nat} {f : Nat → Int64} : sV (uLf σ k f) = sV σ := rfl
theorem sI_uLf {σ : St} {k : Nat} {f : Nat → Int64} : sI (uLf σ k f) = sI σ := rfl
theorem sW_uLf {σ : St} {k : Nat} {f : Nat → Int64} : sW (uLf σ k f) = sW σ := rfl
theorem sR_uLf {σ : St} {k : Nat} {f : Nat → Int64} : sR (uLf σ k f) = sR σ := rfl
theorem sV_uV {σ : St} {k : Nat} {x : Int32} : sV (uV σ k x) k = x := up_eq
theorem sV_uVn {σ : St} {k k' : Nat} {x : Int32} (h : k' ≠ k) : sV (uV σ k x) k' = sV σ k' := up_ne h
theorem sI_uV {σ : St} {k : Nat} {x : Int32} : sI (uV σ k x) = sI σ := rfl
theorem sL_uV {σ : St} {k : Nat} {x : Int32} : sL (uV σ k x) = sL σ := rfl
theorem sW_uV {σ : St} {k : Nat} {x : Int32} : sW (uV σ k x) = sW σ := rfl
theorem sR_uV {σ : St} {k : Nat} {x : Int32} : sR (uV σ k x) = sR σ := rfl
theorem upd_eq {f : Nat → Int32} {k : Nat} {x : Int32} : upd f k x k = x := pk_us
theorem upd_ne {f : Nat → Int32} {k j : Nat} {x : Int32} (h : j ≠ k) : upd f k x j = f j := pk_un h
theorem updL_eq {f : Nat → Int64} {k : Nat} {x : Int64} : vp_updL f k x k = x := pk_uLs
theorem updL_ne {f : Nat → Int64} {k j : Nat} {x : Int64} (h : j ≠ k) : vp_updL f k x j = f j := pk_uLn h
/-- a loop that counts up -/
theorem up_to {P : Nat → Prop} (e : Nat) (h0 : P e) (hs : ∀ i, i < e → P (i + 1) → P i) : ∀ i, i ≤ e → P i := by
  intro i hi
  induction h : e - i generalizing i with
  | zero => rw [show i = e by omega]; exact h0
  | succ n ih => exact hs i (by omega) (ih (i + 1) (by omega) (by omega))

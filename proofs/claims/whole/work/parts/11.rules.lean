section RULES
variable {g : Ev} {lo hi d : Nat} {M : Mt} {pc : Nat} {lv lv' : List (Nat × Value)} {st : List Value} {σ : St} {K : Option Value → St → Prop}
theorem wp_sub (ks : List Nat) (hl : lv_pick lv ks = lv') (k : WP g lo hi d M pc lv' st σ K) : WP g lo hi d M pc lv st σ K :=
  fun p e s m args below meth c F H locs ls hP hS h => k p e s m args below meth c F H locs ls hP hS (lv_sub h ks hl)
-- constants
theorem wp_iconst {n : Int} (v : Int32) (hd : decode (mC M) pc = .ok (.iconst n, 1)) (hv : Int32.ofInt n = v) (k : WP g lo hi d M (pc + 1) lv (.int v :: st) σ K) : WP g lo hi d M pc lv st σ K :=
  fun p e s m args below meth c F H locs ls hP hS h => lv_iconst F.1 F.2.1 hd hv (k p e s m args below meth c F H locs ls hP hS h)
theorem wp_bipush {n : Int} (v : Int32) (hd : decode (mC M) pc = .ok (.bipush n, 2)) (hv : (Int8.ofInt n).toInt32 = v) (k : WP g lo hi d M (pc + 2) lv (.int v :: st) σ K) : WP g lo hi d M pc lv st σ K :=
  fun p e s m args below meth c F H locs ls hP hS h => lv_bipush F.1 F.2.1 hd hv (k p e s m args below meth c F H locs ls hP hS h)
theorem wp_sipush {n : Int} (v : Int32) (hd : decode (mC M) pc = .ok (.sipush n, 3)) (hv : (Int16.ofInt n).toInt32 = v) (k : WP g lo hi d M (pc + 3) lv (.int v :: st) σ K) : WP g lo hi d M pc lv st σ K :=
  fun p e s m args below meth c F H locs ls hP hS h => lv_sipush F.1 F.2.1 hd hv (k p e s m args below meth c F H locs ls hP hS h)
theorem wp_lconst {n : Fin 2} (v : Int64) (hd : decode (mC M) pc = .ok (.lconst n, 1)) (hv : Int64.ofNat (n : Nat) = v) (k : WP g lo hi d M (pc + 1) lv (.long v :: st) σ K) : WP g lo hi d M pc lv st σ K :=
  fun p e s m args below meth c F H locs ls hP hS h => lv_lconst F.1 F.2.1 hd hv (k p e s m args below meth c F H locs ls hP hS h)
theorem wp_ldc {i : Nat} {v : Int32} (hw : Cond.constant (mY M).cls i v ∈ lw_good) (hd : decode (mC M) pc = .ok (.ldc i, 2)) (k : WP g lo hi d M (pc + 2) lv (.int v :: st) σ K) : WP g lo hi d M pc lv st σ K :=
  fun p e s m args below meth c F H locs ls hP hS h => lv_ldc F.1 F.2.1 F.2.2.2.2.1 (F.2.2.2.2.2.1 _ hw) hd (k p e s m args below meth c F H locs ls hP hS h)
theorem wp_ldcw {i : Nat} {v : Int32} (hw : Cond.constant (mY M).cls i v ∈ lw_good) (hd : decode (mC M) pc = .ok (.ldc_w i, 3)) (k : WP g lo hi d M (pc + 3) lv (.int v :: st) σ K) : WP g lo hi d M pc lv st σ K :=
  fun p e s m args below meth c F H locs ls hP hS h => lv_ldcw F.1 F.2.1 F.2.2.2.2.1 (F.2.2.2.2.2.1 _ hw) hd (k p e s m args below meth c F H locs ls hP hS h)
theorem wp_ldc2 {i : Nat} {v : Int64} (hw : Cond.constantLong (mY M).cls i v ∈ lw_good) (hd : decode (mC M) pc = .ok (.ldc2_w i, 3)) (k : WP g lo hi d M (pc + 3) lv (.long v :: st) σ K) : WP g lo hi d M pc lv st σ K :=
  fun p e s m args below meth c F H locs ls hP hS h => lv_ldc2 F.1 F.2.1 F.2.2.2.2.1 (F.2.2.2.2.2.1 _ hw) hd (k p e s m args below meth c F H locs ls hP hS h)
-- locals
theorem wp_iload_n (q : Nat) {n : Fin 4} {i : Nat} {x : Int32} (hd : decode (mC M) pc = .ok (.iload_n n, 1)) (hi' : (n : Nat) = i) (hq : lv[q]? = some (i, .int x)) (k : WP g lo hi d M (pc + 1) lv (.int x :: st) σ K) : WP g lo hi d M pc lv st σ K :=
  fun p e s m args below meth c F H locs ls hP hS h => lv_iload_n F.1 F.2.1 hd hi' (lv_at h q hq) (k p e s m args below meth c F H locs ls hP hS h)
theorem wp_iload (q : Nat) {i : Nat} {x : Int32} (hd : decode (mC M) pc = .ok (.iload i, 2)) (hq : lv[q]? = some (i, .int x)) (k : WP g lo hi d M (pc + 2) lv (.int x :: st) σ K) : WP g lo hi d M pc lv st σ K :=
  fun p e s m args below meth c F H locs ls hP hS h => lv_iload F.1 F.2.1 hd (lv_at h q hq) (k p e s m args below meth c F H locs ls hP hS h)
theorem wp_lload_n (q : Nat) {n : Fin 4} {i : Nat} {x : Int64} (hd : decode (mC M) pc = .ok (.lload_n n, 1)) (hi' : (n : Nat) = i) (hq : lv[q]? = some (i, .long x)) (k : WP g lo hi d M (pc + 1) lv (.long x :: st) σ K) : WP g lo hi d M pc lv st σ K :=
  fun p e s m args below meth c F H locs ls hP hS h => lv_lload_n F.1 F.2.1 hd hi' (lv_at h q hq) (k p e s m args below meth c F H locs ls hP hS h)
theorem wp_lload (q : Nat) {i : Nat} {x : Int64} (hd : decode (mC M) pc = .ok (.lload i, 2)) (hq : lv[q]? = some (i, .long x)) (k : WP g lo hi d M (pc + 2) lv (.long x :: st) σ K) : WP g lo hi d M pc lv st σ K :=
  fun p e s m args below meth c F H locs ls hP hS h => lv_lload F.1 F.2.1 hd (lv_at h q hq) (k p e s m args below meth c F H locs ls hP hS h)
theorem wp_aload_n (q : Nat) {n : Fin 4} {i : Nat} {x : Nat} (hd : decode (mC M) pc = .ok (.aload_n n, 1)) (hi' : (n : Nat) = i) (hq : lv[q]? = some (i, .ref x)) (k : WP g lo hi d M (pc + 1) lv (.ref x :: st) σ K) : WP g lo hi d M pc lv st σ K :=
  fun p e s m args below meth c F H locs ls hP hS h => lv_aload_n F.1 F.2.1 hd hi' (lv_at h q hq) (k p e s m args below meth c F H locs ls hP hS h)
theorem wp_aload (q : Nat) {i : Nat} {x : Nat} (hd : decode (mC M) pc = .ok (.aload i, 2)) (hq : lv[q]? = some (i, .ref x)) (k : WP g lo hi d M (pc + 2) lv (.ref x :: st) σ K) : WP g lo hi d M pc lv st σ K :=
  fun p e s m args below meth c F H locs ls hP hS h => lv_aload F.1 F.2.1 hd (lv_at h q hq) (k p e s m args below meth c F H locs ls hP hS h)
def st1 (lv : List (Nat × Value)) (i : Nat) (v : Value) : List (Nat × Value) := (i, v) :: lv.filter (fun q => !(q.1 == i) && !(q.1 + 1 == i && q.2.category == 2))
def st2 (lv : List (Nat × Value)) (i : Nat) (v : Value) : List (Nat × Value) := (i, v) :: lv.filter (fun q => !(q.1 == i) && (!(q.1 == i + 1) && !(q.1 + 1 == i && q.2.category == 2)))
theorem wp_istore_n {n : Fin 4} {i : Nat} {x : Int32} (hd : decode (mC M) pc = .ok (.istore_n n, 1)) (hi' : (n : Nat) = i) (hn : i < mN M) (hl : st1 lv i (.int x) = lv') (k : WP g lo hi d M (pc + 1) lv' st σ K) : WP g lo hi d M pc lv (.int x :: st) σ K :=
  fun p e s m args below meth c F H locs ls hP hS h => lv_istore_n F.1 F.2.1 hd hi' h hn hl (fun ls h => k p e s m args below meth c F H locs ls hP hS h)
theorem wp_istore {i : Nat} {x : Int32} (hd : decode (mC M) pc = .ok (.istore i, 2)) (hn : i < mN M) (hl : st1 lv i (.int x) = lv') (k : WP g lo hi d M (pc + 2) lv' st σ K) : WP g lo hi d M pc lv (.int x :: st) σ K :=
  fun p e s m args below meth c F H locs ls hP hS h => lv_istore F.1 F.2.1 hd h hn hl (fun ls h => k p e s m args below meth c F H locs ls hP hS h)
theorem wp_astore_n {n : Fin 4} {i : Nat} {x : Nat} (hd : decode (mC M) pc = .ok (.astore_n n, 1)) (hi' : (n : Nat) = i) (hn : i < mN M) (hl : st1 lv i (.ref x) = lv') (k : WP g lo hi d M (pc + 1) lv' st σ K) : WP g lo hi d M pc lv (.ref x :: st) σ K :=
  fun p e s m args below meth c F H locs ls hP hS h => lv_astore_n F.1 F.2.1 hd hi' h hn hl (fun ls h => k p e s m args below meth c F H locs ls hP hS h)
theorem wp_astore {i : Nat} {x : Nat} (hd : decode (mC M) pc = .ok (.astore i, 2)) (hn : i < mN M) (hl : st1 lv i (.ref x) = lv') (k : WP g lo hi d M (pc + 2) lv' st σ K) : WP g lo hi d M pc lv (.ref x :: st) σ K :=
  fun p e s m args below meth c F H locs ls hP hS h => lv_astore F.1 F.2.1 hd h hn hl (fun ls h => k p e s m args below meth c F H locs ls hP hS h)
theorem wp_lstore_n {n : Fin 4} {i : Nat} {x : Int64} (hd : decode (mC M) pc = .ok (.lstore_n n, 1)) (hi' : (n : Nat) = i) (hn : i + 1 < mN M) (hl : st2 lv i (.long x) = lv') (k : WP g lo hi d M (pc + 1) lv' st σ K) : WP g lo hi d M pc lv (.long x :: st) σ K :=
  fun p e s m args below meth c F H locs ls hP hS h => lv_lstore_n F.1 F.2.1 hd hi' h hn hl (fun ls h => k p e s m args below meth c F H locs ls hP hS h)
theorem wp_lstore {i : Nat} {x : Int64} (hd : decode (mC M) pc = .ok (.lstore i, 2)) (hn : i + 1 < mN M) (hl : st2 lv i (.long x) = lv') (k : WP g lo hi d M (pc + 2) lv' st σ K) : WP g lo hi d M pc lv (.long x :: st) σ K :=
  fun p e s m args below meth c F H locs ls hP hS h => lv_lstore F.1 F.2.1 hd h hn hl (fun ls h => k p e s m args below meth c F H locs ls hP hS h)
theorem wp_iinc (q : Nat) {i : Nat} {n : Int} {x : Int32} (b : Int32) (hd : decode (mC M) pc = .ok (.iinc i n, 3)) (hb : Int32.ofInt n = b) (hq : lv[q]? = some (i, .int x)) (hn : i < mN M) (hl : st1 lv i (.int (x + b)) = lv') (k : WP g lo hi d M (pc + 3) lv' st σ K) : WP g lo hi d M pc lv st σ K :=
  fun p e s m args below meth c F H locs ls hP hS h => lv_iinc F.1 F.2.1 hd h hq (by rw [hb]) hn hl (fun ls h => k p e s m args below meth c F H locs ls hP hS h)
-- arithmetic
def jshl (x y : Int32) : Int32 := x <<< (y &&& 31)
def jshr (x y : Int32) : Int32 := x >>> (y &&& 31)
def jlshl (x : Int64) (y : Int32) : Int64 := x <<< (y.toInt64 &&& 63)
def jlushr (x : Int64) (y : Int32) : Int64 := (x.toUInt64 >>> (y.toInt64.toUInt64 &&& Int64.toUInt64 63)).toInt64
theorem wp_iadd {x y : Int32} (hd : decode (mC M) pc = .ok (.iadd, 1)) (k : WP g lo hi d M (pc + 1) lv (.int (x + y) :: st) σ K) : WP g lo hi d M pc lv (.int y :: .int x :: st) σ K :=
  fun p e s m args below meth c F H locs ls hP hS h => lv_iadd F.1 F.2.1 hd (k p e s m args below meth c F H locs ls hP hS h)
theorem wp_isub {x y : Int32} (hd : decode (mC M) pc = .ok (.isub, 1)) (k : WP g lo hi d M (pc + 1) lv (.int (x - y) :: st) σ K) : WP g lo hi d M pc lv (.int y :: .int x :: st) σ K :=
  fun p e s m args below meth c F H locs ls hP hS h => lv_isub F.1 F.2.1 hd (k p e s m args below meth c F H locs ls hP hS h)
theorem wp_imul {x y : Int32} (hd : decode (mC M) pc = .ok (.imul, 1)) (k : WP g lo hi d M (pc + 1) lv (.int (x * y) :: st) σ K) : WP g lo hi d M pc lv (.int y :: .int x :: st) σ K :=
  fun p e s m args below meth c F H locs ls hP hS h => lv_imul F.1 F.2.1 hd (k p e s m args below meth c F H locs ls hP hS h)
theorem wp_iand {x y : Int32} (hd : decode (mC M) pc = .ok (.iand, 1)) (k : WP g lo hi d M (pc + 1) lv (.int (x &&& y) :: st) σ K) : WP g lo hi d M pc lv (.int y :: .int x :: st) σ K :=
  fun p e s m args below meth c F H locs ls hP hS h => lv_iand F.1 F.2.1 hd (k p e s m args below meth c F H locs ls hP hS h)
theorem wp_ior {x y : Int32} (hd : decode (mC M) pc = .ok (.ior, 1)) (k : WP g lo hi d M (pc + 1) lv (.int (x ||| y) :: st) σ K) : WP g lo hi d M pc lv (.int y :: .int x :: st) σ K :=
  fun p e s m args below meth c F H locs ls hP hS h => lv_ior F.1 F.2.1 hd (k p e s m args below meth c F H locs ls hP hS h)
theorem wp_ixor {x y : Int32} (hd : decode (mC M) pc = .ok (.ixor, 1)) (k : WP g lo hi d M (pc + 1) lv (.int (x ^^^ y) :: st) σ K) : WP g lo hi d M pc lv (.int y :: .int x :: st) σ K :=
  fun p e s m args below meth c F H locs ls hP hS h => lv_ixor F.1 F.2.1 hd (k p e s m args below meth c F H locs ls hP hS h)
theorem wp_ishl {x y : Int32} (hd : decode (mC M) pc = .ok (.ishl, 1)) (k : WP g lo hi d M (pc + 1) lv (.int (jshl x y) :: st) σ K) : WP g lo hi d M pc lv (.int y :: .int x :: st) σ K :=
  fun p e s m args below meth c F H locs ls hP hS h => lv_ishl F.1 F.2.1 hd (k p e s m args below meth c F H locs ls hP hS h)
theorem wp_ishr {x y : Int32} (hd : decode (mC M) pc = .ok (.ishr, 1)) (k : WP g lo hi d M (pc + 1) lv (.int (jshr x y) :: st) σ K) : WP g lo hi d M pc lv (.int y :: .int x :: st) σ K :=
  fun p e s m args below meth c F H locs ls hP hS h => lv_ishr F.1 F.2.1 hd (k p e s m args below meth c F H locs ls hP hS h)
theorem wp_ladd {x y : Int64} (hd : decode (mC M) pc = .ok (.ladd, 1)) (k : WP g lo hi d M (pc + 1) lv (.long (x + y) :: st) σ K) : WP g lo hi d M pc lv (.long y :: .long x :: st) σ K :=
  fun p e s m args below meth c F H locs ls hP hS h => lv_ladd F.1 F.2.1 hd (k p e s m args below meth c F H locs ls hP hS h)
theorem wp_lsub {x y : Int64} (hd : decode (mC M) pc = .ok (.lsub, 1)) (k : WP g lo hi d M (pc + 1) lv (.long (x - y) :: st) σ K) : WP g lo hi d M pc lv (.long y :: .long x :: st) σ K :=
  fun p e s m args below meth c F H locs ls hP hS h => lv_lsub F.1 F.2.1 hd (k p e s m args below meth c F H locs ls hP hS h)
theorem wp_lmul {x y : Int64} (hd : decode (mC M) pc = .ok (.lmul, 1)) (k : WP g lo hi d M (pc + 1) lv (.long (x * y) :: st) σ K) : WP g lo hi d M pc lv (.long y :: .long x :: st) σ K :=
  fun p e s m args below meth c F H locs ls hP hS h => lv_lmul F.1 F.2.1 hd (k p e s m args below meth c F H locs ls hP hS h)
theorem wp_land {x y : Int64} (hd : decode (mC M) pc = .ok (.land, 1)) (k : WP g lo hi d M (pc + 1) lv (.long (x &&& y) :: st) σ K) : WP g lo hi d M pc lv (.long y :: .long x :: st) σ K :=
  fun p e s m args below meth c F H locs ls hP hS h => lv_land F.1 F.2.1 hd (k p e s m args below meth c F H locs ls hP hS h)
theorem wp_lor {x y : Int64} (hd : decode (mC M) pc = .ok (.lor, 1)) (k : WP g lo hi d M (pc + 1) lv (.long (x ||| y) :: st) σ K) : WP g lo hi d M pc lv (.long y :: .long x :: st) σ K :=
  fun p e s m args below meth c F H locs ls hP hS h => lv_lor F.1 F.2.1 hd (k p e s m args below meth c F H locs ls hP hS h)
theorem wp_lxor {x y : Int64} (hd : decode (mC M) pc = .ok (.lxor, 1)) (k : WP g lo hi d M (pc + 1) lv (.long (x ^^^ y) :: st) σ K) : WP g lo hi d M pc lv (.long y :: .long x :: st) σ K :=
  fun p e s m args below meth c F H locs ls hP hS h => lv_lxor F.1 F.2.1 hd (k p e s m args below meth c F H locs ls hP hS h)
theorem wp_lcmp {x y : Int64} (hd : decode (mC M) pc = .ok (.lcmp, 1)) (k : WP g lo hi d M (pc + 1) lv (.int (lg_cmp x y) :: st) σ K) : WP g lo hi d M pc lv (.long y :: .long x :: st) σ K :=
  fun p e s m args below meth c F H locs ls hP hS h => W.lcmp F.1 F.2.1 hd (k p e s m args below meth c F H locs ls hP hS h)
theorem wp_lshl {x : Int64} {y : Int32} (hd : decode (mC M) pc = .ok (.lshl, 1)) (k : WP g lo hi d M (pc + 1) lv (.long (jlshl x y) :: st) σ K) : WP g lo hi d M pc lv (.int y :: .long x :: st) σ K :=
  fun p e s m args below meth c F H locs ls hP hS h => lv_lshl F.1 F.2.1 hd rfl (k p e s m args below meth c F H locs ls hP hS h)
theorem wp_lushr {x : Int64} {y : Int32} (hd : decode (mC M) pc = .ok (.lushr, 1)) (k : WP g lo hi d M (pc + 1) lv (.long (jlushr x y) :: st) σ K) : WP g lo hi d M pc lv (.int y :: .long x :: st) σ K :=
  fun p e s m args below meth c F H locs ls hP hS h => lv_lushr F.1 F.2.1 hd rfl (k p e s m args below meth c F H locs ls hP hS h)
theorem wp_l2i {x : Int64} (hd : decode (mC M) pc = .ok (.l2i, 1)) (k : WP g lo hi d M (pc + 1) lv (.int x.toInt32 :: st) σ K) : WP g lo hi d M pc lv (.long x :: st) σ K :=
  fun p e s m args below meth c F H locs ls hP hS h => lv_l2i F.1 F.2.1 hd rfl (k p e s m args below meth c F H locs ls hP hS h)
theorem wp_dup {v : Value} (hd : decode (mC M) pc = .ok (.dup, 1)) (hv : v.category = 1) (k : WP g lo hi d M (pc + 1) lv (v :: v :: st) σ K) : WP g lo hi d M pc lv (v :: st) σ K :=
  fun p e s m args below meth c F H locs ls hP hS h => lv_dup F.1 F.2.1 hd hv (k p e s m args below meth c F H locs ls hP hS h)
theorem wp_pop {v : Value} (hd : decode (mC M) pc = .ok (.pop, 1)) (hv : v.category = 1) (k : WP g lo hi d M (pc + 1) lv st σ K) : WP g lo hi d M pc lv (v :: st) σ K :=
  fun p e s m args below meth c F H locs ls hP hS h => lv_pop F.1 F.2.1 hd hv (k p e s m args below meth c F H locs ls hP hS h)
theorem wp_dup2 {v w : Value} (hd : decode (mC M) pc = .ok (.dup2, 1)) (hv : v.category = 1) (hw : w.category = 1) (k : WP g lo hi d M (pc + 1) lv (v :: w :: v :: w :: st) σ K) : WP g lo hi d M pc lv (v :: w :: st) σ K :=
  fun p e s m args below meth c F H locs ls hP hS h => lv_dup2_11 F.1 F.2.1 hd hv hw (k p e s m args below meth c F H locs ls hP hS h)
theorem wp_dup_x1 {v w : Value} (hd : decode (mC M) pc = .ok (.dup_x1, 1)) (hv : v.category = 1) (hw : w.category = 1) (k : WP g lo hi d M (pc + 1) lv (v :: w :: v :: st) σ K) : WP g lo hi d M pc lv (v :: w :: st) σ K :=
  fun p e s m args below meth c F H locs ls hP hS h => lv_dup_x1 F.1 F.2.1 hd hv hw (k p e s m args below meth c F H locs ls hP hS h)
theorem wp_goto {off : Int} (t : Nat) (hd : decode (mC M) pc = .ok (.goto off, 3)) (ht : (pc : Int) + off = (t : Int)) (k : WP g lo hi d M t lv st σ K) : WP g lo hi d M pc lv st σ K :=
  fun p e s m args below meth c F H locs ls hP hS h => lv_goto F.1 F.2.1 hd ht (k p e s m args below meth c F H locs ls hP hS h)
theorem wp_if_eq {x : Int32} {off : Int} (t : Nat) (hd : decode (mC M) pc = .ok (.ifCond .eq off, 3)) (ht : (pc : Int) + off = (t : Int)) (kt : x = nI 0 → WP g lo hi d M t lv st σ K) (kf : ¬ x = nI 0 → WP g lo hi d M (pc + 3) lv st σ K) : WP g lo hi d M pc lv (.int x :: st) σ K :=
  fun p e s m args below meth c F H locs ls hP hS h => lv_if_eq F.1 F.2.1 hd ht (fun q => kt q p e s m args below meth c F H locs ls hP hS h) (fun q => kf q p e s m args below meth c F H locs ls hP hS h)
theorem wp_if_ne {x : Int32} {off : Int} (t : Nat) (hd : decode (mC M) pc = .ok (.ifCond .ne off, 3)) (ht : (pc : Int) + off = (t : Int)) (kt : ¬ x = nI 0 → WP g lo hi d M t lv st σ K) (kf : x = nI 0 → WP g lo hi d M (pc + 3) lv st σ K) : WP g lo hi d M pc lv (.int x :: st) σ K :=
  fun p e s m args below meth c F H locs ls hP hS h => lv_if_ne F.1 F.2.1 hd ht (fun q => kt q p e s m args below meth c F H locs ls hP hS h) (fun q => kf q p e s m args below meth c F H locs ls hP hS h)
theorem wp_if_lt {x : Int32} {off : Int} (t : Nat) (hd : decode (mC M) pc = .ok (.ifCond .lt off, 3)) (ht : (pc : Int) + off = (t : Int)) (kt : x < nI 0 → WP g lo hi d M t lv st σ K) (kf : ¬ x < nI 0 → WP g lo hi d M (pc + 3) lv st σ K) : WP g lo hi d M pc lv (.int x :: st) σ K :=
  fun p e s m args below meth c F H locs ls hP hS h => lv_if_lt F.1 F.2.1 hd ht (fun q => kt q p e s m args below meth c F H locs ls hP hS h) (fun q => kf q p e s m args below meth c F H locs ls hP hS h)
theorem wp_if_ge {x : Int32} {off : Int} (t : Nat) (hd : decode (mC M) pc = .ok (.ifCond .ge off, 3)) (ht : (pc : Int) + off = (t : Int)) (kt : nI 0 ≤ x → WP g lo hi d M t lv st σ K) (kf : ¬ nI 0 ≤ x → WP g lo hi d M (pc + 3) lv st σ K) : WP g lo hi d M pc lv (.int x :: st) σ K :=
  fun p e s m args below meth c F H locs ls hP hS h => lv_if_ge F.1 F.2.1 hd ht (fun q => kt q p e s m args below meth c F H locs ls hP hS h) (fun q => kf q p e s m args below meth c F H locs ls hP hS h)
theorem wp_if_le {x : Int32} {off : Int} (t : Nat) (hd : decode (mC M) pc = .ok (.ifCond .le off, 3)) (ht : (pc : Int) + off = (t : Int)) (kt : x ≤ nI 0 → WP g lo hi d M t lv st σ K) (kf : ¬ x ≤ nI 0 → WP g lo hi d M (pc + 3) lv st σ K) : WP g lo hi d M pc lv (.int x :: st) σ K :=
  fun p e s m args below meth c F H locs ls hP hS h => lv_if_le F.1 F.2.1 hd ht (fun q => kt q p e s m args below meth c F H locs ls hP hS h) (fun q => kf q p e s m args below meth c F H locs ls hP hS h)
theorem wp_icmp_eq {x y : Int32} {off : Int} (t : Nat) (hd : decode (mC M) pc = .ok (.if_icmp .eq off, 3)) (ht : (pc : Int) + off = (t : Int)) (kt : x = y → WP g lo hi d M t lv st σ K) (kf : ¬ x = y → WP g lo hi d M (pc + 3) lv st σ K) : WP g lo hi d M pc lv (.int y :: .int x :: st) σ K :=
  fun p e s m args below meth c F H locs ls hP hS h => lv_icmp_eq F.1 F.2.1 hd ht (fun q => kt q p e s m args below meth c F H locs ls hP hS h) (fun q => kf q p e s m args below meth c F H locs ls hP hS h)
theorem wp_icmp_ne {x y : Int32} {off : Int} (t : Nat) (hd : decode (mC M) pc = .ok (.if_icmp .ne off, 3)) (ht : (pc : Int) + off = (t : Int)) (kt : ¬ x = y → WP g lo hi d M t lv st σ K) (kf : x = y → WP g lo hi d M (pc + 3) lv st σ K) : WP g lo hi d M pc lv (.int y :: .int x :: st) σ K :=
  fun p e s m args below meth c F H locs ls hP hS h => lv_icmp_ne F.1 F.2.1 hd ht (fun q => kt q p e s m args below meth c F H locs ls hP hS h) (fun q => kf q p e s m args below meth c F H locs ls hP hS h)
theorem wp_icmp_lt {x y : Int32} {off : Int} (t : Nat) (hd : decode (mC M) pc = .ok (.if_icmp .lt off, 3)) (ht : (pc : Int) + off = (t : Int)) (kt : x < y → WP g lo hi d M t lv st σ K) (kf : ¬ x < y → WP g lo hi d M (pc + 3) lv st σ K) : WP g lo hi d M pc lv (.int y :: .int x :: st) σ K :=
  fun p e s m args below meth c F H locs ls hP hS h => lv_icmp_lt F.1 F.2.1 hd ht (fun q => kt q p e s m args below meth c F H locs ls hP hS h) (fun q => kf q p e s m args below meth c F H locs ls hP hS h)
theorem wp_icmp_ge {x y : Int32} {off : Int} (t : Nat) (hd : decode (mC M) pc = .ok (.if_icmp .ge off, 3)) (ht : (pc : Int) + off = (t : Int)) (kt : y ≤ x → WP g lo hi d M t lv st σ K) (kf : ¬ y ≤ x → WP g lo hi d M (pc + 3) lv st σ K) : WP g lo hi d M pc lv (.int y :: .int x :: st) σ K :=
  fun p e s m args below meth c F H locs ls hP hS h => lv_icmp_ge F.1 F.2.1 hd ht (fun q => kt q p e s m args below meth c F H locs ls hP hS h) (fun q => kf q p e s m args below meth c F H locs ls hP hS h)
theorem wp_icmp_le {x y : Int32} {off : Int} (t : Nat) (hd : decode (mC M) pc = .ok (.if_icmp .le off, 3)) (ht : (pc : Int) + off = (t : Int)) (kt : x ≤ y → WP g lo hi d M t lv st σ K) (kf : ¬ x ≤ y → WP g lo hi d M (pc + 3) lv st σ K) : WP g lo hi d M pc lv (.int y :: .int x :: st) σ K :=
  fun p e s m args below meth c F H locs ls hP hS h => lv_icmp_le F.1 F.2.1 hd ht (fun q => kt q p e s m args below meth c F H locs ls hP hS h) (fun q => kf q p e s m args below meth c F H locs ls hP hS h)
theorem wp_icmp_gt {x y : Int32} {off : Int} (t : Nat) (hd : decode (mC M) pc = .ok (.if_icmp .gt off, 3)) (ht : (pc : Int) + off = (t : Int)) (kt : y < x → WP g lo hi d M t lv st σ K) (kf : ¬ y < x → WP g lo hi d M (pc + 3) lv st σ K) : WP g lo hi d M pc lv (.int y :: .int x :: st) σ K :=
  fun p e s m args below meth c F H locs ls hP hS h => lv_icmp_gt F.1 F.2.1 hd ht (fun q => kt q p e s m args below meth c F H locs ls hP hS h) (fun q => kf q p e s m args below meth c F H locs ls hP hS h)
end RULES

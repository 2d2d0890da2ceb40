/-! the hash of a part is a function of its bits -/
def hstep (w x : Int64) : Int64 := ((w ^^^ x) * (-7046029254386353131)) ^^^ (jlushr ((w ^^^ x) * (-7046029254386353131)) (nI 32))
def hfold (f : Nat → Int64) (A : Nat) : Nat → Int64 → Nat → Int64
  | 0, w, _ => w
  | r + 1, w, n => hfold f A r (hstep w (f (A + n))) (n + 1)
theorem hfold_congr {f f' : Nat → Int64} {A A' : Nat} : ∀ (r : Nat) (w : Int64) (n : Nat), (∀ j, n ≤ j → j < n + r → f (A + j) = f' (A' + j)) → hfold f A r w n = hfold f' A' r w n
  | 0, _, _, _ => rfl
  | r + 1, w, n, h => by
    show hfold f A r (hstep w (f (A + n))) (n + 1) = hfold f' A' r (hstep w (f' (A' + n))) (n + 1)
    rw [h n (Nat.le_refl _) (by omega)]
    exact hfold_congr r _ (n + 1) (fun j h1 h2 => h j (by omega) (by omega))
def HV (f : Nat → Int64) (s e : Nat) : Int32 := if 64 ≤ 2 ^ e then (hfold f (s / 64) (2 ^ e / 64) 0 0).toInt32 else (jlushr (((jlushr (f (s / 64)) (nI (s % 64))) &&& ((jlshl 1 (nI (2 ^ e))) - 1)) * (-7046029254386353131)) (nI 32)).toInt32
/-- two parts are the same -/
def eqP (f f' : Nat → Int64) (s s' e : Nat) : Prop := ∀ j, j < 2 ^ e → tb f (s + j) = tb f' (s' + j)
theorem pow_cases {e : Nat} : (64 ≤ 2 ^ e → 6 ≤ e) ∧ (¬ 64 ≤ 2 ^ e → e < 6) := by
  refine ⟨fun c => ?_, fun c => ?_⟩
  · rcases Nat.lt_or_ge e 6 with q | q
    · have : 2 ^ e < 2 ^ 6 := Nat.pow_lt_pow_right (by omega) q
      omega
    · exact q
  · rcases Nat.lt_or_ge e 6 with q | q
    · exact q
    · have : 2 ^ 6 ≤ 2 ^ e := Nat.pow_le_pow_right (by omega) q
      omega
theorem lowm : ∀ n : Fin 64, ∀ i : Fin 64, bt (jlshl 1 (nI n.1) - 1) i.1 = decide (i.1 < n.1) := by decide +kernel
theorem HV_congr {f f' : Nat → Int64} {s s' e : Nat} (a : 2 ^ e ∣ s) (a' : 2 ^ e ∣ s') (h : eqP f f' s s' e) : HV f s e = HV f' s' e := by
  unfold HV
  by_cases c : 64 ≤ 2 ^ e
  · rw [if_pos c, if_pos c]
    have h6 := pow_cases.1 c
    have d64 : 64 ∣ 2 ^ e := (Nat.pow_dvd_pow 2 h6 : 2 ^ 6 ∣ 2 ^ e)
    have m0 : s = 64 * (s / 64) := (Nat.mul_div_cancel' (Nat.dvd_trans d64 a)).symm
    have m2 : s' = 64 * (s' / 64) := (Nat.mul_div_cancel' (Nat.dvd_trans d64 a')).symm
    have me : 2 ^ e = 64 * (2 ^ e / 64) := (Nat.mul_div_cancel' d64).symm
    rw [hfold_congr (f' := f') (A' := s' / 64)]
    intro j _ hj
    apply bt_ext
    intro b hb
    have := h (64 * j + b) (by omega)
    rw [m0, m2, show 64 * (s / 64) + (64 * j + b) = 64 * (s / 64 + j) + b by omega, show 64 * (s' / 64) + (64 * j + b) = 64 * (s' / 64 + j) + b by omega, tb_at _ hb, tb_at _ hb] at this
    exact this
  · rw [if_neg c, if_neg c]
    have h6 := pow_cases.2 c
    have n0 := align_mod a (by omega)
    have n2 := align_mod a' (by omega)
    have : (jlushr (f (s / 64)) (nI (s % 64)) &&& ((jlshl 1 (nI (2 ^ e))) - 1)) = (jlushr (f' (s' / 64)) (nI (s' % 64)) &&& ((jlshl 1 (nI (2 ^ e))) - 1)) := by
      apply bt_ext
      intro b hb
      rw [bt_and, bt_and, bt_ushr (by omega), bt_ushr (by omega), lowm ⟨2 ^ e, by omega⟩ ⟨b, hb⟩]
      by_cases hbe : b < 2 ^ e
      · have := h b hbe
        rw [show s + b = 64 * (s / 64) + (b + s % 64) by omega, show s' + b = 64 * (s' / 64) + (b + s' % 64) by omega, tb_at _ (by omega), tb_at _ (by omega)] at this
        rw [this]
      · simp [hbe]
    rw [this]
/-- the survey's lists: c the exponent of the slots' number, fc what is found, fn its names (table, start) -/
def nmz (z : Nat × Nat) : Nat := z.1 * 4096 + z.2
def hs0 (L : Nat → Nat → Int64) (e c : Nat) (z : Nat × Nat) : Nat := (HV (L (11 + z.1)) z.2 e).toBitVec.toNat % 2 ^ c
def SVs (σ : St) (e c fc : Nat) (fn : Nat → Nat × Nat) (sl : Nat → Nat) : Prop :=
  (∀ q, q < 2 ^ c → sI σ 10 q = nI (sl q)) ∧ (∀ q, q < 2 ^ c → sl q ≤ fc) ∧ (∀ q q', q < 2 ^ c → q' < 2 ^ c → sl q = sl q' → sl q ≠ 0 → q = q') ∧
  (∀ i, i < fc → ∃ m, sl ((hs0 (sL σ) e c (fn i) + m) % 2 ^ c) = i + 1 ∧ ∀ m', m' < m → sl ((hs0 (sL σ) e c (fn i) + m') % 2 ^ c) ≠ 0)
def okR (σ : St) : Prop := (sR σ 0 = 8 ∧ sR σ 1 = 9) ∨ (sR σ 0 = 9 ∧ sR σ 1 = 8)
def SV (σ : St) (e c fc : Nat) (fn : Nat → Nat × Nat) : Prop :=
  c ≤ 14 ∧ sV σ 7 = nI (2 ^ c) ∧ sV σ 6 = nI fc ∧ fc ≤ 8192 ∧ okR σ ∧ (∀ i, i < fc → sI σ (sR σ 1) i = nI (nmz (fn i))) ∧ (∀ i, i < fc → (fn i).1 < 34 ∧ (fn i).2 < 4096 ∧ 2 ^ e ∣ (fn i).2) ∧
  (∀ i j, i < fc → j < fc → eqP (sL σ (11 + (fn i).1)) (sL σ (11 + (fn j).1)) (fn i).2 (fn j).2 e → i = j) ∧ ∃ sl, SVs σ e c fc fn sl
/-- what a survey leaves as it was -/
def Sfr (σ σ' : St) : Prop := sL σ' = sL σ ∧ sW σ' = sW σ ∧ sR σ' = sR σ ∧ (∀ k, k ≠ 6 → sV σ' k = sV σ k) ∧ ∀ k, k ≠ 10 → k ≠ sR σ 1 → sI σ' k = sI σ k
theorem lenI_R {σ : St} (h : okR σ) : lenI (sR σ 1) = 8192 ∧ sR σ 1 < 45 ∧ lenI (sR σ 0) = 8192 ∧ sR σ 0 < 45 ∧ sR σ 1 ≠ 10 ∧ sR σ 0 ≠ 10 ∧ sR σ 0 ≠ sR σ 1 := by
  rcases h with ⟨h0, h1⟩ | ⟨h0, h1⟩ <;> rw [h0, h1] <;> decide
theorem jn {t s : Nat} (ht : t < 34) (hs : s < 4096) : jshl (nI t) (nI 12) ||| nI s = nI (nmz (t, s)) := by
  rw [jshl_nI (by omega) (by omega), nI_or]
  congr 1
  show t * 2 ^ 12 ||| s = t * 4096 + s
  rw [Nat.mul_comm, ← Nat.two_pow_add_eq_or_of_lt (i := 12) hs t]
theorem nm_t {z : Nat × Nat} (h1 : z.1 < 34) (h2 : z.2 < 4096) : jshr (nI (nmz z)) (nI 12) = nI z.1 := by
  unfold nmz
  rw [jshr_nI (by omega) (by omega)]
  congr 1
  omega
theorem nm_s {z : Nat × Nat} (h1 : z.1 < 34) (h2 : z.2 < 4096) : nI (nmz z) &&& nI 4095 = nI z.2 := by
  unfold nmz
  rw [nI_and]
  congr 1
  rw [show (4095 : Nat) = 2 ^ 12 - 1 from rfl, Nat.and_two_pow_sub_one_eq_mod]
  omega
theorem lenJ_t {t : Nat} (h : t < 34) : lenJ (11 + t) = 64 := by
  unfold lenJ
  rw [if_pos (by omega)]
/-- among more slots than there is found one is empty -/
theorem slot_free {c fc : Nat} {sl : Nat → Nat} (hc : fc < 2 ^ c) (h1 : ∀ q, q < 2 ^ c → sl q ≤ fc) (h2 : ∀ q q', q < 2 ^ c → q' < 2 ^ c → sl q = sl q' → sl q ≠ 0 → q = q') : ∃ q, q < 2 ^ c ∧ sl q = 0 := by
  refine Classical.byContradiction fun hn => ?_
  have hz : ∀ q, q < 2 ^ c → sl q ≠ 0 := fun q hq e => hn ⟨q, hq, e⟩
  have nd : ((List.range (2 ^ c)).map sl).Nodup := by
    rw [List.nodup_iff_pairwise_ne, List.pairwise_map]
    refine List.Pairwise.imp_of_mem ?_ (List.nodup_iff_pairwise_ne.mp List.nodup_range)
    intro a b ha hb hab e
    exact hab (h2 a b (List.mem_range.mp ha) (List.mem_range.mp hb) e (hz a (List.mem_range.mp ha)))
  have := List.Nodup.length_le_of_subset (l₂ := (List.range fc).map (· + 1)) nd (fun x hx => by
    obtain ⟨q, hq, rfl⟩ := List.mem_map.mp hx
    have hq := List.mem_range.mp hq
    have a1 := h1 q hq
    have a2 := hz q hq
    exact List.mem_map.mpr ⟨sl q - 1, List.mem_range.mpr (by omega), by omega⟩)
  rw [List.length_map, List.length_map, List.length_range, List.length_range] at this
  omega
section SURVEY
variable {g : Ev} {d : Nat} {σ : St} {K : Option Value → St → Prop}
theorem sp_hashV {k s e : Nat} (hk : lenJ k = 64) (he : e ≤ 12) (a : 2 ^ e ∣ s) (b : s < 4096) (h : K (some (.int (HV (sL σ k) s e))) σ) : Runs g 0 45 (d + 2) M_X0_hash [.ref (eA g k), .int (nI s), .int (nI (2 ^ e))] σ K := by
  have h12 : 2 ^ e ≤ 4096 := (Nat.pow_le_pow_right (by omega) he : 2 ^ e ≤ 2 ^ 12)
  have l0 : s + 2 ^ e ≤ 4096 := align_lt (m := 0) (n := 12) a b he
  refine E_X0_hash g (d + 1) _ _ _ σ K ?_
  rw [nI_leI (by omega) (by omega)]
  unfold HV at h
  refine ⟨fun c => ?_, fun c => ?_⟩
  · rw [if_pos c] at h
    rw [jshr_nI (by omega) (by omega), jshr_nI (by omega) (by omega), show (2 : Nat) ^ 6 = 64 from rfl]
    have loop : ∀ n, n ≤ 2 ^ e / 64 → ∀ w, K (some (.int (hfold (sL σ k) (s / 64) (2 ^ e / 64 - n) w n).toInt32)) σ → WP g 0 45 (d + 2) M_X0_hash 38 [(0, .ref (eA g k)), (3, .int (nI (s / 64))), (4, .int (nI (2 ^ e / 64))), (5, .long w), (7, .int (nI n))] [] σ K := by
      refine up_to (P := fun n => ∀ w, K (some (.int (hfold (sL σ k) (s / 64) (2 ^ e / 64 - n) w n).toInt32)) σ → WP g 0 45 (d + 2) M_X0_hash 38 [(0, .ref (eA g k)), (3, .int (nI (s / 64))), (4, .int (nI (2 ^ e / 64))), (5, .long w), (7, .int (nI n))] [] σ K) (2 ^ e / 64) ?_ ?_
      · intro w hw
        rw [Nat.sub_self] at hw
        exact R_X0_hash_38 g (d + 1) _ _ _ _ _ σ K ⟨fun _ => hw, fun c => absurd (nI_le (Nat.le_refl _) (by omega)) c⟩
      · intro n hn ih w hw
        rw [show 2 ^ e / 64 - n = (2 ^ e / 64 - (n + 1)) + 1 by omega] at hw
        refine R_X0_hash_38 g (d + 1) _ _ _ _ _ σ K ⟨fun c => absurd ((nI_leI (by omega) (by omega)).mp c) (by omega), fun _ => ?_⟩
        rw [nI_add, hk, vp_iff (by omega), nI_1', nI_clamp (by omega)]
        exact ⟨by omega, ih _ hw⟩
    exact loop 0 (Nat.zero_le _) _ h
  · rw [if_neg c] at h
    refine E_X0_shortPart g d _ _ _ σ _ ?_
    rw [jshr_nI (by omega) (by omega), and63, hk, vp_iff (by omega), nI_clamp (by omega), show (2 : Nat) ^ 6 = 64 from rfl]
    exact ⟨by omega, _, rfl, h⟩
theorem sp_note {q fc z : Nat} (h6 : sV σ 6 = nI fc) (hfc : fc < 8192) (hR : okR σ) (hq : q < 16384) (h : K none (uI (uV (uI σ (sR σ 1) fc (nI z)) 6 (nI (fc + 1))) 10 q (nI (fc + 1)))) : Runs g 0 45 (d + 1) M_X1_note [.ref (eA g 6), .int (nI q), .int (nI z)] σ K := by
  obtain ⟨r1, r2, -⟩ := lenI_R hR
  refine E_X1_note g d _ _ σ K ?_
  rw [h6, nI_leI (by omega) (by omega), r1, vp_iff (by omega), nI_clamp (by omega), nI_clamp (by omega), vp_iff (by omega), sV_uI, h6, nI_1', sV_uV]
  exact ⟨fun c => absurd c (by omega), fun _ => ⟨⟨r2, hfc⟩, (by show q < 16384; exact hq), h⟩⟩
/-- find: the part is among those found, or comes behind them -/
theorem sp_find {e c fc t s : Nat} {fn : Nat → Nat × Nat} (hSV : SV σ e c fc fn) (he : e ≤ 12) (ht : t < 34) (hs : s < 4096) (ha : 2 ^ e ∣ s) (hcap : fc < 2 ^ c)
    (h8 : (∀ i, i < fc → ¬ eqP (sL σ (11 + (fn i).1)) (sL σ (11 + t)) (fn i).2 s e) → fc < 8192)
    (h1 : (∃ i, i < fc ∧ eqP (sL σ (11 + (fn i).1)) (sL σ (11 + t)) (fn i).2 s e) → K none σ)
    (h2 : (∀ i, i < fc → ¬ eqP (sL σ (11 + (fn i).1)) (sL σ (11 + t)) (fn i).2 s e) → ∀ σ', Sfr σ σ' → SV σ' e c (fc + 1) (va_up fn fc (t, s)) → K none σ') :
    Runs g 0 45 (d + 3) M_X1_find [.ref (eA g 6), .ref (eA g 1), .int (nI t), .int (nI s), .int (nI (2 ^ e))] σ K := by
  obtain ⟨hc14, v7, v6, hfc, hR, hfn, hok, hdist, sl, s1, s2, s3, s4⟩ := id hSV
  have hC : 2 ^ c ≤ 16384 := (Nat.pow_le_pow_right (by omega) hc14 : 2 ^ c ≤ 2 ^ 14)
  have hC0 : 0 < 2 ^ c := Nat.two_pow_pos c
  have h12 : 2 ^ e ≤ 4096 := (Nat.pow_le_pow_right (by omega) he : 2 ^ e ≤ 2 ^ 12)
  obtain ⟨r1, r2, -, -, r3, -⟩ := lenI_R hR
  refine E_X1_find g (d + 2) _ _ _ σ K ?_
  rw [vp_iff (by omega), nI_clamp (by omega)]
  refine ⟨ht, sp_hashV (lenJ_t ht) he ha hs ⟨_, rfl, ?_⟩⟩
  have hmask : ∀ x : Int32, x &&& (nI (2 ^ c) - nI 1) = nI (x.toBitVec.toNat % 2 ^ c) := fun x => by
    rw [pk_sub (by omega)]
    exact pk_and x c (pk_tn (by omega))
  rw [v7, hmask]
  generalize hh : (HV (sL σ (11 + t)) s e).toBitVec.toNat % 2 ^ c = h0
  have hh0 : h0 < 2 ^ c := by rw [← hh]; exact Nat.mod_lt _ hC0
  have loop : ∀ m, m ≤ 2 ^ c → (∀ m', m' < m → sl ((h0 + m') % 2 ^ c) ≠ 0 ∧ ¬ eqP (sL σ (11 + (fn (sl ((h0 + m') % 2 ^ c) - 1)).1)) (sL σ (11 + t)) (fn (sl ((h0 + m') % 2 ^ c) - 1)).2 s e) → WP g 0 45 (d + 3) M_X1_find 25 [(0, .ref (eA g 6)), (1, .ref (eA g 1)), (2, .int (nI t)), (3, .int (nI s)), (4, .int (nI (2 ^ e))), (5, .ref (eA g (11 + t))), (6, .int (nI ((h0 + m) % 2 ^ c))), (7, .int (nI m))] [] σ K := by
    refine up_to (P := fun m => (∀ m', m' < m → sl ((h0 + m') % 2 ^ c) ≠ 0 ∧ ¬ eqP (sL σ (11 + (fn (sl ((h0 + m') % 2 ^ c) - 1)).1)) (sL σ (11 + t)) (fn (sl ((h0 + m') % 2 ^ c) - 1)).2 s e) → WP g 0 45 (d + 3) M_X1_find 25 [(0, .ref (eA g 6)), (1, .ref (eA g 1)), (2, .int (nI t)), (3, .int (nI s)), (4, .int (nI (2 ^ e))), (5, .ref (eA g (11 + t))), (6, .int (nI ((h0 + m) % 2 ^ c))), (7, .int (nI m))] [] σ K) (2 ^ c) ?_ ?_
    · intro hpath
      obtain ⟨q, hq, hq0⟩ := slot_free hcap s2 s3
      exfalso
      refine (hpath ((q + 2 ^ c - h0) % 2 ^ c) (Nat.mod_lt _ hC0)).1 ?_
      have : (h0 + (q + 2 ^ c - h0) % 2 ^ c) % 2 ^ c = q := by
        rw [Nat.add_mod_mod, show h0 + (q + 2 ^ c - h0) = q + 2 ^ c by omega, Nat.add_mod_right, Nat.mod_eq_of_lt hq]
      rw [this]
      exact hq0
    · intro m hm ih hpath
      have hqm : (h0 + m) % 2 ^ c < 2 ^ c := Nat.mod_lt _ hC0
      have hslq := s2 _ hqm
      refine R_X1_find_25 g (d + 2) _ _ _ _ _ _ σ K ⟨fun cc => ?_, fun _ => ?_⟩
      · rw [v7, nI_leI (by omega) (by omega)] at cc
        omega
      · rw [vp_iff (by omega), nI_clamp (by omega), s1 _ hqm]
        refine ⟨by show (h0 + m) % 2 ^ c < 16384; omega, fun cc => ?_, fun cc => ?_⟩
        · have hpos : 1 ≤ sl ((h0 + m) % 2 ^ c) := by
            rcases Nat.eq_zero_or_pos (sl ((h0 + m) % 2 ^ c)) with q | q
            · rw [q] at cc
              exact absurd cc (by decide)
            · exact q
          rw [pk_sub hpos]
          generalize hi : sl ((h0 + m) % 2 ^ c) - 1 = i
          have hifc : i < fc := by omega
          obtain ⟨o1, o2, o3⟩ := hok i hifc
          rw [nI_clamp (by omega), hfn i hifc, nm_t o1 o2, nm_s o1 o2, nI_clamp (by omega), r1, vp_iff (by omega), vp_iff (by omega)]
          refine ⟨⟨r2, by omega⟩, o1, ⟨r2, by omega⟩, sp_alike (lenJ_t ht) (lenJ_t o1) he ha o3 hs o2 (fun hq => ?_) (fun hq => ?_)⟩
          · refine ⟨_, rfl, fun q => absurd q (by decide), fun _ => h1 ⟨i, hifc, fun j hj => (hq j hj).symm⟩⟩
          · refine ⟨_, rfl, fun _ => ?_, fun q => absurd rfl q⟩
            rw [nI_1', nI_1', v7, hmask, pk_tn (by omega)]
            have e1 : ((h0 + m) % 2 ^ c + 1) % 2 ^ c = (h0 + (m + 1)) % 2 ^ c := by rw [Nat.mod_add_mod, Nat.add_assoc]
            rw [e1]
            refine ih fun m' hm' => ?_
            rcases (show m' < m ∨ m' = m by omega) with hlt | rfl
            · exact hpath m' hlt
            · rw [hi]
              exact ⟨by omega, fun hq2 => hq fun j hj => (hq2 j hj).symm⟩
        · have hz : sl ((h0 + m) % 2 ^ c) = 0 := by
            rcases Nat.eq_zero_or_pos (sl ((h0 + m) % 2 ^ c)) with q | q
            · exact q
            · rw [pk_sub q] at cc
              exact absurd (nI_pos' (by omega)) cc
          have hnew : ∀ i, i < fc → ¬ eqP (sL σ (11 + (fn i).1)) (sL σ (11 + t)) (fn i).2 s e := by
            intro i hi hq
            obtain ⟨mi, p1, p2⟩ := s4 i hi
            obtain ⟨o1, o2, o3⟩ := hok i hi
            have hsame : hs0 (sL σ) e c (fn i) = h0 := by
              unfold hs0
              rw [HV_congr o3 ha hq, hh]
            rw [hsame] at p1 p2
            have hle : ¬ m < mi := fun q => p2 m q hz
            have hne : m ≠ mi := fun q => by rw [q, p1] at hz; omega
            have := (hpath mi (by omega)).2
            rw [p1] at this
            exact this hq
          have h8' := h8 hnew
          rw [jn ht hs]
          refine sp_note v6 h8' hR (by omega) ⟨rfl, h2 hnew _ ⟨rfl, rfl, rfl, fun k hk => ?_, fun k hk hk2 => ?_⟩ ?_⟩
          · show sV (uV (uI σ (sR σ 1) fc (nI (nmz (t, s)))) 6 (nI (fc + 1))) k = sV σ k
            rw [sV_uVn hk, sV_uI]
          · rw [sI_uIn hk, sI_uV, sI_uIn hk2]
          · have eL : sL (uI (uV (uI σ (sR σ 1) fc (nI (nmz (t, s)))) 6 (nI (fc + 1))) 10 ((h0 + m) % 2 ^ c) (nI (fc + 1))) = sL σ := rfl
            have eR : sR (uI (uV (uI σ (sR σ 1) fc (nI (nmz (t, s)))) 6 (nI (fc + 1))) 10 ((h0 + m) % 2 ^ c) (nI (fc + 1))) = sR σ := rfl
            refine ⟨hc14, ?_, ?_, by omega, hR, ?_, ?_, ?_, va_up sl ((h0 + m) % 2 ^ c) (fc + 1), ?_, ?_, ?_, ?_⟩
            · rw [sV_uI, sV_uVn (by decide), sV_uI, v7]
            · rw [sV_uI, sV_uV]
            · intro i hi
              rw [eR, sI_uIn r3, sI_uV, sI_uI]
              by_cases e9 : i = fc
              · rw [e9, upd_eq, up_eq]
              · rw [upd_ne e9, up_ne e9]
                exact hfn i (by omega)
            · intro i hi
              by_cases e9 : i = fc
              · rw [e9, up_eq]
                exact ⟨ht, hs, ha⟩
              · rw [up_ne e9]
                exact hok i (by omega)
            · intro i j hi hj hq
              rw [eL] at hq
              by_cases e9 : i = fc <;> by_cases e8 : j = fc
              · omega
              · rw [e9, up_eq, up_ne e8] at hq
                exact absurd (fun z hz => (hq z hz).symm) (hnew j (by omega))
              · rw [up_ne e9, e8, up_eq] at hq
                exact absurd hq (hnew i (by omega))
              · rw [up_ne e9, up_ne e8] at hq
                exact hdist i j (by omega) (by omega) hq
            · intro q hq
              rw [sI_uI]
              by_cases e9 : q = (h0 + m) % 2 ^ c
              · rw [e9, upd_eq, up_eq]
              · rw [up_ne e9, upd_ne e9, sI_uV, sI_uIn (fun e => r3 e.symm)]
                exact s1 q hq
            · intro q hq
              by_cases e9 : q = (h0 + m) % 2 ^ c
              · rw [e9, up_eq]
                exact Nat.le_refl _
              · rw [up_ne e9]
                have := s2 q hq
                omega
            · intro q q' hq hq' e9 e8
              by_cases a1 : q = (h0 + m) % 2 ^ c <;> by_cases a2 : q' = (h0 + m) % 2 ^ c
              · rw [a1, a2]
              · rw [a1, up_eq, up_ne a2] at e9
                have := s2 q' hq'
                omega
              · rw [up_ne a1, a2, up_eq] at e9
                have := s2 q hq
                omega
              · rw [up_ne a1, up_ne a2] at e9
                rw [up_ne a1] at e8
                exact s3 q q' hq hq' e9 e8
            · intro i hi
              rw [eL]
              by_cases e9 : i = fc
              · subst e9
                refine ⟨m, ?_, ?_⟩
                · rw [up_eq, show hs0 (sL σ) e c (t, s) = h0 from hh, up_eq]
                · intro m' hm'
                  rw [up_eq, show hs0 (sL σ) e c (t, s) = h0 from hh]
                  by_cases a1 : (h0 + m') % 2 ^ c = (h0 + m) % 2 ^ c
                  · rw [a1, up_eq]
                    omega
                  · rw [up_ne a1]
                    exact (hpath m' hm').1
              · obtain ⟨mi, p1, p2⟩ := s4 i (by omega)
                rw [up_ne e9]
                refine ⟨mi, ?_, fun m' hm' => ?_⟩
                · have a1 : ¬ (hs0 (sL σ) e c (fn i) + mi) % 2 ^ c = (h0 + m) % 2 ^ c := fun q => by rw [q, hz] at p1; omega
                  rw [up_ne a1]
                  exact p1
                · by_cases a1 : (hs0 (sL σ) e c (fn i) + m') % 2 ^ c = (h0 + m) % 2 ^ c
                  · rw [a1, up_eq]
                    omega
                  · rw [up_ne a1]
                    exact p2 m' hm'
  have := loop 0 (Nat.zero_le _) (fun m' hm' => absurd hm' (Nat.not_lt_zero _))
  rw [show (h0 + 0) % 2 ^ c = h0 from Nat.mod_eq_of_lt hh0] at this
  exact this
end SURVEY

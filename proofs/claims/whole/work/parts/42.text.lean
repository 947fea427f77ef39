/-! the class's Text: words, numbers, signs -/
def pkL : List Nat := [658470, 486131888, 679728180, 802, 20098100, 180439079, 643379, 642096, 20096596, 12681, 591, 4545, 20974, 12673, 14637, 24621, 438307, 21241138, 7814743, 591033, 9062903, 20546947, 14025837, 661676, 20301869, 609302190, 20692427, 641605, 21612838, 674860, 14864591, 12636660, 675309, 21595308]
def pkN (i : Nat) : Nat := pkL.getD i 0
/-- which of the words: 34 none -/
def wlk (v : Nat) : Nat := rn (fun i => decide (pkN i ≠ v)) 34 0
def wd (g : Sx) (q : Nat) : Nat := if tk g q = 256 then wlk (tpk g q) else 34
def wop (w : Nat) : Option Nat := if w < 34 then some (10000 + w) else none
theorem pk_wv : ∀ i, i < 34 → z_wv 1 (10000 + i) = nI (pkN i) ∧ pkN i < 2 ^ 30 := by decide +kernel
theorem own_wv : ∀ i, i < 34 → z_wv 2 (10000 + i) = (if i < 28 then 1 else 0) := by decide +kernel
theorem wlk_pk : ∀ i, i < 34 → wlk (pkN i) = i := by decide +kernel
theorem wlk_le (v : Nat) : wlk v ≤ 34 := (rn_le _ _ _).2 (by omega)
theorem wlk_at {v : Nat} (h : wlk v < 34) : pkN (wlk v) = v := by
  have := rn_at (q := fun i => decide (pkN i ≠ v)) (n := 34) (p := 0) (by omega) h
  simpa [wlk] using this
theorem wlk_iff {v i : Nat} (hi : i < 34) : wlk v = i ↔ pkN i = v := by
  constructor
  · rintro rfl; exact wlk_at hi
  · rintro rfl; exact wlk_pk i hi
theorem wd_le (g : Sx) (q : Nat) : wd g q ≤ 34 := by
  unfold wd
  split
  · exact wlk_le _
  · omega
theorem tpk_lt {g : Sx} (q : Nat) : tpk g q < 2 ^ 30 := by
  unfold tpk
  split
  · omega
  · split
    · split
      · next h1 h2 h3 =>
        have := pck_lt g q (wen g q - q) (fun i hi => by
          have := rn_in (q := fun k => isL (g 1 k)) (n := g 0 0) (p := q) (k := q + i) (by omega) (by unfold wen at hi; omega)
          have := isL_t.mp this
          omega)
        have h30 : 32 ^ (wen g q - q) ≤ 32 ^ 6 := Nat.pow_le_pow_right (by omega) h3
        omega
      · omega
    · omega
theorem tvl_lt {g : Sx} (q : Nat) : tvl g q ≤ 9999 := by
  unfold tvl
  split
  · omega
  · split
    · omega
    · split
      · have := val_lt g q (if den g q - q ≤ 4 then den g q - q else 4) (fun i hi => by
          have := rn_in (q := fun k => isD (g 1 k)) (n := g 0 0) (p := q) (k := q + i) (by omega) (by unfold den at hi; split at hi <;> omega)
          have := isD_t.mp this
          omega)
        have h30 : 10 ^ (if den g q - q ≤ 4 then den g q - q else 4) ≤ 10 ^ 4 := Nat.pow_le_pow_right (by omega) (by split <;> omega)
        omega
      · omega
theorem tk_le {g : Sx} (hb : ∀ k, k < g 0 0 → g 1 k < 256) (q : Nat) : tk g q ≤ 300 := tk_val hb
theorem tkI_eq {k c : Nat} (hk : k ≤ 300) (hc : c < 300) : tkI k = nI c ↔ k = c := by
  unfold tkI
  split
  · next e => subst e; exact ⟨fun z => absurd z.symm (nI_ne_m1 (by omega)), fun z => by omega⟩
  · exact nI_eq (by omega) (by omega)
theorem tkI_m1 {k : Nat} (hk : k ≤ 300) : tkI k = -1 ↔ k = 300 := by
  unfold tkI
  split
  · next e => simp [e]
  · next e => exact ⟨fun z => absurd z (nI_ne_m1 (by omega)), fun z => absurd z e⟩
/-- only the token and the fault change -/
def FrB (I I' : Ii) : Prop := (∀ a, a ≠ 1 → I' a = I a) ∧ ∀ k, (k < 2 ∨ 8 < k) → I' 1 k = I 1 k
theorem FrA.B {I I' : Ii} (h : FrA I I') : FrB I I' := ⟨h.1, fun k hk => h.2 k (by omega)⟩
theorem FrB.trans {I I1 I2 : Ii} (h1 : FrB I I1) (h2 : FrB I1 I2) : FrB I I2 := ⟨fun a ha => (h2.1 a ha).trans (h1.1 a ha), fun k hk => (h2.2 k hk).trans (h1.2 k hk)⟩
theorem FrB.refl (I : Ii) : FrB I I := ⟨fun _ _ => rfl, fun _ _ => rfl⟩
theorem EnT.B {I I' : Ii} {g : Sx} (h : EnT I g) (hk : FrB I I') : EnT I' g := by unfold EnT; rw [hk.2 1 (by omega), hk.1 2 (by omega)]; exact h
/-- a fault -/
def Flt (I' : Ii) (k p : Nat) : Prop := I' 1 2 = nI k ∧ I' 1 3 = nI p
section SP
variable {d : Nat} {I : Ii} {J : Jj} {g : Sx} {q : Nat}
theorem EnT.lt (h : EnT I g) : ∀ k, k < g 0 0 → g 1 k < 256 := fun k hk => (h.2 k hk).2
theorem s_fail {k p : Nat} {K : KI} (h : ∀ I', FrB I I' → Flt I' k p → K 0 I' J) : CalI wX d mX10_fail [.ref 1, .int (nI k), .int (nI p)] I J K :=
  Cal.of (by decide) (Nat.le_of_ble_eq_true rfl) (bX10_fail_0 (h _ ⟨fun a ha => by rw [u2_row ha, u2_row ha], fun j hj => by rw [u2_k (by omega), u2_k (by omega)]⟩ ⟨by rw [u2_k (by omega), u2_at], by rw [u2_at]⟩))
theorem s_failHere {K : KI} (hk : TokAt I g q) (h : ∀ I', FrB I I' → Flt I' 1 q → K 0 I' J) : CalI wX d mX10_failHere [.ref 1] I J K := by
  refine Cal.of (by decide) (Nat.le_of_ble_eq_true rfl) (bX10_failHere_0 ?_)
  rintro _ rfl
  refine h _ ⟨fun a ha => by rw [u2_row ha, u2_row ha], fun j hj => by rw [u2_k (by omega), u2_k (by omega)]⟩ ⟨by rw [u2_k (by omega), u2_at]; rfl, ?_⟩
  rw [u2_at, u2_k (by omega)]
  exact hk.1.1
theorem s_adv {K : KV} (hT : EnT I g) (hk : TokAt I g q) (h : ∀ I', FrA I I' → TokAt I' g (adv g q) → K I' J) : CalV wX d mX10_advance [.ref 1] I J K :=
  s_advance hT hk.2.1 (tsp_le hk.1.2).1 h
theorem s_of {v : Nat} {K : KR} (hv : v < 2 ^ 30) (h : K (wop (wlk v)) I J) : CalR wX d mX11_of [.int (nI v)] I J K := by
  refine Cal.of (by decide) (Nat.le_of_ble_eq_true rfl) (bX11_of_0 ?_)
  have key : ∀ r k, k + r = 34 → wlk v = rn (fun i => decide (pkN i ≠ v)) 34 k → GoR wX d mX11_of 2 [(0, .int (nI v)), (1, .int (nI k))] [] I J K := by
    intro r
    induction r with
    | zero =>
      intro k hk e
      refine bX11_of_2 ⟨fun _ => ?_, fun z => absurd (nI_le (a := 34) (by omega) (by omega)) z⟩
      rw [e, rn_end (by omega), wop, if_neg (by omega)] at h
      exact h
    | succ r ih =>
      intro k hk e
      have hp := pk_wv k (by omega)
      refine bX11_of_2 ⟨fun z => absurd ((nI_leI (a := 34) (by decide) (by omega)).mp z) (by omega), fun _ => ⟨vp_in_nI (by omega) (by omega), ?_⟩⟩
      rw [nI_clamp (by omega), hp.1, nI_eq (by omega) (by omega), nI_1]
      refine ⟨by omega, fun z => ih (k + 1) (by omega) (by rw [e, rn_go (q := fun i => decide (pkN i ≠ v)) (by omega) (by simpa using z)]), fun z => ?_⟩
      rw [e, rn_no (q := fun i => decide (pkN i ≠ v)) (by simpa using z), wop, if_pos (by omega)] at h
      exact h
  exact key 34 0 (by omega) rfl
theorem s_knownWord {K : KR} (hT : EnT I g) (hk : TokAt I g q) (h : K (wop (wd g q)) I J) : CalR wX (d + 1) mX10_knownWord [.ref 1] I J K := by
  have hl := tk_le hT.lt q
  refine Cal.of (by decide) (Nat.le_of_ble_eq_true rfl) (bX10_knownWord_0 ?_)
  rw [hk.2.2.1, hk.2.2.2.1, show (256 : Int32) = nI 256 from rfl, tkI_eq hl (by omega)]
  refine ⟨fun z => ?_, fun z => s_of (tpk_lt q) ?_⟩
  · simp only [wd, z, if_false, wop, Nat.lt_irrefl] at h; exact h
  · rw [wd, if_pos z] at h; exact h
theorem s_isWord {i : Nat} {K : KI} (hT : EnT I g) (hk : TokAt I g q) (hi : i < 34) (h : K (b01 (decide (wd g q = i))) I J) : CalI wX d mX10_isWord [.ref 1, .ref (10000 + i)] I J K := by
  have hl := tk_le hT.lt q
  have hp := pk_wv i hi
  have ht := tpk_lt (g := g) q
  refine Cal.of (by decide) (Nat.le_of_ble_eq_true rfl) (bX10_isWord_0 ?_)
  rw [hk.2.2.1, hk.2.2.2.1, show (256 : Int32) = nI 256 from rfl, tkI_eq hl (by omega), hp.1, nI_eq (by omega) (by omega)]
  refine ⟨fun z => ?_, fun z => ⟨by omega, fun z2 => ?_, fun z2 => ?_⟩⟩
  · rw [wd, if_neg z, decide_eq_false (by omega)] at h; exact h
  · rw [wd, if_pos z, decide_eq_false (by rw [wlk_iff hi]; exact fun y => z2 y.symm)] at h; exact h
  · rw [wd, if_pos z, decide_eq_true (by rw [wlk_iff hi]; exact z2.symm)] at h; exact h
theorem s_expectWord {i : Nat} {K : KI} (hT : EnT I g) (hk : TokAt I g q) (hi : i < 34) (h1 : wd g q = i → ∀ I', FrA I I' → TokAt I' g (adv g q) → K 1 I' J) (h0 : wd g q ≠ i → ∀ I', FrB I I' → Flt I' 1 q → K 0 I' J) : CalI wX (d + 1) mX10_expectWord [.ref 1, .ref (10000 + i)] I J K := by
  refine Cal.of (by decide) (Nat.le_of_ble_eq_true rfl) (bX10_expectWord_0 (s_isWord hT hk hi ⟨fun z => ?_, fun z => ?_⟩))
  · rw [b01_n, decide_eq_true_eq] at z
    exact s_adv hT hk (h1 z)
  · rw [b01_0, decide_eq_false_iff_not] at z
    exact s_failHere hk (fun I' f' hf => ⟨Or.inl rfl, h0 z I' f' hf⟩)
theorem s_expectSign {c : Nat} {K : KI} (hT : EnT I g) (hk : TokAt I g q) (hc : c < 300) (h1 : tk g q = c → ∀ I', FrA I I' → TokAt I' g (adv g q) → K 1 I' J) (h0 : tk g q ≠ c → ∀ I', FrB I I' → Flt I' 1 q → K 0 I' J) : CalI wX (d + 1) mX10_expectSign [.ref 1, .int (nI c)] I J K := by
  have hl := tk_le hT.lt q
  refine Cal.of (by decide) (Nat.le_of_ble_eq_true rfl) (bX10_expectSign_0 ?_)
  rw [hk.2.2.1, tkI_eq hl hc]
  exact ⟨fun z => s_adv hT hk (h1 z), fun z => s_failHere hk (fun I' f' hf => ⟨Or.inl rfl, h0 z I' f' hf⟩)⟩
/-- a number within a and b: fault (0 none), its place -/
def nmf (g : Sx) (a b q : Nat) : Nat × Nat := if tk g q = 257 then (if tsp g q - q ≤ 4 then (if a ≤ tvl g q ∧ tvl g q ≤ b then (0, 0) else (2, q)) else (1, q + 4)) else (1, q)
theorem s_takeNumber {a b : Nat} {K : KI} (hT : EnT I g) (hk : TokAt I g q) (ha : a < 20000) (hb : b < 20000) (h1 : (nmf g a b q).1 = 0 → ∀ I', FrA I I' → TokAt I' g (adv g q) → K (nI (tvl g q)) I' J) (h0 : (nmf g a b q).1 ≠ 0 → ∀ I', FrB I I' → Flt I' (nmf g a b q).1 (nmf g a b q).2 → K (-1) I' J) : CalI wX (d + 1) mX10_takeNumber [.ref 1, .int (nI a), .int (nI b)] I J K := by
  have hl := tk_le hT.lt q
  have hv := tvl_lt (g := g) q
  have h16 := hT.1.2
  have hts := tsp_le hk.1.2
  have hqn := hk.1.2
  refine Cal.of (by decide) (Nat.le_of_ble_eq_true rfl) (bX10_takeNumber_0 ?_)
  rw [hk.2.2.1, hk.2.1, hk.1.1, hk.2.2.2.2, show (257 : Int32) = nI 257 from rfl, tkI_eq hl (by omega), nI_sub hts.2.1, show (4 : Int32) = nI 4 from rfl, nI_add]
  refine ⟨fun z => ⟨fun z2 => ⟨fun z3 => ?_, fun z3 => ⟨fun z4 => ?_, fun z4 => ?_⟩⟩, fun z2 => ?_⟩, fun z => ?_⟩
  · simp (disch := omega) only [Int32.le_iff_toInt_le, Int32.lt_iff_toInt_lt, ← Int32.toInt_inj, nI_toInt, t_bq, t_pc8, t_bel, t_mI, t_ite, t_dec, sm_t, Int32.reduceToInt, t_m1, t_0, t_1, t_2, t_3, t_8, Int.natCast_eq_zero, Int.ofNat_le, Int.ofNat_lt, Int.ofNat_inj, not_true_eq_false, not_false_eq_true, forall_const] at z2
    simp (disch := omega) only [Int32.le_iff_toInt_le, Int32.lt_iff_toInt_lt, ← Int32.toInt_inj, nI_toInt, t_bq, t_pc8, t_bel, t_mI, t_ite, t_dec, sm_t, Int32.reduceToInt, t_m1, t_0, t_1, t_2, t_3, t_8, Int.natCast_eq_zero, Int.ofNat_le, Int.ofNat_lt, Int.ofNat_inj, not_true_eq_false, not_false_eq_true, forall_const] at z3
    have e : nmf g a b q = (2, q) := by rw [nmf, if_pos z, if_pos (by omega), if_neg (by omega)]
    rw [e] at h0
    exact s_fail (k := 2) (h0 (by simp))
  · simp (disch := omega) only [Int32.le_iff_toInt_le, Int32.lt_iff_toInt_lt, ← Int32.toInt_inj, nI_toInt, t_bq, t_pc8, t_bel, t_mI, t_ite, t_dec, sm_t, Int32.reduceToInt, t_m1, t_0, t_1, t_2, t_3, t_8, Int.natCast_eq_zero, Int.ofNat_le, Int.ofNat_lt, Int.ofNat_inj, not_true_eq_false, not_false_eq_true, forall_const] at z2
    simp (disch := omega) only [Int32.le_iff_toInt_le, Int32.lt_iff_toInt_lt, ← Int32.toInt_inj, nI_toInt, t_bq, t_pc8, t_bel, t_mI, t_ite, t_dec, sm_t, Int32.reduceToInt, t_m1, t_0, t_1, t_2, t_3, t_8, Int.natCast_eq_zero, Int.ofNat_le, Int.ofNat_lt, Int.ofNat_inj, not_true_eq_false, not_false_eq_true, forall_const] at z3
    simp (disch := omega) only [Int32.le_iff_toInt_le, Int32.lt_iff_toInt_lt, ← Int32.toInt_inj, nI_toInt, t_bq, t_pc8, t_bel, t_mI, t_ite, t_dec, sm_t, Int32.reduceToInt, t_m1, t_0, t_1, t_2, t_3, t_8, Int.natCast_eq_zero, Int.ofNat_le, Int.ofNat_lt, Int.ofNat_inj, not_true_eq_false, not_false_eq_true, forall_const] at z4
    have e : nmf g a b q = (0, 0) := by rw [nmf, if_pos z, if_pos (by omega), if_pos (by omega)]
    rw [e] at h1
    exact s_adv hT hk (h1 rfl)
  · simp (disch := omega) only [Int32.le_iff_toInt_le, Int32.lt_iff_toInt_lt, ← Int32.toInt_inj, nI_toInt, t_bq, t_pc8, t_bel, t_mI, t_ite, t_dec, sm_t, Int32.reduceToInt, t_m1, t_0, t_1, t_2, t_3, t_8, Int.natCast_eq_zero, Int.ofNat_le, Int.ofNat_lt, Int.ofNat_inj, not_true_eq_false, not_false_eq_true, forall_const] at z2
    simp (disch := omega) only [Int32.le_iff_toInt_le, Int32.lt_iff_toInt_lt, ← Int32.toInt_inj, nI_toInt, t_bq, t_pc8, t_bel, t_mI, t_ite, t_dec, sm_t, Int32.reduceToInt, t_m1, t_0, t_1, t_2, t_3, t_8, Int.natCast_eq_zero, Int.ofNat_le, Int.ofNat_lt, Int.ofNat_inj, not_true_eq_false, not_false_eq_true, forall_const] at z4
    have e : nmf g a b q = (2, q) := by rw [nmf, if_pos z, if_pos (by omega), if_neg (by omega)]
    rw [e] at h0
    exact s_fail (k := 2) (h0 (by simp))
  · simp (disch := omega) only [Int32.le_iff_toInt_le, Int32.lt_iff_toInt_lt, ← Int32.toInt_inj, nI_toInt, t_bq, t_pc8, t_bel, t_mI, t_ite, t_dec, sm_t, Int32.reduceToInt, t_m1, t_0, t_1, t_2, t_3, t_8, Int.natCast_eq_zero, Int.ofNat_le, Int.ofNat_lt, Int.ofNat_inj, not_true_eq_false, not_false_eq_true, forall_const] at z2
    have e : nmf g a b q = (1, q + 4) := by rw [nmf, if_pos z, if_neg (by omega)]
    rw [e] at h0
    exact s_fail (k := 1) (h0 (by simp))
  · have e : nmf g a b q = (1, q) := by rw [nmf, if_neg z]
    rw [e] at h0
    exact s_failHere hk (h0 (by simp))
/-- a name: fault, place -/
def nam (g : Sx) (q : Nat) : Nat × Nat := if tk g q = 256 then (if tsp g q - q ≤ 6 then (if wd g q < 28 then (1, q) else (0, 0)) else (1, q + 6)) else (1, q)
theorem s_takeName {K : KI} (hT : EnT I g) (hk : TokAt I g q) (h1 : (nam g q).1 = 0 → ∀ I', FrA I I' → TokAt I' g (adv g q) → K (nI (tpk g q)) I' J) (h0 : (nam g q).1 ≠ 0 → ∀ I', FrB I I' → Flt I' (nam g q).1 (nam g q).2 → K (-1) I' J) : CalI wX (d + 2) mX10_takeName [.ref 1] I J K := by
  have hl := tk_le hT.lt q
  have h16 := hT.1.2
  have hts := tsp_le hk.1.2
  have hqn := hk.1.2
  have hwl := wd_le g q
  refine Cal.of (by decide) (Nat.le_of_ble_eq_true rfl) (bX10_takeName_0 (s_knownWord hT hk ?_))
  rw [hk.2.2.1, hk.2.1, hk.1.1, hk.2.2.2.1, show (256 : Int32) = nI 256 from rfl, tkI_eq hl (by omega), nI_sub hts.2.1, show (6 : Int32) = nI 6 from rfl, nI_add]
  refine ⟨fun z => ⟨fun z2 => ⟨fun z3 => ?_, fun y z3 => ?_⟩, fun z2 => ?_⟩, fun z => ?_⟩
  · simp (disch := omega) only [Int32.le_iff_toInt_le, Int32.lt_iff_toInt_lt, ← Int32.toInt_inj, nI_toInt, t_bq, t_pc8, t_bel, t_mI, t_ite, t_dec, sm_t, Int32.reduceToInt, t_m1, t_0, t_1, t_2, t_3, t_8, Int.natCast_eq_zero, Int.ofNat_le, Int.ofNat_lt, Int.ofNat_inj, not_true_eq_false, not_false_eq_true, forall_const] at z2
    have hw : ¬ wd g q < 34 := fun y => by rw [wop, if_pos y] at z3; cases z3
    have e : nam g q = (0, 0) := by rw [nam, if_pos z, if_pos (by omega), if_neg (by omega)]
    rw [e] at h1
    exact s_adv hT hk (h1 rfl)
  · simp (disch := omega) only [Int32.le_iff_toInt_le, Int32.lt_iff_toInt_lt, ← Int32.toInt_inj, nI_toInt, t_bq, t_pc8, t_bel, t_mI, t_ite, t_dec, sm_t, Int32.reduceToInt, t_m1, t_0, t_1, t_2, t_3, t_8, Int.natCast_eq_zero, Int.ofNat_le, Int.ofNat_lt, Int.ofNat_inj, not_true_eq_false, not_false_eq_true, forall_const] at z2
    have hw : wd g q < 34 := by
      by_cases y : wd g q < 34
      · exact y
      · rw [wop, if_neg y] at z3; cases z3
    refine ⟨10000 + wd g q, by rw [wop, if_pos hw], by omega, ?_⟩
    rw [own_wv _ hw]
    by_cases hw2 : wd g q < 28
    · rw [if_pos hw2]
      have e : nam g q = (1, q) := by rw [nam, if_pos z, if_pos (by omega), if_pos hw2]
      rw [e] at h0
      exact ⟨fun y => absurd y (by decide), fun _ => s_failHere hk (h0 (by simp))⟩
    · rw [if_neg hw2]
      have e : nam g q = (0, 0) := by rw [nam, if_pos z, if_pos (by omega), if_neg hw2]
      rw [e] at h1
      exact ⟨fun _ => s_adv hT hk (h1 rfl), fun y => absurd rfl y⟩
  · simp (disch := omega) only [Int32.le_iff_toInt_le, Int32.lt_iff_toInt_lt, ← Int32.toInt_inj, nI_toInt, t_bq, t_pc8, t_bel, t_mI, t_ite, t_dec, sm_t, Int32.reduceToInt, t_m1, t_0, t_1, t_2, t_3, t_8, Int.natCast_eq_zero, Int.ofNat_le, Int.ofNat_lt, Int.ofNat_inj, not_true_eq_false, not_false_eq_true, forall_const] at z2
    have e : nam g q = (1, q + 6) := by rw [nam, if_pos z, if_neg (by omega)]
    rw [e] at h0
    exact s_fail (k := 1) (h0 (by simp))
  · have e : nam g q = (1, q) := by rw [nam, if_neg z]
    rw [e] at h0
    exact s_failHere hk (h0 (by simp))
theorem s_open {K : KV} (hT : EnT I g) (h : ∀ I', FrB I I' → I' 1 2 = 0 → I' 1 3 = -1 → TokAt I' g (skp g 0) → K I' J) : CalV wX (d + 1) mX10_open [.ref 1] I J K := by
  refine Cal.of (by decide) (Nat.le_of_ble_eq_true rfl) (bX10_open_0 ?_)
  have f0 : FrB I (u2 (u2 (u2 I 1 2 0) 1 3 (-1)) 1 5 0) := ⟨fun a ha => by rw [u2_row ha, u2_row ha, u2_row ha], fun j hj => by rw [u2_k (by omega), u2_k (by omega), u2_k (by omega)]⟩
  refine s_advance (p := 0) (hT.B f0) (by rw [u2_at]; rfl) (by omega) (fun I' f1 ht => h I' (f0.trans f1.B) ?_ ?_ ht)
  · rw [f1.2 2 (by omega), u2_k (by omega), u2_k (by omega), u2_at]
  · rw [f1.2 3 (by omega), u2_k (by omega), u2_at]
end SP

/-! Foresight -/
/-- within m years, behind n of them: when first (0 never, else n + 1) -/
def fyr (sc : Sx) (L : Nat → List Nat) (q : Sx → Bool) : Nat → Sx → Nat → Nat
  | 0, s, n => if q s then n + 1 else 0
  | m + 1, s, n => if q s then n + 1 else fyr sc L q m (yr sc L s 0) (n + 1)
theorem fyr_le (sc : Sx) (L : Nat → List Nat) (q : Sx → Bool) : ∀ m s n, fyr sc L q m s n ≤ n + m + 1
  | 0, s, n => by simp only [fyr]; split <;> omega
  | m + 1, s, n => by
    have := fyr_le sc L q m (yr sc L s 0) (n + 1)
    simp only [fyr]
    split <;> omega
def FrF (I I' : Ii) : Prop := ∀ a, a ≠ 12 → a ≠ 33 → a ≠ 34 → a ≠ 35 → (a < 36 ∨ 42 < a) → I' a = I a
theorem FrF.refl (I : Ii) : FrF I I := fun _ _ _ _ _ _ => rfl
theorem FrF.trans {I I1 I2 : Ii} (h1 : FrF I I1) (h2 : FrF I1 I2) : FrF I I2 := fun a h3 h4 h5 h6 h7 => (h2 a h3 h4 h5 h6 h7).trans (h1 a h3 h4 h5 h6 h7)
theorem FrY.F {I I' : Ii} (h : FrY 37 I I') : FrF I I' := fun a h3 h4 h5 h6 h7 => h a h3 h4 h5 h6 (by omega)
theorem FrS.F {I I' : Ii} (h : FrS 37 I I') : FrF I I' := fun a h3 h4 h5 h6 h7 => h a (by omega)
def EnB (I : Ii) (sc : Sx) (L : Nat → List Nat) (s : Sx) : Prop := EnC I 3 sc L ∧ EnS I 19 s ∧ WFS sc s ∧ s 4 0 ≤ 999
theorem EnC.F {I I' : Ii} {sc : Sx} {L : Nat → List Nat} (h : EnC I 3 sc L) (hk : FrF I I') : EnC I' 3 sc L := h.kept (fun a h1 h2 => hk a (by omega) (by omega) (by omega) (by omega) (by omega))
theorem EnS.F {I I' : Ii} {s : Sx} (h : EnS I 19 s) (hk : FrF I I') : EnS I' 19 s := h.kept (fun a h1 h2 => hk a (by omega) (by omega) (by omega) (by omega) (by omega))
theorem EnB.F {I I' : Ii} {sc s : Sx} {L : Nat → List Nat} (h : EnB I sc L s) (hk : FrF I I') : EnB I' sc L s := ⟨h.1.F hk, h.2.1.F hk, h.2.2.1, h.2.2.2⟩
/-- how far one looks ahead -/
def hzn (s : Sx) : Nat := if 40 ≤ 999 - s 4 0 then 40 else 999 - s 4 0
theorem up0_WFS {sc s : Sx} {p c : Nat} (h : WFS sc s) (hp : p < sc 0 1) (hc : c ≤ sc 0 1) : WFS sc (up s 0 p c) := by
  refine ⟨fun k hk => ?_, by simpa [up] using h.2.1, by simpa [up] using h.2.2.1, by simpa [up] using h.2.2.2⟩
  have hk' := h.1 k hk
  by_cases e : k = p
  · subst e; simp [up]; exact ⟨hc, hk'.2.1, hk'.2.2.1, fun f hf z => by have := hk'.2.2.2.1 f hf; omega, hk'.2.2.2.2.1, fun z => absurd hp (by omega)⟩
  · simpa [up, e] using hk'
theorem WFS.m {sc s : Sx} (h : WFS sc s) (hP : sc 0 1 ≤ 8) : ∀ k, k < sc 0 1 → s 0 k ≤ sc 0 1 := fun k hk => (h.1 k (by omega)).1
section SP
variable {d : Nat} {I : Ii} {J : Jj} {sc s t : Sx} {L : Nat → List Nat}
theorem nI_sub {a b : Nat} (h : b ≤ a) : nI a - nI b = nI (a - b) := by
  obtain ⟨c, rfl⟩ : ∃ c, a = b + c := ⟨a - b, by omega⟩
  rw [← nI_add, show b + c - b = c by omega]
  apply Int32.toBitVec_inj.mp
  rw [Int32.toBitVec_sub, Int32.toBitVec_add, BitVec.add_comm, BitVec.add_sub_cancel]
theorem s_reaches {n m : Nat} {K : KI} (hs : EnS I 19 s) (hn : n < 2 ^ 30) (hm : m < 1000) (h : K (if n ≤ m ∧ s 4 0 + n ≤ 999 then 1 else 0) I J) : CalI wX d mX2_reaches [.ref 36, .int (nI n), .int (nI m)] I J K := by
  have hy := hs.2.2.2.2.1
  refine Cal.of (by decide) (Nat.le_of_ble_eq_true rfl) (bX2_reaches_0 ?_)
  rw [hy.1, nI_add, show (999 : Int32) = nI 999 from rfl]
  repeat' (first | (refine ⟨vp_in_nI (by omega) (by omega), ?_⟩) | (with_reducible refine And.intro ?_ ?_) | (with_reducible intro I9 e9; subst e9) | (with_reducible intro q9; try (simp (disch := omega) only [Int32.le_iff_toInt_le, Int32.lt_iff_toInt_lt, ← Int32.toInt_inj, nI_toInt, t_bq, t_pc8, t_bel, t_mI, t_ite, t_dec, sm_t, Int32.reduceToInt, t_m1, t_0, t_1, t_2, t_3, t_8, Int.natCast_eq_zero, Int.ofNat_le, Int.ofNat_lt, Int.ofNat_inj, not_true_eq_false, not_false_eq_true, forall_const] at q9); try (exfalso; omega)))
  · rw [if_neg (by omega)] at h; exact h
  · rw [if_neg (by omega)] at h; exact h
  · rw [if_pos (by omega)] at h; exact h
theorem s_reaches_neg {v : Int32} {m : Int32} {K : KI} (hv : v < 0) (h : K 0 I J) : CalI wX d mX2_reaches [.ref 36, .int v, .int m] I J K := Cal.of (by decide) (Nat.le_of_ble_eq_true rfl) (bX2_reaches_0 ⟨fun _ => h, fun q => absurd hv q⟩)
theorem s_horizon {K : KI} (hs : EnS I 19 s) (hy : s 4 0 ≤ 999) (h : K (nI (hzn s)) I J) : CalI wX (d + 1) mX2_horizon [.ref 36] I J K := by
  refine Cal.of (by decide) (Nat.le_of_ble_eq_true rfl) (bX2_horizon_0 ?_)
  rw [hs.2.2.2.2.1.1, show (999 : Int32) = nI 999 from rfl, nI_sub hy]
  refine s_min ?_
  have : (if nI (999 - s 4 0) < 40 then nI (999 - s 4 0) else 40) = nI (hzn s) := by
    unfold hzn
    by_cases e : 40 ≤ 999 - s 4 0
    · rw [if_pos e, if_neg]
      · rfl
      · intro q; simp (disch := omega) only [Int32.le_iff_toInt_le, Int32.lt_iff_toInt_lt, ← Int32.toInt_inj, nI_toInt, t_bq, t_pc8, t_bel, t_mI, t_ite, t_dec, sm_t, Int32.reduceToInt, t_m1, t_0, t_1, t_2, t_3, t_8, Int.natCast_eq_zero, Int.ofNat_le, Int.ofNat_lt, Int.ofNat_inj, not_true_eq_false, not_false_eq_true, forall_const] at q; omega
    · rw [if_neg e, if_pos]
      exact nI_lt (b := 40) (by omega) (by decide)
  rw [this]
  exact h
theorem hzn_le (s : Sx) (h : s 4 0 ≤ 999) : s 4 0 + hzn s ≤ 999 ∧ hzn s ≤ 40 := by unfold hzn; split <;> omega
/-- a year of the trial -/
theorem s_trial {K : KI} (hC : EnC I 3 sc L) (ht : EnS I 37 t) (hw : WFS sc t) (hy : t 4 0 ≤ 999) (h : ∀ I', EnS I' 37 (yr sc L t 0) → FrF I I' → K (nI (yrn sc L t 0)) I' J) : CalI wX (d + 4) mX1_runYear [.ref 32, .ref 37, .int 0] I J K :=
  s_runYear (aw := 0) obX_37 hC ht (by omega) (by omega) (hw.m hC.2.1.2) (fun I' h1 h2 => h I' h1 h2.F)
theorem s_copyT {K : KV} (hs : EnS I 19 s) (h : ∀ I', EnS I' 37 s → FrF I I' → K I' J) : CalV wX (d + 1) mX9_copyFrom [.ref 37, .ref 19] I J K :=
  s_copyFrom obX_37 obX_19 hs (by omega) (fun I' h1 h2 => h I' h1 h2.F)
theorem s_after {n : Nat} {K : KR} (hB : EnB I sc L s) (hn : s 4 0 + n ≤ 999) (h : ∀ I', EnS I' 37 (yrs sc L s n) → FrF I I' → K (some 37) I' J) : CalR wX (d + 5) mX2_after [.ref 36, .int (nI n)] I J K := by
  refine Cal.of (by decide) (Nat.le_of_ble_eq_true rfl) (bX2_after_0 (s_copyT hB.2.1 (fun I1 h1 f1 => ?_)))
  have key : ∀ m k I1, k + m = n → EnS I1 37 (yrs sc L s k) → FrF I I1 → GoR wX (d + 4 + 1) mX2_after 13 [(0, .ref 36), (1, .int (nI n)), (2, .int (nI k))] [] I1 J K := by
    intro m
    induction m with
    | zero =>
      intro k I1 hk h1 f1
      obtain rfl : k = n := by omega
      refine bX2_after_13 ?_
      repeat' (first | (refine ⟨vp_in_nI (by omega) (by omega), ?_⟩) | (with_reducible refine And.intro ?_ ?_) | (with_reducible intro I9 e9; subst e9) | (with_reducible intro q9; try (simp (disch := omega) only [Int32.le_iff_toInt_le, Int32.lt_iff_toInt_lt, ← Int32.toInt_inj, nI_toInt, t_bq, t_pc8, t_bel, t_mI, t_ite, t_dec, sm_t, Int32.reduceToInt, t_m1, t_0, t_1, t_2, t_3, t_8, Int.natCast_eq_zero, Int.ofNat_le, Int.ofNat_lt, Int.ofNat_inj, not_true_eq_false, not_false_eq_true, forall_const] at q9); try (exfalso; omega)))
      exact h I1 h1 f1
    | succ m ih =>
      intro k I1 hk h1 f1
      have hB1 := hB.F f1
      have hy := (yrs_m (sc := sc) (s := s) (L := L) k).2
      refine bX2_after_13 ?_
      rw [nI_1]
      repeat' (first | (refine ⟨vp_in_nI (by omega) (by omega), ?_⟩) | (with_reducible refine And.intro ?_ ?_) | (with_reducible intro I9 e9; subst e9) | (with_reducible intro q9; try (simp (disch := omega) only [Int32.le_iff_toInt_le, Int32.lt_iff_toInt_lt, ← Int32.toInt_inj, nI_toInt, t_bq, t_pc8, t_bel, t_mI, t_ite, t_dec, sm_t, Int32.reduceToInt, t_m1, t_0, t_1, t_2, t_3, t_8, Int.natCast_eq_zero, Int.ofNat_le, Int.ofNat_lt, Int.ofNat_inj, not_true_eq_false, not_false_eq_true, forall_const] at q9); try (exfalso; omega)))
      exact s_trial hB1.1 h1 (yrs_WFS hB.1.1.2 hB.1.2.1.2 hB.2.2.1 k) (by omega) (fun I2 h2 f2 => ih (k + 1) I2 (by omega) h2 (f1.trans f2))
  exact key n 0 I1 (by omega) h1 f1
theorem s_runToDoctor {p m : Nat} {K : KI} (hC : EnC I 3 sc L) (ht : EnS I 37 t) (hw : WFS sc t) (hm : t 4 0 + m ≤ 999) (hp : p < 8) (h : ∀ I', FrF I I' → K (mI (fyr sc L (fun t => decide (bq (t 4 2) p = 1)) m t 0)) I' J) : CalI wX (d + 5) mX2_runToDoctor [.ref 36, .int (nI p), .int (nI m)] I J K := by
  refine Cal.of (by decide) (Nat.le_of_ble_eq_true rfl) (bX2_runToDoctor_0 ?_)
  have key : ∀ r k u I1, k + r = m → EnS I1 37 u → WFS sc u → u 4 0 + r ≤ 999 → FrF I I1 → (∀ I', FrF I I' → K (mI (fyr sc L (fun t => decide (bq (t 4 2) p = 1)) r u k)) I' J) → GoI wX (d + 4 + 1) mX2_runToDoctor 2 [(0, .ref 36), (1, .int (nI p)), (2, .int (nI m)), (3, .int (nI k))] [] I1 J K := by
    intro r
    induction r with
    | zero =>
      intro k u I1 hk h1 w1 y1 f1 hK
      obtain rfl : k = m := by omega
      refine bX2_runToDoctor_2 ?_
      rw [h1.2.2.2.2.2.2.1.1, nI_1]
      repeat' (first | (refine ⟨vp_in_nI (by omega) (by omega), ?_⟩) | (with_reducible refine And.intro ?_ ?_) | (with_reducible intro I9 e9; subst e9) | (with_reducible intro q9; try (simp (disch := omega) only [Int32.le_iff_toInt_le, Int32.lt_iff_toInt_lt, ← Int32.toInt_inj, nI_toInt, t_bq, t_pc8, t_bel, t_mI, t_ite, t_dec, sm_t, Int32.reduceToInt, t_m1, t_0, t_1, t_2, t_3, t_8, Int.natCast_eq_zero, Int.ofNat_le, Int.ofNat_lt, Int.ofNat_inj, not_true_eq_false, not_false_eq_true, forall_const] at q9); try (exfalso; omega)))
      refine s_hasBit h1.2.2.2.2.2.2.1.2 hp ?_
      have := bq01 (u 4 2) p
      repeat' (first | (refine ⟨vp_in_nI (by omega) (by omega), ?_⟩) | (with_reducible refine And.intro ?_ ?_) | (with_reducible intro I9 e9; subst e9) | (with_reducible intro q9; try (simp (disch := omega) only [Int32.le_iff_toInt_le, Int32.lt_iff_toInt_lt, ← Int32.toInt_inj, nI_toInt, t_bq, t_pc8, t_bel, t_mI, t_ite, t_dec, sm_t, Int32.reduceToInt, t_m1, t_0, t_1, t_2, t_3, t_8, Int.natCast_eq_zero, Int.ofNat_le, Int.ofNat_lt, Int.ofNat_inj, not_true_eq_false, not_false_eq_true, forall_const] at q9); try (exfalso; omega)))
      · have hK' := hK I1 f1
        simp only [fyr, show ¬ bq (u 4 2) p = 1 by omega, decide_false, Bool.false_eq_true, if_false] at hK'
        refine bX2_runToDoctor_2 ?_
        repeat' (first | (refine ⟨vp_in_nI (by omega) (by omega), ?_⟩) | (with_reducible refine And.intro ?_ ?_) | (with_reducible intro I9 e9; subst e9) | (with_reducible intro q9; try (simp (disch := omega) only [Int32.le_iff_toInt_le, Int32.lt_iff_toInt_lt, ← Int32.toInt_inj, nI_toInt, t_bq, t_pc8, t_bel, t_mI, t_ite, t_dec, sm_t, Int32.reduceToInt, t_m1, t_0, t_1, t_2, t_3, t_8, Int.natCast_eq_zero, Int.ofNat_le, Int.ofNat_lt, Int.ofNat_inj, not_true_eq_false, not_false_eq_true, forall_const] at q9); try (exfalso; omega)))
        exact hK'
      · have hK' := hK I1 f1
        simp only [fyr, show bq (u 4 2) p = 1 by omega, decide_true, if_true, mI_s] at hK'
        exact hK'
    | succ r ih =>
      intro k u I1 hk h1 w1 y1 f1 hK
      refine bX2_runToDoctor_2 ?_
      rw [h1.2.2.2.2.2.2.1.1, nI_1]
      repeat' (first | (refine ⟨vp_in_nI (by omega) (by omega), ?_⟩) | (with_reducible refine And.intro ?_ ?_) | (with_reducible intro I9 e9; subst e9) | (with_reducible intro q9; try (simp (disch := omega) only [Int32.le_iff_toInt_le, Int32.lt_iff_toInt_lt, ← Int32.toInt_inj, nI_toInt, t_bq, t_pc8, t_bel, t_mI, t_ite, t_dec, sm_t, Int32.reduceToInt, t_m1, t_0, t_1, t_2, t_3, t_8, Int.natCast_eq_zero, Int.ofNat_le, Int.ofNat_lt, Int.ofNat_inj, not_true_eq_false, not_false_eq_true, forall_const] at q9); try (exfalso; omega)))
      refine s_hasBit h1.2.2.2.2.2.2.1.2 hp ?_
      have := bq01 (u 4 2) p
      repeat' (first | (refine ⟨vp_in_nI (by omega) (by omega), ?_⟩) | (with_reducible refine And.intro ?_ ?_) | (with_reducible intro I9 e9; subst e9) | (with_reducible intro q9; try (simp (disch := omega) only [Int32.le_iff_toInt_le, Int32.lt_iff_toInt_lt, ← Int32.toInt_inj, nI_toInt, t_bq, t_pc8, t_bel, t_mI, t_ite, t_dec, sm_t, Int32.reduceToInt, t_m1, t_0, t_1, t_2, t_3, t_8, Int.natCast_eq_zero, Int.ofNat_le, Int.ofNat_lt, Int.ofNat_inj, not_true_eq_false, not_false_eq_true, forall_const] at q9); try (exfalso; omega)))
      · refine s_trial (hC.F f1) h1 w1 (by omega) (fun I2 h2 f2 => ?_)
        refine ih (k + 1) _ I2 (by omega) h2 (yr_WFS hC.1.2 hC.2.1.2 w1) (by rw [yr_m.2]; omega) (f1.trans f2) (fun I' f' => ?_)
        have hK' := hK I' f'
        simp only [fyr, show ¬ bq (u 4 2) p = 1 by omega, decide_false, Bool.false_eq_true, if_false] at hK'
        exact hK'
      · have hK' := hK I1 f1
        simp only [fyr, show bq (u 4 2) p = 1 by omega, decide_true, if_true, mI_s] at hK'
        exact hK'
  exact key m 0 t I (by omega) ht hw hm (FrF.refl I) h
theorem s_yearsToDoctor {p : Nat} {K : KI} (hB : EnB I sc L s) (hp : p < 8) (h : ∀ I', FrF I I' → K (mI (fyr sc L (fun t => decide (bq (t 4 2) p = 1)) (hzn s) s 0)) I' J) : CalI wX (d + 6) mX2_yearsToDoctor [.ref 36, .int (nI p)] I J K := by
  refine Cal.of (by decide) (Nat.le_of_ble_eq_true rfl) (bX2_yearsToDoctor_0 (s_copyT hB.2.1 (fun I1 h1 f1 => ?_)))
  have hB1 := hB.F f1
  refine s_horizon hB1.2.1 hB1.2.2.2 (s_runToDoctor hB1.1 h1 hB.2.2.1 (hzn_le s hB.2.2.2).1 hp (fun I2 f2 => h I2 (f1.trans f2)))
theorem k8_all : ∀ P, P < 9 → ((1 : Int32) <<< (nI P &&& 31)) - 1 = nI (2 ^ P - 1) := by decide +kernel
theorem k8_sh : ∀ P, P < 9 → ((1 : Int32) <<< (nI P &&& 31)) = nI (2 ^ P) := by decide +kernel
theorem s_yearsToLoss {f : Nat} {K : KI} (hB : EnB I sc L s) (hf : f < 8) (h : ∀ I', FrF I I' → K (mI (if sc 0 1 = 0 then 0 else fyr sc L (fun t => decide (who t 2 f = 2 ^ sc 0 1 - 1)) (hzn s) s 0)) I' J) : CalI wX (d + 6) mX2_yearsToLoss [.ref 36, .int (nI f)] I J K := by
  refine Cal.of (by decide) (Nat.le_of_ble_eq_true rfl) (bX2_yearsToLoss_0 (s_horizon hB.2.1 hB.2.2.2 (s_copyT hB.2.1 (fun I1 h1 f1 => ?_))))
  have hP := hB.1.2.1.2
  have h8 := p2_8 hP
  rw [hB.1.2.1.1, k8_all _ (by omega)]
  have hpos := Nat.two_pow_pos (sc 0 1)
  by_cases hP0 : sc 0 1 = 0
  · refine bX2_yearsToLoss_31 ?_
    rw [hP0]
    have hK := h I1 f1
    rw [if_pos hP0] at hK
    exact ⟨fun _ => hK, fun _ => ⟨fun _ => hK, fun q => absurd rfl q⟩⟩
  have hP1 : 2 ^ 1 ≤ 2 ^ sc 0 1 := Nat.pow_le_pow_right (by omega) (by omega)
  rw [if_neg hP0] at h
  have hz := hzn_le s hB.2.2.2
  have key : ∀ r k u I1, k + r = hzn s → EnS I1 37 u → WFS sc u → u 4 0 + r ≤ 999 → FrF I I1 → (∀ I', FrF I I' → K (mI (fyr sc L (fun t => decide (who t 2 f = 2 ^ sc 0 1 - 1)) r u k)) I' J) → GoI wX (d + 5 + 1) mX2_yearsToLoss 31 [(0, .ref 36), (1, .int (nI f)), (2, .int (nI (hzn s))), (3, .int (nI (2 ^ sc 0 1 - 1))), (4, .int (nI k))] [] I1 J K := by
    intro r
    induction r with
    | zero =>
      intro k u I1 hk h1 w1 y1 f1 hK
      refine bX2_yearsToLoss_31 ?_
      rw [nI_1]
      repeat' (first | (refine ⟨vp_in_nI (by omega) (by omega), ?_⟩) | (with_reducible refine And.intro ?_ ?_) | (with_reducible intro I9 e9; subst e9) | (with_reducible intro q9; try (simp (disch := omega) only [Int32.le_iff_toInt_le, Int32.lt_iff_toInt_lt, ← Int32.toInt_inj, nI_toInt, t_bq, t_pc8, t_bel, t_mI, t_ite, t_dec, sm_t, Int32.reduceToInt, t_m1, t_0, t_1, t_2, t_3, t_8, Int.natCast_eq_zero, Int.ofNat_le, Int.ofNat_lt, Int.ofNat_inj, not_true_eq_false, not_false_eq_true, forall_const] at q9); try (exfalso; omega)))
      have hl := who_lt u 2 f
      refine s_whoHas (s := u) (i := 2) arX_40 h1.2.2.1 hf ?_
      repeat' (first | (refine ⟨vp_in_nI (by omega) (by omega), ?_⟩) | (with_reducible refine And.intro ?_ ?_) | (with_reducible intro I9 e9; subst e9) | (with_reducible intro q9; try (simp (disch := omega) only [Int32.le_iff_toInt_le, Int32.lt_iff_toInt_lt, ← Int32.toInt_inj, nI_toInt, t_bq, t_pc8, t_bel, t_mI, t_ite, t_dec, sm_t, Int32.reduceToInt, t_m1, t_0, t_1, t_2, t_3, t_8, Int.natCast_eq_zero, Int.ofNat_le, Int.ofNat_lt, Int.ofNat_inj, not_true_eq_false, not_false_eq_true, forall_const] at q9); try (exfalso; omega)))
      · have hK' := hK I1 f1
        simp only [fyr, show ¬ who u 2 f = 2 ^ sc 0 1 - 1 by omega, decide_false, Bool.false_eq_true, if_false] at hK'
        refine bX2_yearsToLoss_31 ?_
        repeat' (first | (refine ⟨vp_in_nI (by omega) (by omega), ?_⟩) | (with_reducible refine And.intro ?_ ?_) | (with_reducible intro I9 e9; subst e9) | (with_reducible intro q9; try (simp (disch := omega) only [Int32.le_iff_toInt_le, Int32.lt_iff_toInt_lt, ← Int32.toInt_inj, nI_toInt, t_bq, t_pc8, t_bel, t_mI, t_ite, t_dec, sm_t, Int32.reduceToInt, t_m1, t_0, t_1, t_2, t_3, t_8, Int.natCast_eq_zero, Int.ofNat_le, Int.ofNat_lt, Int.ofNat_inj, not_true_eq_false, not_false_eq_true, forall_const] at q9); try (exfalso; omega)))
        exact hK'
      · have hK' := hK I1 f1
        simp only [fyr, show who u 2 f = 2 ^ sc 0 1 - 1 by omega, decide_true, if_true, mI_s] at hK'
        exact hK'
    | succ r ih =>
      intro k u I1 hk h1 w1 y1 f1 hK
      refine bX2_yearsToLoss_31 ?_
      rw [nI_1]
      repeat' (first | (refine ⟨vp_in_nI (by omega) (by omega), ?_⟩) | (with_reducible refine And.intro ?_ ?_) | (with_reducible intro I9 e9; subst e9) | (with_reducible intro q9; try (simp (disch := omega) only [Int32.le_iff_toInt_le, Int32.lt_iff_toInt_lt, ← Int32.toInt_inj, nI_toInt, t_bq, t_pc8, t_bel, t_mI, t_ite, t_dec, sm_t, Int32.reduceToInt, t_m1, t_0, t_1, t_2, t_3, t_8, Int.natCast_eq_zero, Int.ofNat_le, Int.ofNat_lt, Int.ofNat_inj, not_true_eq_false, not_false_eq_true, forall_const] at q9); try (exfalso; omega)))
      have hl := who_lt u 2 f
      refine s_whoHas (s := u) (i := 2) arX_40 h1.2.2.1 hf ?_
      repeat' (first | (refine ⟨vp_in_nI (by omega) (by omega), ?_⟩) | (with_reducible refine And.intro ?_ ?_) | (with_reducible intro I9 e9; subst e9) | (with_reducible intro q9; try (simp (disch := omega) only [Int32.le_iff_toInt_le, Int32.lt_iff_toInt_lt, ← Int32.toInt_inj, nI_toInt, t_bq, t_pc8, t_bel, t_mI, t_ite, t_dec, sm_t, Int32.reduceToInt, t_m1, t_0, t_1, t_2, t_3, t_8, Int.natCast_eq_zero, Int.ofNat_le, Int.ofNat_lt, Int.ofNat_inj, not_true_eq_false, not_false_eq_true, forall_const] at q9); try (exfalso; omega)))
      · refine s_trial (hB.1.F f1) h1 w1 (by omega) (fun I2 h2 f2 => ?_)
        refine ih (k + 1) _ I2 (by omega) h2 (yr_WFS hB.1.1.2 hP w1) (by rw [yr_m.2]; omega) (f1.trans f2) (fun I' f' => ?_)
        have hK' := hK I' f'
        simp only [fyr, show ¬ who u 2 f = 2 ^ sc 0 1 - 1 by omega, decide_false, Bool.false_eq_true, if_false] at hK'
        exact hK'
      · have hK' := hK I1 f1
        simp only [fyr, show who u 2 f = 2 ^ sc 0 1 - 1 by omega, decide_true, if_true, mI_s] at hK'
        exact hK'
  exact key (hzn s) 0 s I1 (by omega) h1 hB.2.2.1 hz.1 f1 h
end SP

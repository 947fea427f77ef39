/-! the class's face: on -/
section SP
variable {d : Nat} {I : Ii} {J : Jj} {sc s t g : Sx} {L : Nat → List Nat} {ps : Nat → Sx}
theorem ldN_WFS (hF : sc 0 0 ≤ 8) (hP : sc 0 1 ≤ 8) (h : alB (rwq sc g) (sc 0 1) = true) : WFS sc (ldN g (sc 0 1)) := by
  have l1 := msk_lt (fun p => decide (bq (g 1 (6 + 5 * p)) 0 = 1)) (sc 0 1)
  have l2 := msk_lt (fun p => decide (bq (g 1 (6 + 5 * p)) 1 = 1)) (sc 0 1)
  have f8 := p2_8 hF
  have fp := Nat.two_pow_pos (sc 0 0)
  refine ⟨fun k hk => ?_, by simpa [ldN] using l1, by simpa [ldN] using l2, by simp [ldN]⟩
  by_cases hkP : k < sc 0 1
  · have hr := alB_at h hkP
    simp only [rwq, decide_eq_true_eq] at hr
    simp only [ldN, hkP, if_true, show ¬ (1 : Nat) = 0 by omega, show ¬ (2 : Nat) = 0 by omega, show ¬ (2 : Nat) = 1 by omega, show ¬ (3 : Nat) = 0 by omega, show ¬ (3 : Nat) = 1 by omega, show ¬ (3 : Nat) = 2 by omega, if_false]
    refine ⟨hr.1, hr.2.1, hr.2.2.1, fun f hf z => ?_, hr.2.2.2.2.1, fun z => absurd hkP (by omega)⟩
    have e := bq_and (g 1 (3 + 5 * k)) (g 1 (4 + 5 * k)) f
    rw [hr.2.2.2.1, if_pos z] at e
    simp [bq] at e
  · have z0 : ∀ f, bq 0 f = 0 := fun f => by simp [bq]
    simp only [ldN, hkP, if_true, show ¬ (1 : Nat) = 0 by omega, show ¬ (2 : Nat) = 0 by omega, show ¬ (2 : Nat) = 1 by omega, show ¬ (3 : Nat) = 0 by omega, show ¬ (3 : Nat) = 1 by omega, show ¬ (3 : Nat) = 2 by omega, if_false, z0]
    refine ⟨by omega, by omega, by omega, fun f hf z => by omega, by omega, fun _ => by simp⟩
theorem ldN_acy (h : alB (fun k => !(anc (ldN g (sc 0 1)) k 8 (ldN g (sc 0 1) 0 k))) (sc 0 1) = true) : acy (ldN g (sc 0 1)) := by
  intro k hk
  by_cases hkP : k < sc 0 1
  · have := alB_at h hkP
    simpa using this
  · have : ldN g (sc 0 1) 0 k = 0 := by simp [ldN, hkP]
    rw [this]
    simp [anc]
theorem onq_ok (hF : sc 0 0 ≤ 8) (hP : sc 0 1 ≤ 8) (h : onq sc g = true) : okS sc (ldN g (sc 0 1)) := by
  simp only [onq, Bool.and_eq_true, decide_eq_true_eq] at h
  exact ⟨ldN_WFS hF hP h.1.1.2, by simpa [ldN] using h.2, ldN_acy h.1.2⟩
theorem s_readImage {K : KI} (hT : EnT I g) (hC : EnC I 3 sc L) (h30 : ∀ k, k < 30 → I 30 k = 0) (h1 : onq sc g = true → ∀ I', EnS I' 25 (ldN g (sc 0 1)) → FrS 25 I I' → I' 30 = I 30 → K 1 I' J) (h0 : onq sc g = false → ∀ I', FrS 25 I I' → I' 30 = I 30 → K 0 I' J) : CalI wX (d + 3) mX9_readImage [.ref 25, .ref 1, .ref 3] I J K := by
  have hP := hC.2.1.2
  have hF := hC.1.2
  have h16 := hT.1.2
  have FrS_r : FrS 25 I I := fun _ _ => rfl
  refine Cal.of (by decide) (Nat.le_of_ble_eq_true rfl) (bX9_readImage_0 obX_25 ?_)
  rw [hT.1.1, hC.2.1.1, show (2 : Int32) = nI 2 from rfl, show (5 : Int32) = nI 5 from rfl, pk_mul, nI_add, nI_1]
  refine ⟨fun q => ?_, fun q => ?_⟩
  · simp (disch := omega) only [Int32.le_iff_toInt_le, Int32.lt_iff_toInt_lt, ← Int32.toInt_inj, nI_toInt, t_bq, t_pc8, t_bel, t_mI, t_ite, t_dec, sm_t, Int32.reduceToInt, t_m1, t_0, t_1, t_2, t_3, t_8, Int.natCast_eq_zero, Int.ofNat_le, Int.ofNat_lt, Int.ofNat_inj, not_true_eq_false, not_false_eq_true, forall_const] at q
    exact h0 (by simp [onq]; intro z; omega) I FrS_r rfl
  simp (disch := omega) only [Int32.le_iff_toInt_le, Int32.lt_iff_toInt_lt, ← Int32.toInt_inj, nI_toInt, t_bq, t_pc8, t_bel, t_mI, t_ite, t_dec, sm_t, Int32.reduceToInt, t_m1, t_0, t_1, t_2, t_3, t_8, Int.natCast_eq_zero, Int.ofNat_le, Int.ofNat_lt, Int.ofNat_inj, not_true_eq_false, not_false_eq_true, forall_const] at q
  have hn : g 0 0 = 3 + 5 * sc 0 1 := by omega
  refine s_isSummed hT (by omega) ⟨fun q2 => ?_, fun q2 => ?_⟩
  case refine_2 =>
    rw [b01_0] at q2
    exact h0 (by simp [onq, q2]) I FrS_r rfl
  rw [b01_n] at q2
  refine s_clear obX_25 arX_26 arX_27 arX_28 arX_29 h30 (fun I1 hS1 f1 z1 => ?_)
  have hT1 := hT.S (by omega) f1
  refine s_byteAt (k := 0) hT1 (by omega) (s_byteAt (k := 1) hT1 (by omega) ?_)
  have y0 := (hT.2 0 (by omega)).2
  have y1 := (hT.2 1 (by omega)).2
  have ey : nI (g 1 0) * 256 + nI (g 1 1) = nI (256 * g 1 0 + g 1 1) := by
    rw [show (256 : Int32) = nI 256 from rfl, pk_mul, nI_add, Nat.mul_comm]
  rw [ey]
  -- the rings
  have l2 : alB (rwq sc g) (sc 0 1) = true → ∀ I2, EnS I2 25 (ldN g (sc 0 1)) → FrS 25 I I2 → I2 30 = I 30 → ∀ r k, k + r = sc 0 1 → alB (fun k => !(anc (ldN g (sc 0 1)) k 8 (ldN g (sc 0 1) 0 k))) k = true → GoI wX (d + 2 + 1) mX9_readImage 86 [(0, .ref 25), (2, .ref 3), (4, .int (nI k))] [] I2 J K := by
    intro hrows I2 hS2 f2 z2 r
    have hy2 : I2 25 0 = nI (256 * g 1 0 + g 1 1) := by rw [hS2.2.2.2.2.1.1]; simp [ldN]
    induction r with
    | zero =>
      intro k hk ha
      obtain rfl : k = sc 0 1 := by omega
      refine bX9_readImage_86 obX_25 ?_
      rw [f2 3 (by omega), hC.2.1.1, hy2, show (999 : Int32) = nI 999 from rfl]
      repeat' (first | (refine ⟨vp_in_nI (by omega) (by omega), ?_⟩) | (with_reducible refine And.intro ?_ ?_) | (with_reducible intro I9 e9; subst e9) | (with_reducible intro q9; try (simp (disch := omega) only [Int32.le_iff_toInt_le, Int32.lt_iff_toInt_lt, ← Int32.toInt_inj, nI_toInt, t_bq, t_pc8, t_bel, t_mI, t_ite, t_dec, sm_t, Int32.reduceToInt, t_m1, t_0, t_1, t_2, t_3, t_8, Int.natCast_eq_zero, Int.ofNat_le, Int.ofNat_lt, Int.ofNat_inj, not_true_eq_false, not_false_eq_true, forall_const] at q9); try (exfalso; omega)))
      · exact h0 (by rw [onq, decide_eq_false (show ¬ 256 * g 1 0 + g 1 1 ≤ 999 by omega), Bool.and_false]) I2 f2 z2
      · exact h1 (by rw [onq, hn, q2, hrows, ha, decide_eq_true (show 256 * g 1 0 + g 1 1 ≤ 999 by omega)]; simp) I2 hS2 f2 z2
    | succ r ih =>
      intro k hk ha
      refine bX9_readImage_86 obX_25 ?_
      rw [f2 3 (by omega), hC.2.1.1, nI_1]
      repeat' (first | (refine ⟨vp_in_nI (by omega) (by omega), ?_⟩) | (with_reducible refine And.intro ?_ ?_) | (with_reducible intro I9 e9; subst e9) | (with_reducible intro q9; try (simp (disch := omega) only [Int32.le_iff_toInt_le, Int32.lt_iff_toInt_lt, ← Int32.toInt_inj, nI_toInt, t_bq, t_pc8, t_bel, t_mI, t_ite, t_dec, sm_t, Int32.reduceToInt, t_m1, t_0, t_1, t_2, t_3, t_8, Int.natCast_eq_zero, Int.ofNat_le, Int.ofNat_lt, Int.ofNat_inj, not_true_eq_false, not_false_eq_true, forall_const] at q9); try (exfalso; omega)))
      refine s_isAbove obX_25 hS2 (by omega) (by omega) ?_
      by_cases e : anc (ldN g (sc 0 1)) k 8 (ldN g (sc 0 1) 0 k) = true
      · rw [if_pos e]
        refine ⟨fun z => absurd z (by decide), fun _ => h0 ?_ I2 f2 z2⟩
        have := alB_no (q := fun k => !(anc (ldN g (sc 0 1)) k 8 (ldN g (sc 0 1) 0 k))) (k := k + 1) (by simp [alB, e]) r
        rw [show k + 1 + r = sc 0 1 by omega] at this
        simp [onq, this]
      · rw [if_neg e]
        exact ⟨fun _ => ih (k + 1) (by omega) (by simp only [alB, ha]; simpa using e), fun z => absurd rfl z⟩
  have l1 : ∀ r k I2, k + r = sc 0 1 → EnS I2 25 (ldN g k) → FrS 25 I I2 → I2 30 = I 30 → alB (rwq sc g) k = true → GoI wX (d + 2 + 1) mX9_readImage 55 [(0, .ref 25), (1, .ref 1), (2, .ref 3), (4, .int (nI k))] [] I2 J K := by
    intro r
    induction r with
    | zero =>
      intro k I2 hk hS2 f2 z2 ha
      obtain rfl : k = sc 0 1 := by omega
      refine bX9_readImage_55 obX_25 ?_
      rw [f2 3 (by omega), hC.2.1.1]
      repeat' (first | (refine ⟨vp_in_nI (by omega) (by omega), ?_⟩) | (with_reducible refine And.intro ?_ ?_) | (with_reducible intro I9 e9; subst e9) | (with_reducible intro q9; try (simp (disch := omega) only [Int32.le_iff_toInt_le, Int32.lt_iff_toInt_lt, ← Int32.toInt_inj, nI_toInt, t_bq, t_pc8, t_bel, t_mI, t_ite, t_dec, sm_t, Int32.reduceToInt, t_m1, t_0, t_1, t_2, t_3, t_8, Int.natCast_eq_zero, Int.ofNat_le, Int.ofNat_lt, Int.ofNat_inj, not_true_eq_false, not_false_eq_true, forall_const] at q9); try (exfalso; omega)))
      exact l2 ha I2 hS2 f2 z2 (sc 0 1) 0 (by omega) rfl
    | succ r ih =>
      intro k I2 hk hS2 f2 z2 ha
      refine bX9_readImage_55 obX_25 ?_
      rw [f2 3 (by omega), hC.2.1.1, nI_1]
      repeat' (first | (refine ⟨vp_in_nI (by omega) (by omega), ?_⟩) | (with_reducible refine And.intro ?_ ?_) | (with_reducible intro I9 e9; subst e9) | (with_reducible intro q9; try (simp (disch := omega) only [Int32.le_iff_toInt_le, Int32.lt_iff_toInt_lt, ← Int32.toInt_inj, nI_toInt, t_bq, t_pc8, t_bel, t_mI, t_ite, t_dec, sm_t, Int32.reduceToInt, t_m1, t_0, t_1, t_2, t_3, t_8, Int.natCast_eq_zero, Int.ofNat_le, Int.ofNat_lt, Int.ofNat_inj, not_true_eq_false, not_false_eq_true, forall_const] at q9); try (exfalso; omega)))
      refine s_readRow (hT.S (by omega) f2) (hC.kept (fun a z1 z2 => f2 a (by omega))) (by omega) hn hS2 (fun hq I3 hS3 f3 z3 => ?_) (fun hq I3 f3 z3 => ?_)
      · exact ⟨fun _ => ih (k + 1) I3 (by omega) hS3 (fun a ha => (f3 a ha).trans (f2 a ha)) (z3.trans z2) (by simp [alB, ha, hq]), fun z => absurd z (by decide)⟩
      · refine ⟨fun z => absurd rfl z, fun _ => h0 ?_ I3 (fun a ha => (f3 a ha).trans (f2 a ha)) (z3.trans z2)⟩
        have := alB_no (q := rwq sc g) (k := k + 1) (by simp [alB, hq]) r
        rw [show k + 1 + r = sc 0 1 by omega] at this
        simp [onq, this]
  have e0 : up (fun _ _ => 0) 4 0 (256 * g 1 0 + g 1 1) = ldN g 0 := by
    funext a k
    simp only [up, ldN, Nat.not_lt_zero, if_false, msk]
    by_cases e : a = 4
    · subst e
      by_cases e2 : k = 0
      · simp [e2]
      · simp [e2]
    · simp [e]
  refine l1 (sc 0 1) 0 _ (by omega) (by rw [← e0]; exact hS1.putY (by omega)) (fun a ha => by rw [u2_row (by omega)]; exact f1 a ha) (by rw [u2_row (by omega)]; exact z1) rfl
def s_on (sc s g : Sx) : Sx := if onq sc g then ldN g (sc 0 1) else s
def g_on (sc g : Sx) : Sx := if onq sc g then up (up g 0 0 0) 0 6 0 else rf (up g 0 0 0) 5
theorem x_on {K : KI} (hX : EnX I sc L s ps g) (h : ∀ I', EnX I' sc L (s_on sc s g) ps (g_on sc g) → K (b01 (onq sc g)) I' J) : CalI wX (d + 4) mX12_on [.ref 0] I J K := by
  have hX' := hX
  obtain ⟨hB, hA, hT, hR, hf, hr, hi, hd, hP⟩ := hX
  have cut : ∀ I1, FrS 25 I I1 → I1 30 = I 30 → EnX (u2 I1 1 1 0) sc L s ps (up g 0 0 0) := fun I1 f1 z1 => by
    have : EnX I1 sc L s ps g := hX'.fr ⟨fun a ha => by
      by_cases e : a = 30
      · subst e; exact z1
      · exact f1 a (by omega), by rw [f1 43 (by omega)]⟩
    exact this.cut (n := 0) (by omega)
  refine Cal.of (by decide) (Nat.le_of_ble_eq_true rfl) (bX12_on_0 (s_readImage hT hB.1 (fun k hk => (hP.1.2.2 k hk).1) (fun hq I1 hS1 f1 z1 => ?_) (fun hq I1 f1 z1 => ?_)))
  · rw [s_on, g_on, hq, if_pos rfl, if_pos rfl] at h
    rintro _ rfl
    refine ⟨fun _ => ?_, fun q => absurd q (by decide)⟩
    have h1 := cut I1 f1 z1
    have hok := onq_ok hB.1.1.2 hB.1.2.1.2 hq
    refine s_copyFrom obX_19 obX_25 (hS1.kept (fun a h2 h3 => u2_row (by omega))) (by omega) (fun I2 hS2 f2 => ?_)
    have h2 := h1.now f2.N hS2 hok
    refine Cal.of (by decide) (Nat.le_of_ble_eq_true rfl) (bX12_forgetPast_0 (h _ ?_))
    obtain ⟨hB2, hA2, hT2, hR2, hf2, hr2, hi2, hd2, hP2⟩ := h2
    refine EnX.re (g := up g 0 0 0) ⟨hB2, hA2, hT2, hR2, hf2, hr2, hi2, hd2, hP2⟩ (fun a ha => by rw [u2_row (by omega), u2_row (by omega)]) ?_ ?_ ?_ (fun k hk => ?_) ?_ ?_ ⟨⟨?_, ?_, ?_⟩, 0, by omega, ?_, fun i hi => ?_⟩
    · unfold EnT; rw [u2_row (by omega), u2_row (by omega), u2_row (by omega), u2_row (by omega)]; simpa [up, EnT] using hT2
    · unfold EnR; rw [u2_row (by omega), u2_row (by omega), u2_row (by omega), u2_row (by omega), u2_row (by omega), u2_row (by omega)]; simpa [up, EnR] using hR2
    · rw [u2_row (by omega), u2_row (by omega)]; simpa [up] using hf2
    · rw [u2_row (by omega), u2_row (by omega)]; simpa [up] using hr2 k hk
    · rw [u2_k (by omega), u2_k (by omega), u2_row (by omega), u2_row (by omega)]; simpa [up] using hi2
    · rw [u2_k (by omega), u2_k (by omega)]; simpa [up] using hd2
    · rw [u2_at]; simp [up]; rfl
    · simp [up]
    · rw [u2_row (by omega), u2_row (by omega), u2_row (by omega), u2_row (by omega), u2_row (by omega), u2_row (by omega)]; exact hP2.1.2.2
    · rw [u2_k (by omega), u2_at]; rfl
    · simp [up] at hi
  · rw [s_on, g_on, hq] at h
    rintro _ rfl
    refine ⟨fun q => absurd rfl q, fun _ => ?_⟩
    exact s_deny (k := 5) (cut I1 f1 z1) (by omega) (fun I' h' => ⟨Or.inl rfl, h I' h'⟩)
end SP

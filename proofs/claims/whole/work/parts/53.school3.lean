/-! the class's SchoolReader: beliefs, masters, laws -/
section SP
variable {d : Nat} {I : Ii} {J : Jj} {g : Sx} {q z : Nat} {D : Dr}
theorem kno_p {f : Nat → Nat} {n : Nat} (h : (kno g f n q).1 = 0) : (kno g f n q).2.2 < n := by
  unfold kno at h ⊢
  by_cases e : (nam g q).1 ≠ 0
  · rw [if_pos e] at h; exact absurd h e
  · rw [if_neg e] at h ⊢
    by_cases e2 : plc f n (tpk g q) = n
    · rw [if_pos e2] at h; exact absurd h (by simp)
    · rw [if_neg e2]
      have := plc_le f n (tpk g q)
      simp only
      omega
theorem c_bel {b : Nat} {K : KI} (hb : b = 1 ∨ b = 2) (hT : EnT I g) (hk : TokAt I g q) (hD : EnDr I D z) (hz : z ≤ q) (hK : ∀ b2 I2, SO g I (sBel g b D q) b2 I2 → K b2 I2 J) : CalI wX (d + 4) mX8_readBelief [.ref 53, .int (nI b)] I J K := by
  have hq := hk.1.2
  have a1 := adv2 (g := g) hq
  have a2 := adv2 (g := g) a1.1
  have a3 := adv2 (g := g) a2.1
  obtain ⟨hF8, hP8, -, -, -, hfn, hpn, -⟩ := hD.1
  refine Cal.of (by decide) (Nat.le_of_ble_eq_true rfl) (bX8_readBelief_0 (s_adv hT hk (fun I1 f1 h1 => ?_)))
  rw [f1.1 54 (by omega), hP8.1]
  refine s_takeKnown (f := D.1 3) (hT.A f1) h1 arX_57 (by omega) hP8.2 (by rw [f1.1 57 (by omega)]; exact fun k hk => ⟨(hpn k hk).1, (hpn k hk).2.1⟩) (fun e ek _ I2 f2 h2 => ?_) (fun e I2 f2 hF => ?_)
  case refine_2 =>
    refine ⟨fun y => absurd rfl y, fun _ => hK 0 I2 ?_⟩
    rw [sBel, if_pos e]
    exact SO.no (f1.D.trans f2.D) e hF
  have f12 := f1.trans f2
  refine ⟨fun _ => ?_, fun y => absurd y (nI_ne_m1 (by omega))⟩
  rw [f12.1 54 (by omega), hF8.1]
  refine s_takeKnown (f := D.1 1) (hT.A f12) h2 arX_55 (by omega) hF8.2 (by rw [f12.1 55 (by omega)]; exact fun k hk => ⟨(hfn k hk).1, (hfn k hk).2.1⟩) (fun e2 ek2 _ I3 f3 h3 => ?_) (fun e2 I3 f3 hF => ?_)
  case refine_2 =>
    refine ⟨fun y => absurd rfl y, fun _ => hK 0 I3 ?_⟩
    rw [sBel, if_neg (by simp [e]), if_pos e2]
    exact SO.no (f12.D.trans f3.D) e2 hF
  have f13 := f12.trans f3
  have hD3 := hD.A f13
  refine ⟨fun _ => ?_, fun y => absurd y (nI_ne_m1 (by omega))⟩
  refine s_beliefOf obX_64 hD3.2.1 (by omega) (by omega) ?_
  have b3 := bel3 D.2.2 (kno g (D.1 3) (D.1 0 1) (adv g q)).2.2 (kno g (D.1 1) (D.1 0 0) (adv g (adv g q))).2.2
  rw [h2.1.1]
  refine ⟨fun y => ?_, fun y => ?_⟩
  · simp (disch := omega) only [Int32.le_iff_toInt_le, Int32.lt_iff_toInt_lt, ← Int32.toInt_inj, nI_toInt, t_bq, t_pc8, t_bel, t_mI, t_ite, t_dec, sm_t, Int32.reduceToInt, t_m1, t_0, t_1, t_2, t_3, t_8, Int.natCast_eq_zero, Int.ofNat_le, Int.ofNat_lt, Int.ofNat_inj, not_true_eq_false, not_false_eq_true, forall_const] at y
    refine s_believe obX_64 hD3.2.1 (by omega) (by omega) (by omega) (fun I4 h4 f4 => hK 1 I4 ?_)
    rw [sBel, if_neg (by simp [e]), if_neg (by simp [e2]), if_neg (by omega)]
    generalize (kno g (D.1 3) (D.1 0 1) (adv g q)).2.2 = p at *
    generalize (kno g (D.1 1) (D.1 0 0) (adv g (adv g q))).2.2 = f at *
    have e5 : blv D.2.2 p f b 5 = D.2.2 5 := blv_m _ _ _ _ _ (by omega) (by omega)
    have e4 : blv D.2.2 p f b 4 = D.2.2 4 := blv_m _ _ _ _ _ (by omega) (by omega)
    have hac : acy (blv D.2.2 p f b) := acy_cong (blv_m D.2.2 p f b 0 (by omega) (by omega)).symm hD3.2.2.1.2.2
    have hyr : blv D.2.2 p f b 4 0 ≤ 999 := by rw [e4]; exact hD3.2.2.1.2.1
    have k69 : ∀ k, k < 30 → I4 69 k = I3 69 k := fun k hk => by
      have n := (h4.2.2.2.2.2.2.2.2 k hk).1
      rw [e5] at n
      exact n.trans (hD3.2.1.2.2.2.2.2.2.2.2 k hk).1.symm
    refine ⟨f13.D.trans ⟨fun a z1 z2 => f4 a (by omega), fun k hk => by rw [f4 1 (by omega)], k69⟩, fun _ => ⟨rfl, h3.row (f4 1 (by omega)), ⟨z, ⟨hD3.1.kept (fun a z1 z2 => f4 a (by omega)), h4, ⟨blv_WFS hF8.2 hP8.2 hD3.2.2.1.1 ek ek2, hyr, hac⟩, by rw [f4 59 (by omega)]; exact hD3.2.2.2.1, by rw [f4 62 (by omega)]; exact hD3.2.2.2.2⟩, by simp only; omega⟩, ?_, ?_⟩, fun y => absurd rfl y⟩
    · rw [f4 1 (by omega), f13.2 2 (by omega)]
    · rw [f4 1 (by omega), f13.2 3 (by omega)]
  · simp (disch := omega) only [Int32.le_iff_toInt_le, Int32.lt_iff_toInt_lt, ← Int32.toInt_inj, nI_toInt, t_bq, t_pc8, t_bel, t_mI, t_ite, t_dec, sm_t, Int32.reduceToInt, t_m1, t_0, t_1, t_2, t_3, t_8, Int.natCast_eq_zero, Int.ofNat_le, Int.ofNat_lt, Int.ofNat_inj, not_true_eq_false, not_false_eq_true, forall_const] at y
    refine s_fail (k := 3) (fun I4 fB hF => ⟨Or.inl rfl, hK 0 I4 ?_⟩)
    rw [sBel, if_neg (by simp [e]), if_neg (by simp [e2]), if_pos (by omega)]
    exact SO.no (f13.D.trans fB.D) (by simp) hF
theorem c_tau {K : KI} (hT : EnT I g) (hk : TokAt I g q) (hD : EnDr I D z) (hz : z ≤ q) (hK : ∀ b2 I2, SO g I (sTau g D q) b2 I2 → K b2 I2 J) : CalI wX (d + 4) mX8_readTaught [.ref 53] I J K := by
  have hq := hk.1.2
  have a1 := adv2 (g := g) hq
  have a2 := adv2 (g := g) a1.1
  have a3 := adv2 (g := g) a2.1
  have a4 := adv2 (g := g) a3.1
  obtain ⟨hF8, hP8, -, -, -, hfn, hpn, -⟩ := hD.1
  refine Cal.of (by decide) (Nat.le_of_ble_eq_true rfl) (bX8_readTaught_0 (s_adv hT hk (fun I1 f1 h1 => ?_)))
  rw [f1.1 54 (by omega), hP8.1]
  refine s_takeKnown (f := D.1 3) (hT.A f1) h1 arX_57 (by omega) hP8.2 (by rw [f1.1 57 (by omega)]; exact fun k hk => ⟨(hpn k hk).1, (hpn k hk).2.1⟩) (fun e ek _ I2 f2 h2 => ?_) (fun e I2 f2 hF => ?_)
  case refine_2 =>
    refine ⟨fun y => absurd rfl y, fun _ => hK 0 I2 ?_⟩
    rw [sTau, if_pos e]
    exact SO.no (f1.D.trans f2.D) e hF
  have f12 := f1.trans f2
  have hD2 := hD.A f12
  refine ⟨fun _ => s_masterOf obX_64 hD2.2.1 (by omega) ?_, fun y => absurd y (nI_ne_m1 (by omega))⟩
  rw [mI_m1 (hD2.2.1.1 _ (by omega)).2, h1.1.1]
  refine ⟨fun e0 => ?_, fun e0 => ?_⟩
  case refine_2 =>
    refine s_fail (k := 3) (fun I4 fB hF => ⟨Or.inl rfl, hK 0 I4 ?_⟩)
    rw [sTau, if_neg (by simp [e]), if_pos e0]
    exact SO.no (f12.D.trans fB.D) (by simp) hF
  refine s_expectWord (i := 3) (hT.A f12) h2 (by omega) (fun ew I3 f3 h3 => ⟨fun _ => ?_, fun y => absurd y (by decide)⟩) (fun ew I3 fB hF => ⟨fun y => absurd rfl y, fun _ => hK 0 I3 ?_⟩)
  case refine_2 =>
    rw [sTau, if_neg (by simp [e]), if_neg (by simp [e0]), if_pos ew]
    exact SO.no (f12.D.trans fB.D) (by simp) hF
  have f13 := f12.trans f3
  rw [f13.1 54 (by omega), hP8.1]
  refine s_takeKnown (f := D.1 3) (hT.A f13) h3 arX_57 (by omega) hP8.2 (by rw [f13.1 57 (by omega)]; exact fun k hk => ⟨(hpn k hk).1, (hpn k hk).2.1⟩) (fun e2 ek2 _ I4 f4 h4 => ?_) (fun e2 I4 f4 hF => ?_)
  case refine_2 =>
    refine ⟨fun y => absurd rfl y, fun _ => hK 0 I4 ?_⟩
    rw [sTau, if_neg (by simp [e]), if_neg (by simp [e0]), if_neg (by simp [ew]), if_pos e2]
    exact SO.no (f13.D.trans f4.D) e2 hF
  have f14 := f13.trans f4
  have hD4 := hD.A f14
  have pre : ∀ r : SR, sTau g D q = (if (kno g (D.1 3) (D.1 0 1) (adv g (adv g (adv g q)))).2.2 = (kno g (D.1 3) (D.1 0 1) (adv g q)).2.2 ∨ anc D.2.2 (kno g (D.1 3) (D.1 0 1) (adv g q)).2.2 8 (D.2.2 0 (kno g (D.1 3) (D.1 0 1) (adv g (adv g (adv g q)))).2.2) = true then (3, adv g (adv g (adv g q)), D)
      else (0, adv g (adv g (adv g (adv g q))), D.1, D.2.1, up D.2.2 0 (kno g (D.1 3) (D.1 0 1) (adv g q)).2.2 ((kno g (D.1 3) (D.1 0 1) (adv g (adv g (adv g q)))).2.2 + 1))) := fun _ => by rw [sTau, if_neg (by simp [e]), if_neg (by simp [e0]), if_neg (by simp [ew]), if_neg (by simp [e2])]
  rw [pre (0, 0, D)] at hK
  generalize (kno g (D.1 3) (D.1 0 1) (adv g q)).2.2 = p at *
  generalize (kno g (D.1 3) (D.1 0 1) (adv g (adv g (adv g q)))).2.2 = m at *
  rw [h3.1.1]
  refine ⟨fun _ => ⟨fun y => ?_, fun y => s_isAbove obX_64 hD4.2.1 (by omega) (by omega) ?_⟩, fun y => absurd y (nI_ne_m1 (by omega))⟩
  · have emp : m = p := (nI_eq (by omega) (by omega)).mp y
    refine s_fail (k := 3) (fun I5 fB hF => ⟨Or.inl rfl, hK 0 I5 ?_⟩)
    rw [if_pos (Or.inl emp)]
    exact SO.no (f14.D.trans fB.D) (by simp) hF
  · have emp : ¬ m = p := fun w => y (by rw [w])
    by_cases ea : anc D.2.2 p 8 (D.2.2 0 m) = true
    · rw [if_pos ea]
      refine ⟨fun w => absurd w (by decide), fun _ => s_fail (k := 3) (fun I5 fB hF => ⟨Or.inl rfl, hK 0 I5 ?_⟩)⟩
      rw [if_pos (Or.inr ea)]
      exact SO.no (f14.D.trans fB.D) (by simp) hF
    · rw [if_neg ea]
      refine ⟨fun _ => ?_, fun w => absurd rfl w⟩
      rw [← mI_s m]
      refine s_setMaster obX_64 hD4.2.1 (by omega) (by omega) (fun I5 h5 f5 => hK 1 I5 ?_)
      rw [if_neg (by simp [emp, ea])]
      have k69 : ∀ k, k < 30 → I5 69 k = I4 69 k := fun k hk => by
        have n := (h5.2.2.2.2.2.2.2.2 k hk).1
        rw [show up D.2.2 0 p (m + 1) 5 k = D.2.2 5 k by simp [up]] at n
        exact n.trans (hD4.2.1.2.2.2.2.2.2.2.2 k hk).1.symm
      rw [Bool.not_eq_true] at ea
      refine ⟨f14.D.trans ⟨fun a z1 z2 => f5 a (by omega), fun k hk => by rw [f5 1 (by omega)], k69⟩, fun _ => ⟨rfl, h4.row (f5 1 (by omega)), ⟨z, ⟨hD4.1.kept (fun a z1 z2 => f5 a (by omega)), h5, ⟨up0_WFS hD4.2.2.1.1 ek (show m + 1 ≤ D.1 0 1 by omega), ?_, acy_up hD4.2.2.1.2.2 (by omega) (by omega) (Or.inr ⟨by omega, by rw [show m + 1 - 1 = m by omega]; exact ea⟩)⟩, by rw [f5 59 (by omega)]; exact hD4.2.2.2.1, by rw [f5 62 (by omega)]; exact hD4.2.2.2.2⟩, by simp only; omega⟩, ?_, ?_⟩, fun y => absurd rfl y⟩
      · have := hD4.2.2.1.2.1
        simpa [up] using this
      · rw [f5 1 (by omega), f14.2 2 (by omega)]
      · rw [f5 1 (by omega), f14.2 3 (by omega)]
theorem c_law {w sco : Nat} {K : KI} (hw : w < 3) (hsco : sco = if w = 2 then 2 else 1) (hT : EnT I g) (hk : TokAt I g q) (hD : EnDr I D z) (hz : z ≤ q) (hK : ∀ b2 I2, SO g I (sLaw g w sco D q) b2 I2 → K b2 I2 J) : CalI wX (d + 33) mX8_readLaw [.ref 53, .int (nI w), .int (nI sco)] I J K := by
  have hq := hk.1.2
  have h16 := hT.1.2
  have a1 := adv2 (g := g) hq
  have hC := hD.1
  have hF := hC.2.2.2.2.2.2.2.1 w hw
  refine Cal.of (by decide) (Nat.le_of_ble_eq_true rfl) (bX8_readLaw_0 (s_isTold (cs := D.2.1 w) obX_59 hw hF ⟨fun y => ?_, fun y => ?_⟩))
  case refine_2 =>
    have hne : D.2.1 w ≠ [] := fun e => by rw [if_pos e] at y; exact absurd rfl y
    rw [hk.1.1]
    refine s_fail (k := 5) (fun I4 fB hFl => ⟨Or.inl rfl, hK 0 I4 ?_⟩)
    rw [sLaw, if_pos hne]
    exact SO.no fB.D (by simp) hFl
  have hnil : D.2.1 w = [] := by
    by_cases e : D.2.1 w = []
    · exact e
    · rw [if_neg e] at y; exact absurd y (by decide)
  refine s_adv hT hk (fun I1 f1 h1 => s_begin obX_59 hw ?_)
  have hD1 := hD.A f1
  rw [u2_o (by omega), hD1.2.2.2.1.1]
  generalize hI3 : u2 (u2 I1 70 2 (nI sco)) (59 + 2) w (nI z) = I3
  have r3 : ∀ a, a ≠ 70 → a ≠ 61 → I3 a = I1 a := fun a z1 z2 => by rw [← hI3, u2_row z2, u2_row z1]
  have hT3 : EnT I3 g := by unfold EnT; rw [r3 1 (by omega) (by omega), r3 2 (by omega) (by omega)]; exact hT.A f1
  have h3 : TokAt I3 g (adv g q) := h1.row (r3 1 (by omega) (by omega))
  have s3 : I3 70 2 = nI sco := by rw [← hI3, u2_o (by omega), u2_at]
  have z3 : I3 59 4 = nI z := by rw [r3 59 (by omega) (by omega)]; exact hD1.2.2.2.1.1
  have fD3 : FrD I I3 := f1.D.trans ⟨fun a y1 y2 => r3 a (by omega) (by omega), fun k hk => by rw [r3 1 (by omega) (by omega)], fun k hk => by rw [r3 69 (by omega) (by omega)]⟩
  have hs4 : sco = 1 ∨ sco = 2 ∨ sco = 4 := by rw [hsco]; split <;> simp
  refine c_tests (g := g) GO_s hs4 6 (by omega) d I3 J _ z _ hT3 s3 h3 z3 (by omega) (fun b I4 hP => s_finish obX_59 hw ?_)
  refine ⟨hP.b01, hK b _ ?_⟩
  have r5 : ∀ a, a ≠ 62 → u2 I4 (59 + 3) w (I4 59 4) a = I4 a := fun a ha => u2_row ha
  have fD5 : FrD I (u2 I4 (59 + 3) w (I4 59 4)) := (fD3.trans hP.1.D).trans ⟨fun a y1 y2 => r5 a (by omega), fun k hk => by rw [r5 1 (by omega)], fun k hk => by rw [r5 69 (by omega)]⟩
  by_cases e : (pTest g sco 6 (adv g q)).1 = 0
  case neg =>
    have er : sLaw g w sco D q = ((pTest g sco 6 (adv g q)).1, (pTest g sco 6 (adv g q)).2.1, D) := by rw [sLaw, if_neg (by simp [hnil]), if_pos e]
    rw [er]
    obtain ⟨hb, hFl, -⟩ := hP.2.2 e
    rw [hb]
    refine SO.no fD5 e ?_
    unfold Flt; rw [r5 1 (by omega)]; exact hFl
  have er : sLaw g w sco D q = (0, (pTest g sco 6 (adv g q)).2.1, D.1, (fun k => if k = w then (pTest g sco 6 (adv g q)).2.2 else D.2.1 k), D.2.2) := by rw [sLaw, if_neg (by simp [hnil]), if_neg (by simp [e])]
  rw [er]
  obtain ⟨hb, t4, s4, k4, c4, e42, e43⟩ := hP.2.1 e
  have hG := Gd_test (g := g) (sco := sco) (m := 6) (adv g q) a1.1 e
  have hty := test_ty e
  generalize hcs : (pTest g sco 6 (adv g q)).2.2 = cs at *
  generalize (pTest g sco 6 (adv g q)).2.1 = q' at *
  refine ⟨fD5, fun _ => ⟨hb, t4.row (r5 1 (by omega)), ⟨z + cs.length, ⟨?_, ?_, hD.2.2.1, ⟨by rw [r5 59 (by omega)]; exact s4, by omega⟩, fun k hk => ?_⟩, by simp only; omega⟩, ?_, ?_⟩, fun y => absurd rfl y⟩
  · obtain ⟨c1, c2, c3, c4', c5, c6, c7, c8, c9⟩ := hC
    have rr : ∀ a, 54 ≤ a → a ≤ 58 → u2 I4 (59 + 3) w (I4 59 4) a = I a := fun a y1 y2 => by rw [r5 a (by omega), hP.1.1 a (by omega) (by omega) (by omega), r3 a (by omega) (by omega), f1.1 a (by omega)]
    refine ⟨by rw [rr 54 (by omega) (by omega)]; exact c1, by rw [rr 54 (by omega) (by omega)]; exact c2, by rw [rr 54 (by omega) (by omega)]; exact c3, by rw [rr 54 (by omega) (by omega)]; exact c4', by rw [rr 54 (by omega) (by omega)]; exact c5, by rw [rr (54 + 1) (by omega) (by omega), rr (54 + 2) (by omega) (by omega)]; exact c6, by rw [rr (54 + 3) (by omega) (by omega), rr (54 + 4) (by omega) (by omega)]; exact c7, fun k hk => ?_, fun k hk => ?_⟩
    · by_cases ek : k = w
      · subst ek
        simp only [if_true]
        refine ⟨z, z + cs.length, ?_, ?_, rfl, by omega, fun i hi => ?_⟩
        · rw [r5 (54 + 5 + 2) (by omega), hP.1.1 _ (by omega) (by omega) (by omega), ← hI3, u2_at]
        · rw [show (54 + 5 + 3 : Nat) = 59 + 3 from rfl, u2_at]; exact s4
        · rw [r5 (54 + 5 + 1) (by omega)]; exact c4 i hi
      · simp only [ek, if_false]
        obtain ⟨fr, t, y1, y2, y3, y4, y5⟩ := c8 k hk
        obtain ⟨t', y6, y7⟩ := hD.2.2.2.2 k hk
        have htt : t = t' := (nI_eq (by omega) (by have := hD.2.2.2.1.2; omega)).mp (y2.symm.trans y6)
        refine ⟨fr, t, ?_, ?_, y3, y4, fun i hi => ?_⟩
        · rw [r5 (54 + 5 + 2) (by omega), hP.1.1 _ (by omega) (by omega) (by omega), ← hI3, show (54 + 5 + 2 : Nat) = 59 + 2 from rfl, u2_k ek, u2_row (by omega), f1.1 _ (by omega)]; exact y1
        · rw [show (54 + 5 + 3 : Nat) = 59 + 3 from rfl, u2_k ek, hP.1.1 _ (by omega) (by omega) (by omega), r3 _ (by omega) (by omega), f1.1 _ (by omega)]; exact y2
        · rw [r5 (54 + 5 + 1) (by omega), show (54 + 5 + 1 : Nat) = 59 + 1 from rfl, k4 _ (by omega), r3 _ (by omega) (by omega), f1.1 _ (by omega)]; exact y5 i hi
    · by_cases ek : k = w
      · subst ek
        simp only [if_true]
        exact ⟨Or.inr hty.1, fun c hc => okc_lok (by rw [← hsco]; exact hty.2 c hc) hk⟩
      · simp only [ek, if_false]
        exact c9 k hk
  · exact hD.2.1.kept (fun a y1 y2 => by rw [r5 a (by omega), hP.1.1 a (by omega) (by omega) (by omega), r3 a (by omega) (by omega), f1.1 a (by omega)])
  · by_cases ek : k = w
    · subst ek
      exact ⟨z + cs.length, by rw [show (62 : Nat) = 59 + 3 from rfl, u2_at]; exact s4, by omega⟩
    · obtain ⟨t', y6, y7⟩ := hD.2.2.2.2 k hk
      exact ⟨t', by rw [show (62 : Nat) = 59 + 3 from rfl, u2_k ek, hP.1.1 _ (by omega) (by omega) (by omega), r3 _ (by omega) (by omega), f1.1 _ (by omega)]; exact y6, by omega⟩
  · rw [r5 1 (by omega), e42, r3 1 (by omega) (by omega), f1.2 2 (by omega)]
  · rw [r5 1 (by omega), e43, r3 1 (by omega) (by omega), f1.2 3 (by omega)]
end SP

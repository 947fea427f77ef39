/-! the class's SchoolReader: statements -/
section SP
variable {d : Nat} {I : Ii} {J : Jj} {g : Sx} {q z : Nat} {D : Dr}
theorem WFS_sc {sc sc' s : Sx} (h : WFS sc s) (h0 : sc 0 0 ≤ sc' 0 0) (h1 : sc 0 1 ≤ sc' 0 1) : WFS sc' s := by
  have p0 : 2 ^ sc 0 0 ≤ 2 ^ sc' 0 0 := Nat.pow_le_pow_right (by omega) h0
  have p1 : 2 ^ sc 0 1 ≤ 2 ^ sc' 0 1 := Nat.pow_le_pow_right (by omega) h1
  refine ⟨fun k hk => ?_, by have := h.2.1; omega, by have := h.2.2.1; omega, h.2.2.2⟩
  have := h.1 k hk
  exact ⟨by omega, by omega, by omega, this.2.2.2.1, this.2.2.2.2.1, fun y => this.2.2.2.2.2 (by omega)⟩
theorem okS_sc {sc sc' s : Sx} (h : okS sc s) (h0 : sc 0 0 ≤ sc' 0 0) (h1 : sc 0 1 ≤ sc' 0 1) : okS sc' s := ⟨WFS_sc h.1 h0 h1, h.2⟩
theorem adv2 (h : q ≤ g 0 0) : adv g q ≤ g 0 0 ∧ q ≤ adv g q := ⟨(adv_le h).1, (adv_le h).2.1⟩
theorem up0_ne {sc : Sx} {i j v : Nat} (h : j ≠ i) : up sc 0 i v 0 j = sc 0 j := by simp [up, h]
theorem up0_at {sc : Sx} {i v : Nat} : up sc 0 i v 0 i = v := by simp [up]
theorem EnC_num {i v : Nat} {I2 : Ii} {sc : Sx} {L : Nat → List Nat} (hi : i = 2 ∨ i = 3 ∨ i = 4) (hv : v ≤ if i = 2 then 99 else if i = 3 then 9 else 100) (hC : EnC I2 54 sc L) : EnC (u2 I2 54 i (nI v)) 54 (up sc 0 i v) L := by
  obtain ⟨c1, c2, c3, c4, c5, c6, c7, c8, c9⟩ := hC
  refine ⟨?_, ?_, ?_, ?_, ?_, ?_, ?_, ?_, c9⟩
  · rw [u2_k (by omega), up0_ne (by omega)]; exact c1
  · rw [u2_k (by omega), up0_ne (by omega)]; exact c2
  · by_cases e2 : i = 2
    · subst e2; rw [u2_at, up0_at]; exact ⟨rfl, by simpa using hv⟩
    · rw [u2_k (by omega), up0_ne (by omega)]; exact c3
  · by_cases e2 : i = 3
    · subst e2; rw [u2_at, up0_at]; exact ⟨rfl, by simpa using hv⟩
    · rw [u2_k (by omega), up0_ne (by omega)]; exact c4
  · by_cases e2 : i = 4
    · subst e2; rw [u2_at, up0_at]; exact ⟨rfl, by simpa using hv⟩
    · rw [u2_k (by omega), up0_ne (by omega)]; exact c5
  · rw [up0_ne (by omega), u2_row (by omega), u2_row (by omega)]; simpa [up] using c6
  · rw [up0_ne (by omega), u2_row (by omega), u2_row (by omega)]; simpa [up] using c7
  · exact fun k hk => (c8 k hk).kept (u2_row (by omega)) (u2_row (by omega)) (u2_row (by omega))
/-- numbers -/
theorem c_num {i a b : Nat} {M : Mt} {K : KI} (hi : i = 2 ∨ i = 3 ∨ i = 4) (hb : b = if i = 2 then 99 else if i = 3 then 9 else 100) (ha : a = 0)
    (hM : (CalV wX (d + 1) mX10_advance [.ref (1)] I J (fun I1 J2 => (CalI wX (d + 1) mX10_takeNumber [.ref (1), .int (nI a), .int (nI b)] I1 J2 (fun x5 I3 J4 => (∀ I6 : Ii, I6 = u2 I3 54 i x5 → ((((I6 54 i) = ((-1))) → (K (0) I6 J4)) ∧ ((¬ (I6 54 i) = ((-1))) → (K (1) I6 J4)))))))) → CalI wX (d + 2) M [.ref 53] I J K)
    (hT : EnT I g) (hk : TokAt I g q) (hD : EnDr I D z) (hz : z ≤ q) (hK : ∀ b2 I2, SO g I (sNum g i a b D q) b2 I2 → K b2 I2 J) : CalI wX (d + 2) M [.ref 53] I J K := by
  subst ha
  have hq := hk.1.2
  have a1 := adv2 (g := g) hq
  have a2 := adv2 (g := g) a1.1
  have hb2 : b < 20000 := by rw [hb]; split <;> (try split) <;> omega
  refine hM (s_adv hT hk (fun I1 f1 h1 => s_takeNumber (hT.A f1) h1 (by omega) hb2 (fun e I2 f2 h2 => ?_) (fun e I2 f2 hF => ?_)))
  · rintro _ rfl
    rw [u2_at]
    have hv : 0 ≤ tvl g (adv g q) ∧ tvl g (adv g q) ≤ b := by
      unfold nmf at e
      split at e
      · split at e
        · split at e
          · assumption
          · exact absurd e (by simp)
        · exact absurd e (by simp)
      · exact absurd e (by simp)
    have hvl := tvl_lt (g := g) (adv g q)
    refine ⟨fun y => absurd y (nI_ne_m1 (by omega)), fun _ => hK 1 _ ?_⟩
    have er : sNum g i 0 b D q = (0, adv g (adv g q), up D.1 0 i (tvl g (adv g q)), D.2.1, D.2.2) := by rw [sNum, if_neg (by simp [e])]
    rw [er]
    have hD2 := (hD.A f1).A f2
    refine ⟨(f1.D.trans f2.D).trans ⟨fun a h3 h4 => u2_row (by omega), fun k hk => u2_o (by omega), fun k hk => u2_o (by omega)⟩, fun _ => ⟨rfl, h2.row (u2_row (by omega)), ⟨z, ?_, by simp only; omega⟩, ?_, ?_⟩, fun y => absurd rfl y⟩
    · obtain ⟨kC, k2, k3, k4, k5⟩ := hD2
      refine ⟨EnC_num hi (by rw [← hb]; exact hv.2) kC, k2.kept (fun a h3 h4 => u2_row (by omega)), okS_sc k3 (Nat.le_of_eq (up0_ne (by omega)).symm) (Nat.le_of_eq (up0_ne (by omega)).symm), by rw [u2_row (by omega)]; exact k4, by rw [u2_row (by omega)]; exact k5⟩
    · rw [u2_o (by omega), f2.2 2 (by omega), f1.2 2 (by omega)]
    · rw [u2_o (by omega), f2.2 3 (by omega), f1.2 3 (by omega)]
  · rintro _ rfl
    rw [u2_at]
    have er : sNum g i 0 b D q = ((nmf g 0 b (adv g q)).1, (nmf g 0 b (adv g q)).2, D) := by rw [sNum, if_pos e]
    refine ⟨fun _ => hK 0 _ ?_, fun y => absurd rfl y⟩
    rw [er]
    refine SO.no ((f1.D.trans f2.D).trans ⟨fun a h3 h4 => u2_row (by omega), fun k hk => u2_o (by omega), fun k hk => u2_o (by omega)⟩) e ?_
    unfold Flt; rw [u2_row (by omega)]; exact hF
/-- facts and people -/
theorem scN_0 {sc : Sx} {i v w j : Nat} (hj : j ≠ i) : scN sc i v w 0 j = sc 0 j := by simp [scN, up, hj]
theorem scN_i {sc : Sx} {i v w : Nat} : scN sc i v w 0 i = sc 0 i + 1 := by simp [scN, up]
theorem scN_ge {sc : Sx} {i j : Nat} (v w : Nat) : sc 0 j ≤ scN sc i v w 0 j := by
  by_cases e : j = i
  · subst e; rw [scN_i]; omega
  · rw [scN_0 e]; exact Nat.le_refl _
theorem EnC_new {i v w : Nat} {I2 : Ii} {sc : Sx} {L : Nat → List Nat} (hi : i = 0 ∨ i = 1) (hC : EnC I2 54 sc L) (hn : sc 0 i < 8) (hv : v < 2 ^ 30) (hw : w ≤ if i = 0 then 9 else 99) : EnC (u2 (u2 (u2 I2 (55 + 2 * i) (sc 0 i) (nI v)) (56 + 2 * i) (sc 0 i) (nI w)) 54 i (nI (sc 0 i + 1))) 54 (scN sc i v w) L := by
  obtain ⟨c1, c2, c3, c4, c5, c6, c7, c8, c9⟩ := hC
  rcases hi with rfl | rfl
  · refine ⟨⟨by rw [u2_at, scN_i], by rw [scN_i]; omega⟩, ?_, ?_, ?_, ?_, fun k hk => ?_, fun k hk => ?_, fun k hk => ?_, c9⟩
    · rw [u2_k (by omega), u2_o (by omega), u2_o (by omega), scN_0 (by omega)]; exact c2
    · rw [u2_k (by omega), u2_o (by omega), u2_o (by omega), scN_0 (by omega)]; exact c3
    · rw [u2_k (by omega), u2_o (by omega), u2_o (by omega), scN_0 (by omega)]; exact c4
    · rw [u2_k (by omega), u2_o (by omega), u2_o (by omega), scN_0 (by omega)]; exact c5
    · rw [scN_i] at hk
      simp only [if_true] at hw
      by_cases e : k = sc 0 0
      · subst e
        simp [u2, scN, up]
        omega
      · have := c6 k (by omega)
        simpa [u2, scN, up, e] using this
    · rw [scN_0 (by omega)] at hk
      rw [u2_o (by omega), u2_o (by omega), u2_o (by omega), u2_o (by omega), u2_o (by omega), u2_o (by omega)]
      have := c7 k hk
      simpa [scN, up] using this
    · exact (c8 k hk).kept (by rw [u2_row (by omega), u2_row (by omega), u2_row (by omega)]) (by rw [u2_row (by omega), u2_row (by omega), u2_row (by omega)]) (by rw [u2_row (by omega), u2_row (by omega), u2_row (by omega)])
  · refine ⟨?_, ⟨by rw [u2_at, scN_i], by rw [scN_i]; omega⟩, ?_, ?_, ?_, fun k hk => ?_, fun k hk => ?_, fun k hk => ?_, c9⟩
    · rw [u2_k (by omega), u2_o (by omega), u2_o (by omega), scN_0 (by omega)]; exact c1
    · rw [u2_k (by omega), u2_o (by omega), u2_o (by omega), scN_0 (by omega)]; exact c3
    · rw [u2_k (by omega), u2_o (by omega), u2_o (by omega), scN_0 (by omega)]; exact c4
    · rw [u2_k (by omega), u2_o (by omega), u2_o (by omega), scN_0 (by omega)]; exact c5
    · rw [scN_0 (by omega)] at hk
      rw [u2_o (by omega), u2_o (by omega), u2_o (by omega), u2_o (by omega), u2_o (by omega), u2_o (by omega)]
      have := c6 k hk
      simpa [scN, up] using this
    · rw [scN_i] at hk
      simp only [show ¬ (1 : Nat) = 0 by omega, if_false] at hw
      by_cases e : k = sc 0 1
      · subst e
        simp [u2, scN, up]
        omega
      · have := c7 k (by omega)
        simpa [u2, scN, up, e] using this
    · exact (c8 k hk).kept (by rw [u2_row (by omega), u2_row (by omega), u2_row (by omega)]) (by rw [u2_row (by omega), u2_row (by omega), u2_row (by omega)]) (by rw [u2_row (by omega), u2_row (by omega), u2_row (by omega)])
theorem c_new {i wo a b : Nat} {M : Mt} {K : KI} (hi : i = 0 ∨ i = 1) (hwo : wo < 34) (hab : a ≤ 1 ∧ b = if i = 0 then 9 else 99)
    (hM : ((((I 54 i) < 8) → (CalV wX (d + 3) mX10_advance [.ref (1)] I J (fun I2 J3 => (CalI wX (d + 3) mX8_takeNewName [.ref (53)] I2 J3 (fun x6 I4 J5 => (((x6 = ((-1))) → (K (0) I4 J5)) ∧ ((¬ x6 = ((-1))) → (CalI wX (d + 3) mX10_expectWord [.ref (1), .ref (10000 + wo)] I4 J5 (fun x10 I8 J9 => (((¬ x10 = 0) → (CalI wX (d + 3) mX10_takeNumber [.ref (1), .int (nI a), .int (nI b)] I8 J9 (fun x14 I12 J13 => (vp_in (I 54 i) 8 ∧ (∀ I17 : Ii, I17 = u2 (u2 I12 (55 + 2 * i) (I 54 i).toNatClampNeg x6) (56 + 2 * i) (I 54 i).toNatClampNeg x14 → (∀ I18 : Ii, I18 = u2 I17 54 i ((I17 54 i) + 1) → (((x14 = ((-1))) → (K (0) I18 J13)) ∧ ((¬ x14 = ((-1))) → (K (1) I18 J13))))))))) ∧ ((x10 = 0) → (K (0) I8 J9)))))))))))) ∧ ((¬ (I 54 i) < 8) → (CalI wX (d + 3) mX10_fail [.ref (1), .int (5), .int (I 1 4)] I J (fun x26 I24 J25 => (((x26) = 0 ∨ (x26) = 1) ∧ K (x26) I24 J25))))) → CalI wX (d + 4) M [.ref 53] I J K)
    (hT : EnT I g) (hk : TokAt I g q) (hD : EnDr I D z) (hz : z ≤ q) (hK : ∀ b2 I2, SO g I (sNew g i wo a b D q) b2 I2 → K b2 I2 J) : CalI wX (d + 4) M [.ref 53] I J K := by
  have hq := hk.1.2
  have a1 := adv2 (g := g) hq
  have a2 := adv2 (g := g) a1.1
  have a3 := adv2 (g := g) a2.1
  have a4 := adv2 (g := g) a3.1
  have hni : I 54 i = nI (D.1 0 i) ∧ D.1 0 i ≤ 8 := by
    rcases hi with rfl | rfl
    · exact hD.1.1
    · exact hD.1.2.1
  refine hM ?_
  rw [hni.1, hk.1.1]
  refine ⟨fun y => ?_, fun y => ?_⟩
  case refine_2 =>
    have e8 : 8 ≤ D.1 0 i := by
      rcases Nat.lt_or_ge (D.1 0 i) 8 with w | w
      · exact absurd (nI_lt (b := 8) w (by decide)) y
      · exact w
    refine s_fail (k := 5) (fun I2 fB hF => ⟨Or.inl rfl, hK 0 I2 ?_⟩)
    rw [sNew, if_pos e8]
    exact SO.no fB.D (by simp) hF
  have e8 : ¬ 8 ≤ D.1 0 i := fun w => by
    simp (disch := omega) only [Int32.le_iff_toInt_le, Int32.lt_iff_toInt_lt, ← Int32.toInt_inj, nI_toInt, t_bq, t_pc8, t_bel, t_mI, t_ite, t_dec, sm_t, Int32.reduceToInt, t_m1, t_0, t_1, t_2, t_3, t_8, Int.natCast_eq_zero, Int.ofNat_le, Int.ofNat_lt, Int.ofNat_inj, not_true_eq_false, not_false_eq_true, forall_const] at y
    omega
  refine s_adv hT hk (fun I1 f1 h1 => s_takeNewName (hT.A f1) h1 (hD.A f1) (fun e I2 f2 h2 => ?_) (fun e I2 f2 hF => ?_))
  case refine_2 =>
    refine ⟨fun _ => hK 0 I2 ?_, fun y => absurd rfl y⟩
    rw [sNew, if_neg e8, if_pos e]
    exact SO.no (f1.D.trans f2.D) e hF
  have hpl := tpk_lt (g := g) (adv g q)
  have f12 := f1.trans f2
  refine ⟨fun y => absurd y (nI_ne_m1 (by omega)), fun _ => s_expectWord (hT.A f12) h2 hwo (fun ew I3 f3 h3 => ⟨fun _ => ?_, fun y => absurd y (by decide)⟩) (fun ew I3 fB hF => ⟨fun y => absurd rfl y, fun _ => hK 0 I3 ?_⟩)⟩
  case refine_2 =>
    rw [sNew, if_neg e8, if_neg (by simp [e]), if_pos ew]
    exact SO.no (f12.D.trans fB.D) (by simp) hF
  have f13 := f12.trans f3
  have hb2 : b < 20000 := by rw [hab.2]; split <;> omega
  refine s_takeNumber (hT.A f13) h3 (by omega) hb2 (fun en I4 f4 h4 => ?_) (fun en I4 fB hF => ?_)
  · refine ⟨vp_in_nI (by omega) (by omega), ?_⟩
    rintro _ rfl _ rfl
    have f14 := f13.trans f4
    have hvl := tvl_lt (g := g) (adv g (adv g (adv g q)))
    have hv : tvl g (adv g (adv g (adv g q))) ≤ b := by
      unfold nmf at en
      split at en
      · split at en
        · split at en
          · next hh => exact hh.2
          · exact absurd en (by simp)
        · exact absurd en (by simp)
      · exact absurd en (by simp)
    refine ⟨fun y => absurd y (nI_ne_m1 (by omega)), fun _ => hK 1 _ ?_⟩
    rw [sNew, if_neg e8, if_neg (by simp [e]), if_neg (by simp [ew]), if_neg (by simp [en])]
    rw [nI_clamp (by omega)]
    have h40 : I4 54 i = nI (D.1 0 i) := by rw [f14.1 54 (by omega)]; exact hni.1
    rw [show u2 (u2 I4 (55 + 2 * i) (D.1 0 i) (nI (tpk g (adv g q)))) (56 + 2 * i) (D.1 0 i) (nI (tvl g (adv g (adv g (adv g q))))) 54 i = nI (D.1 0 i) from by rw [u2_o (by omega), u2_o (by omega)]; exact h40, nI_1]
    have row : ∀ a, a ≠ 54 → a ≠ 55 + 2 * i → a ≠ 56 + 2 * i → u2 (u2 (u2 I4 (55 + 2 * i) (D.1 0 i) (nI (tpk g (adv g q)))) (56 + 2 * i) (D.1 0 i) (nI (tvl g (adv g (adv g (adv g q)))))) 54 i (nI (D.1 0 i + 1)) a = I4 a := fun a z1 z2 z3 => by rw [u2_row z1, u2_row z3, u2_row z2]
    have hD4 := hD.A f14
    refine ⟨f14.D.trans ⟨fun a z1 z2 => row a (by omega) (by omega) (by omega), fun k hk => by rw [row 1 (by omega) (by omega) (by omega)], fun k hk => by rw [row 69 (by omega) (by omega) (by omega)]⟩, fun _ => ⟨rfl, h4.row (row 1 (by omega) (by omega) (by omega)), ⟨z, ⟨EnC_new hi hD4.1 (by omega) hpl (by rw [← hab.2]; exact hv), hD4.2.1.kept (fun a z1 z2 => row a (by omega) (by omega) (by omega)), okS_sc hD4.2.2.1 ?_ ?_, by rw [row 59 (by omega) (by omega) (by omega)]; exact hD4.2.2.2.1, by rw [row 62 (by omega) (by omega) (by omega)]; exact hD4.2.2.2.2⟩, by simp only; omega⟩, ?_, ?_⟩, fun y => absurd rfl y⟩
    · simp only; exact scN_ge _ _
    · simp only; exact scN_ge _ _
    · rw [row 1 (by omega) (by omega) (by omega), f14.2 2 (by omega)]
    · rw [row 1 (by omega) (by omega) (by omega), f14.2 3 (by omega)]
  · refine ⟨vp_in_nI (by omega) (by omega), ?_⟩
    rintro _ rfl _ rfl
    refine ⟨fun _ => hK 0 _ ?_, fun y => absurd rfl y⟩
    rw [sNew, if_neg e8, if_neg (by simp [e]), if_neg (by simp [ew]), if_pos en]
    refine SO.no ((f13.D.trans fB.D).trans ⟨fun a z1 z2 => by rw [u2_row (by omega), u2_row (by omega), u2_row (by omega)], fun k hk => by rw [u2_o (by omega), u2_o (by omega), u2_o (by omega)], fun k hk => by rw [u2_o (by omega), u2_o (by omega), u2_o (by omega)]⟩) en ?_
    unfold Flt; rw [u2_row (by omega), u2_row (by omega), u2_row (by omega)]; exact hF
end SP

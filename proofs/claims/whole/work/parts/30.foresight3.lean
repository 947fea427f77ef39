/-! Foresight: gifts, tries -/
theorem giS_b {sc : Sx} {L : Nat → List Nat} {s : Sx} {p n to k : Nat} {st : Nat × Nat × Nat} (h : sc 2 k ≤ 9) (hs : st.2.2 ≤ 10) : (giS sc L s p n to k st).2.2 ≤ 10 := by
  unfold giS
  split
  · exact hs
  · simp only; omega
theorem giF_b {sc : Sx} {L : Nat → List Nat} {s : Sx} {p n to : Nat} {st : Nat × Nat × Nat} (hs : st.2.2 ≤ 10) : ∀ k, (∀ j, j < k → sc 2 j ≤ 9) → (giF sc L s p n to st k).2.2 ≤ 10
  | 0, _ => hs
  | k + 1, h => giS_b (h k (by omega)) (giF_b hs k (fun j hj => h j (by omega)))
theorem giL_b {sc : Sx} {L : Nat → List Nat} {s : Sx} {p n : Nat} (h : ∀ j, j < sc 0 0 → sc 2 j ≤ 9) : ∀ t, (giL sc L s p n t).2.2 ≤ 10
  | 0 => by simp [giL]
  | t + 1 => giF_b (giL_b h t) _ h
section SP
variable {d : Nat} {I : Ii} {J : Jj} {sc s t : Sx} {L : Nat → List Nat}
/-- only the trial changes -/
def FrT (I I' : Ii) : Prop := FrF I I' ∧ I' 36 = I 36
theorem FrT.trans {I I1 I2 : Ii} (h1 : FrT I I1) (h2 : FrT I1 I2) : FrT I I2 := ⟨h1.1.trans h2.1, h2.2.trans h1.2⟩
theorem FrS.T {I I' : Ii} (h : FrS 37 I I') : FrT I I' := ⟨h.F, h 36 (by omega)⟩
theorem FrY.T {I I' : Ii} (h : FrY 37 I I') : FrT I I' := ⟨h.F, h 36 (by omega) (by omega) (by omega) (by omega) (by omega)⟩
theorem s_runToDoctorT {p m : Nat} {K : KI} (hC : EnC I 3 sc L) (ht : EnS I 37 t) (hw : WFS sc t) (hm : t 4 0 + m ≤ 999) (hp : p < 8) (h : ∀ I', FrT I I' → K (mI (fyr sc L (fun t => decide (bq (t 4 2) p = 1)) m t 0)) I' J) : CalI wX (d + 5) mX2_runToDoctor [.ref 36, .int (nI p), .int (nI m)] I J K := by
  refine Cal.of (by decide) (Nat.le_of_ble_eq_true rfl) (bX2_runToDoctor_0 ?_)
  have key : ∀ r k u I1, k + r = m → EnS I1 37 u → WFS sc u → u 4 0 + r ≤ 999 → FrT I I1 → (∀ I', FrT I I' → K (mI (fyr sc L (fun t => decide (bq (t 4 2) p = 1)) r u k)) I' J) → GoI wX (d + 4 + 1) mX2_runToDoctor 2 [(0, .ref 36), (1, .int (nI p)), (2, .int (nI m)), (3, .int (nI k))] [] I1 J K := by
    intro r
    induction r with
    | zero =>
      intro k u I1 hk h1 w1 y1 f1 hK
      obtain rfl : k = m := by omega
      refine bX2_runToDoctor_2 ?_
      rw [h1.2.2.2.2.2.2.1.1, nI_1]
      repeat' (first | (refine ⟨vp_in_nI (by omega) (by omega), ?_⟩) | (with_reducible refine And.intro ?_ ?_) | (with_reducible intro I9 e9; subst e9) | (with_reducible intro q9; try (simp (disch := omega) only [Int32.le_iff_toInt_le, Int32.lt_iff_toInt_lt, ← Int32.toInt_inj, nI_toInt, t_bq, t_pc8, t_bel, t_mI, t_ite, t_dec, sm_t, Int32.reduceToInt, t_m1, t_0, t_1, t_2, t_3, t_8, Int.natCast_eq_zero, Int.ofNat_le, Int.ofNat_lt, Int.ofNat_inj, not_true_eq_false, not_false_eq_true, forall_const] at q9); try (exfalso; omega)))
      refine s_hasBit h1.2.2.2.2.2.2.1.2 hp ?_
      have := bq01 (u 4 2) p
      repeat' (first | (refine ⟨vp_in_nI (by omega) (by omega), ?_⟩) | (with_reducible refine And.intro ?_ ?_) | (with_reducible intro I9 e9; subst e9) | (with_reducible intro q9; try (simp (disch := omega) only [Int32.le_iff_toInt_le, Int32.lt_iff_toInt_lt, ← Int32.toInt_inj, nI_toInt, t_bq, t_pc8, t_bel, t_mI, t_ite, t_dec, sm_t, Int32.reduceToInt, t_m1, t_0, t_1, t_2, t_3, t_8, Int.natCast_eq_zero, Int.ofNat_le, Int.ofNat_lt, Int.ofNat_inj, not_true_eq_false, not_false_eq_true, forall_const] at q9); try (exfalso; omega)))
      · have hK' := hK I1 f1
        simp only [fyr, show ¬ bq (u 4 2) p = 1 by omega, decide_false, Bool.false_eq_true, if_false] at hK'
        refine bX2_runToDoctor_2 ?_
        repeat' (first | (refine ⟨vp_in_nI (by omega) (by omega), ?_⟩) | (with_reducible refine And.intro ?_ ?_) | (with_reducible intro I9 e9; subst e9) | (with_reducible intro q9; try (simp (disch := omega) only [Int32.le_iff_toInt_le, Int32.lt_iff_toInt_lt, ← Int32.toInt_inj, nI_toInt, t_bq, t_pc8, t_bel, t_mI, t_ite, t_dec, sm_t, Int32.reduceToInt, t_m1, t_0, t_1, t_2, t_3, t_8, Int.natCast_eq_zero, Int.ofNat_le, Int.ofNat_lt, Int.ofNat_inj, not_true_eq_false, not_false_eq_true, forall_const] at q9); try (exfalso; omega)))
        exact hK'
      · have hK' := hK I1 f1
        simp only [fyr, show bq (u 4 2) p = 1 by omega, decide_true, if_true, mI_s] at hK'
        exact hK'
    | succ r ih =>
      intro k u I1 hk h1 w1 y1 f1 hK
      refine bX2_runToDoctor_2 ?_
      rw [h1.2.2.2.2.2.2.1.1, nI_1]
      repeat' (first | (refine ⟨vp_in_nI (by omega) (by omega), ?_⟩) | (with_reducible refine And.intro ?_ ?_) | (with_reducible intro I9 e9; subst e9) | (with_reducible intro q9; try (simp (disch := omega) only [Int32.le_iff_toInt_le, Int32.lt_iff_toInt_lt, ← Int32.toInt_inj, nI_toInt, t_bq, t_pc8, t_bel, t_mI, t_ite, t_dec, sm_t, Int32.reduceToInt, t_m1, t_0, t_1, t_2, t_3, t_8, Int.natCast_eq_zero, Int.ofNat_le, Int.ofNat_lt, Int.ofNat_inj, not_true_eq_false, not_false_eq_true, forall_const] at q9); try (exfalso; omega)))
      refine s_hasBit h1.2.2.2.2.2.2.1.2 hp ?_
      have := bq01 (u 4 2) p
      repeat' (first | (refine ⟨vp_in_nI (by omega) (by omega), ?_⟩) | (with_reducible refine And.intro ?_ ?_) | (with_reducible intro I9 e9; subst e9) | (with_reducible intro q9; try (simp (disch := omega) only [Int32.le_iff_toInt_le, Int32.lt_iff_toInt_lt, ← Int32.toInt_inj, nI_toInt, t_bq, t_pc8, t_bel, t_mI, t_ite, t_dec, sm_t, Int32.reduceToInt, t_m1, t_0, t_1, t_2, t_3, t_8, Int.natCast_eq_zero, Int.ofNat_le, Int.ofNat_lt, Int.ofNat_inj, not_true_eq_false, not_false_eq_true, forall_const] at q9); try (exfalso; omega)))
      · refine s_runYear (aw := 0) obX_37 (hC.F f1.1) h1 (by omega) (by omega) (w1.m hC.2.1.2) (fun I2 h2 g2 => ?_)
        refine ih (k + 1) _ I2 (by omega) h2 (yr_WFS hC.1.2 hC.2.1.2 w1) (by rw [yr_m.2]; omega) (f1.trans g2.T) (fun I' f' => ?_)
        have hK' := hK I' f'
        simp only [fyr, show ¬ bq (u 4 2) p = 1 by omega, decide_false, Bool.false_eq_true, if_false] at hK'
        exact hK'
      · have hK' := hK I1 f1
        simp only [fyr, show bq (u 4 2) p = 1 by omega, decide_true, if_true, mI_s] at hK'
        exact hK'
  exact key m 0 t I (by omega) ht hw hm ⟨FrF.refl I, rfl⟩ h
theorem fyr_z {q : Sx → Bool} {m : Nat} {u : Sx} (h : m ≤ 999) : mI (fyr sc L q m u 0) = -1 ↔ fyr sc L q m u 0 = 0 := by
  have := fyr_le sc L q m u 0
  rw [← Int32.toInt_inj, t_mI (by omega), t_m1]
  omega
theorem s_findGift {p n : Nat} {K : KV} (hB : EnB I sc L s) (hp : p < sc 0 1) (hn : s 4 0 + n ≤ 999) (h : ∀ I', FrF I I' → I' 36 4 = mI (gft sc L s p n).1 → I' 36 5 = mI (gft sc L s p n).2.1 → K I' J) : CalV wX (d + 6) mX2_findGift [.ref 36, .int (nI p), .int (nI n)] I J K := by
  have hP := hB.1.2.1.2
  have hF := hB.1.1.2
  have hwo := hB.1.2.2.2.2.2.1
  have f0 : FrF I (u2 (u2 I 36 4 (-1)) 36 5 (-1)) := fun a _ _ _ _ h7 => by rw [u2_row (by omega), u2_row (by omega)]
  refine Cal.of (by decide) (Nat.le_of_ble_eq_true rfl) (bX2_findGift_0 (s_copyFrom obX_37 obX_19 (hB.F f0).2.1 (by omega) (fun I1 h1 g1 => ?_)))
  have a0 : ∀ I', FrT (u2 (u2 I 36 4 (-1)) 36 5 (-1)) I' → I' 36 4 = mI 0 ∧ I' 36 5 = mI 0 := fun I' hf => by
    rw [hf.2]; exact ⟨by rw [u2_k (by omega), u2_at]; rfl, by rw [u2_at]; rfl⟩
  have f1 : FrT (u2 (u2 I 36 4 (-1)) 36 5 (-1)) I1 := g1.T
  refine s_runToDoctorT ((hB.F f0).F f1.1).1 h1 hB.2.2.1 hn (by omega) (fun I2 f2 => ?_)
  have f3 := f1.trans f2
  rw [fyr_z (by omega)]
  refine ⟨fun q => ?_, fun q => ?_⟩
  case refine_2 =>
    have e : gft sc L s p n = (0, 0, 10) := by unfold gft; rw [if_pos q]
    exact h I2 (f0.trans f3.1) (by rw [e]; exact (a0 I2 f3).1) (by rw [e]; exact (a0 I2 f3).2)
  have eg : gft sc L s p n = giL sc L s p n (sc 0 1) := by unfold gft; rw [if_neg (by omega)]
  rw [eg] at h
  -- the facts of one
  have inner : ∀ to, to < sc 0 1 → ∀ st : Nat × Nat × Nat, st.2.2 ≤ 10 → ∀ r k I1, k + r = sc 0 0 → FrF I I1 → I1 36 4 = mI (giF sc L s p n to st k).1 → I1 36 5 = mI (giF sc L s p n to st k).2.1 →
      (∀ I', FrF I I' → I' 36 4 = mI (giF sc L s p n to st (sc 0 0)).1 → I' 36 5 = mI (giF sc L s p n to st (sc 0 0)).2.1 → GoV wX (d + 5 + 1) mX2_findGift 38 [(0, .ref 36), (1, .int (nI p)), (2, .int (nI n)), (3, .int (nI (giF sc L s p n to st (sc 0 0)).2.2)), (4, .int (nI (to + 1)))] [] I' J K) →
      GoV wX (d + 5 + 1) mX2_findGift 53 [(0, .ref 36), (1, .int (nI p)), (2, .int (nI n)), (3, .int (nI (giF sc L s p n to st k).2.2)), (4, .int (nI to)), (5, .int (nI k))] [] I1 J K := by
    intro to hto st hst r
    induction r with
    | zero =>
      intro k I1 hk f1 ha hb hK
      obtain rfl : k = sc 0 0 := by omega
      refine bX2_findGift_53 ?_
      rw [(hB.F f1).1.1.1, nI_1]
      repeat' (first | (refine ⟨vp_in_nI (by omega) (by omega), ?_⟩) | (with_reducible refine And.intro ?_ ?_) | (with_reducible intro I9 e9; subst e9) | (with_reducible intro q9; try (simp (disch := omega) only [Int32.le_iff_toInt_le, Int32.lt_iff_toInt_lt, ← Int32.toInt_inj, nI_toInt, t_bq, t_pc8, t_bel, t_mI, t_ite, t_dec, sm_t, Int32.reduceToInt, t_m1, t_0, t_1, t_2, t_3, t_8, Int.natCast_eq_zero, Int.ofNat_le, Int.ofNat_lt, Int.ofNat_inj, not_true_eq_false, not_false_eq_true, forall_const] at q9); try (exfalso; omega)))
      exact hK I1 f1 ha hb
    | succ r ih =>
      intro k I1 hk f1 ha hb hK
      have hB1 := hB.F f1
      have hwk := hB1.1.2.2.2.2.2.1 k (by omega)
      have hbd := giF_b (sc := sc) (L := L) (s := s) (p := p) (n := n) (to := to) (st := st) hst k (fun j hj => (hwo j (by omega)).2.2.2)
      have nx : giF sc L s p n to st (k + 1) = giF sc L s p n to st k → ∀ I2, FrF I1 I2 → I2 36 = I1 36 → GoV wX (d + 5 + 1) mX2_findGift 53 [(0, .ref 36), (1, .int (nI p)), (2, .int (nI n)), (3, .int (nI (giF sc L s p n to st k).2.2)), (4, .int (nI to)), (5, .int (nI (k + 1)))] [] I2 J K := by
        intro e I2 f2 z2
        have := ih (k + 1) I2 (by omega) (f1.trans f2) (by rw [e, z2]; exact ha) (by rw [e, z2]; exact hb) hK
        rw [e] at this
        exact this
      refine bX2_findGift_53 ?_
      rw [hB1.1.1.1, nI_1, nI_1, nI_clamp (by omega), hwk.2.2.1]
      repeat' (first | (refine ⟨vp_in_nI (by omega) (by omega), ?_⟩) | (with_reducible refine And.intro ?_ ?_) | (with_reducible intro I9 e9; subst e9) | (with_reducible intro q9; try (simp (disch := omega) only [Int32.le_iff_toInt_le, Int32.lt_iff_toInt_lt, ← Int32.toInt_inj, nI_toInt, t_bq, t_pc8, t_bel, t_mI, t_ite, t_dec, sm_t, Int32.reduceToInt, t_m1, t_0, t_1, t_2, t_3, t_8, Int.natCast_eq_zero, Int.ofNat_le, Int.ofNat_lt, Int.ofNat_inj, not_true_eq_false, not_false_eq_true, forall_const] at q9); try (exfalso; omega)))
      · exact nx (by simp only [giF]; unfold giS; rw [if_pos (Or.inl (by omega))]) I1 (FrF.refl _) rfl
      · refine s_beliefOf obX_19 hB1.2.1 (by omega) (by omega) ?_
        have b3 := bel3 s to k
        repeat' (first | (refine ⟨vp_in_nI (by omega) (by omega), ?_⟩) | (with_reducible refine And.intro ?_ ?_) | (with_reducible intro I9 e9; subst e9) | (with_reducible intro q9; try (simp (disch := omega) only [Int32.le_iff_toInt_le, Int32.lt_iff_toInt_lt, ← Int32.toInt_inj, nI_toInt, t_bq, t_pc8, t_bel, t_mI, t_ite, t_dec, sm_t, Int32.reduceToInt, t_m1, t_0, t_1, t_2, t_3, t_8, Int.natCast_eq_zero, Int.ofNat_le, Int.ofNat_lt, Int.ofNat_inj, not_true_eq_false, not_false_eq_true, forall_const] at q9); try (exfalso; omega)))
        · refine s_copyFrom obX_37 obX_19 hB1.2.1 (by omega) (fun I3 h3 g3 => ?_)
          refine s_believe (b := 1) obX_37 h3 (by omega) (by omega) (by omega) (fun I4 h4 g4 => ?_)
          have f4 := g3.T.trans g4.T
          have e4 : blv s to k 1 4 = s 4 := blv_m _ _ _ _ _ (by omega) (by omega)
          refine s_runToDoctorT (hB1.F f4.1).1 h4 (blv_WFS hF hP hB.2.2.1 hto (by omega)) (by rw [e4]; exact hn) (by omega) (fun I5 f5 => ?_)
          have f6 := f4.trans f5
          rw [fyr_z (by omega)]
          refine ⟨fun q => ?_, fun q => ?_⟩
          · exact nx (by simp only [giF]; unfold giS; rw [if_pos (Or.inr (Or.inr (by simp [giB, q])))]) I5 f6.1 f6.2
          · rintro _ rfl
            have e : giF sc L s p n to st (k + 1) = (to + 1, k + 1, sc 2 k) := by
              simp only [giF]; unfold giS; rw [if_neg]; simp only [giB, decide_eq_false_iff_not]; omega
            have f7 : FrF I1 (u2 (u2 I5 36 4 (nI to)) 36 5 (nI k)) := f6.1.trans (fun a _ _ _ _ h7 => by rw [u2_row (by omega), u2_row (by omega)])
            have := ih (k + 1) (u2 (u2 I5 36 4 (nI to)) 36 5 (nI k)) (by omega) (f1.trans f7) (by rw [e, u2_k (by omega), u2_at]; exact (mI_s to).symm) (by rw [e, u2_at]; exact (mI_s k).symm) hK
            rw [e] at this
            rw [((hB1.F f7).1.2.2.2.2.2.1 k (by omega)).2.2.1]
            exact this
        · exact nx (by simp only [giF]; unfold giS; rw [if_pos (Or.inr (Or.inl (by omega)))]) I1 (FrF.refl _) rfl
  have outer : ∀ r to I1, to + r = sc 0 1 → FrF I I1 → I1 36 4 = mI (giL sc L s p n to).1 → I1 36 5 = mI (giL sc L s p n to).2.1 → GoV wX (d + 5 + 1) mX2_findGift 38 [(0, .ref 36), (1, .int (nI p)), (2, .int (nI n)), (3, .int (nI (giL sc L s p n to).2.2)), (4, .int (nI to))] [] I1 J K := by
    intro r
    induction r with
    | zero =>
      intro to I1 hk f1 ha hb
      obtain rfl : to = sc 0 1 := by omega
      refine bX2_findGift_38 ?_
      rw [(hB.F f1).1.2.1.1]
      repeat' (first | (refine ⟨vp_in_nI (by omega) (by omega), ?_⟩) | (with_reducible refine And.intro ?_ ?_) | (with_reducible intro I9 e9; subst e9) | (with_reducible intro q9; try (simp (disch := omega) only [Int32.le_iff_toInt_le, Int32.lt_iff_toInt_lt, ← Int32.toInt_inj, nI_toInt, t_bq, t_pc8, t_bel, t_mI, t_ite, t_dec, sm_t, Int32.reduceToInt, t_m1, t_0, t_1, t_2, t_3, t_8, Int.natCast_eq_zero, Int.ofNat_le, Int.ofNat_lt, Int.ofNat_inj, not_true_eq_false, not_false_eq_true, forall_const] at q9); try (exfalso; omega)))
      exact h I1 f1 ha hb
    | succ r ih =>
      intro to I1 hk f1 ha hb
      refine bX2_findGift_38 ?_
      rw [(hB.F f1).1.2.1.1]
      repeat' (first | (refine ⟨vp_in_nI (by omega) (by omega), ?_⟩) | (with_reducible refine And.intro ?_ ?_) | (with_reducible intro I9 e9; subst e9) | (with_reducible intro q9; try (simp (disch := omega) only [Int32.le_iff_toInt_le, Int32.lt_iff_toInt_lt, ← Int32.toInt_inj, nI_toInt, t_bq, t_pc8, t_bel, t_mI, t_ite, t_dec, sm_t, Int32.reduceToInt, t_m1, t_0, t_1, t_2, t_3, t_8, Int.natCast_eq_zero, Int.ofNat_le, Int.ofNat_lt, Int.ofNat_inj, not_true_eq_false, not_false_eq_true, forall_const] at q9); try (exfalso; omega)))
      exact inner to (by omega) (giL sc L s p n to) (giL_b (fun j hj => (hwo j hj).2.2.2) to) (sc 0 0) 0 I1 (by omega) f1 ha hb (fun I' f' ha' hb' => ih (to + 1) I' (by omega) f' ha' hb')
  exact outer (sc 0 1) 0 I2 (by omega) (f0.trans f3.1) (a0 I2 f3).1 (a0 I2 f3).2
theorem s_doctorsWith {t n : Nat} {K : KI} (hB : EnB I sc L s) (ht : t ≤ 9) (hn : s 4 0 + n ≤ 999) (h : ∀ I', FrT I I' → K (nI (dwt sc L s n t)) I' J) : CalI wX (d + 5) mX2_doctorsWith [.ref 36, .int (nI t), .int (nI n)] I J K := by
  have hP := hB.1.2.1.2
  refine Cal.of (by decide) (Nat.le_of_ble_eq_true rfl) (bX2_doctorsWith_0 (s_copyFrom obX_37 obX_19 hB.2.1 (by omega) (fun I1 h1 g1 => ?_)))
  have l2 : ∀ r k I1, k + r = n → FrT I I1 → EnS I1 37 (yrs sc L (lftN s t (sc 0 1)) k) → GoI wX (d + 4 + 1) mX2_doctorsWith 62 [(0, .ref 36), (2, .int (nI n)), (3, .int (nI k))] [] I1 J K := by
    intro r
    induction r with
    | zero =>
      intro k I1 hk f1 h1
      obtain rfl : k = n := by omega
      refine bX2_doctorsWith_62 ?_
      rw [h1.2.2.2.2.2.2.1.1]
      repeat' (first | (refine ⟨vp_in_nI (by omega) (by omega), ?_⟩) | (with_reducible refine And.intro ?_ ?_) | (with_reducible intro I9 e9; subst e9) | (with_reducible intro q9; try (simp (disch := omega) only [Int32.le_iff_toInt_le, Int32.lt_iff_toInt_lt, ← Int32.toInt_inj, nI_toInt, t_bq, t_pc8, t_bel, t_mI, t_ite, t_dec, sm_t, Int32.reduceToInt, t_m1, t_0, t_1, t_2, t_3, t_8, Int.natCast_eq_zero, Int.ofNat_le, Int.ofNat_lt, Int.ofNat_inj, not_true_eq_false, not_false_eq_true, forall_const] at q9); try (exfalso; omega)))
      exact s_bitCount h1.2.2.2.2.2.2.1.2 (h I1 f1)
    | succ r ih =>
      intro k I1 hk f1 h1
      have hy := (yrs_m (sc := sc) (s := lftN s t (sc 0 1)) (L := L) k).2
      rw [lftN_m _ _ _ 4 (by omega)] at hy
      refine bX2_doctorsWith_62 ?_
      rw [nI_1]
      repeat' (first | (refine ⟨vp_in_nI (by omega) (by omega), ?_⟩) | (with_reducible refine And.intro ?_ ?_) | (with_reducible intro I9 e9; subst e9) | (with_reducible intro q9; try (simp (disch := omega) only [Int32.le_iff_toInt_le, Int32.lt_iff_toInt_lt, ← Int32.toInt_inj, nI_toInt, t_bq, t_pc8, t_bel, t_mI, t_ite, t_dec, sm_t, Int32.reduceToInt, t_m1, t_0, t_1, t_2, t_3, t_8, Int.natCast_eq_zero, Int.ofNat_le, Int.ofNat_lt, Int.ofNat_inj, not_true_eq_false, not_false_eq_true, forall_const] at q9); try (exfalso; omega)))
      refine s_runYear (aw := 0) obX_37 (hB.F f1.1).1 h1 (by omega) (by omega) ((yrs_WFS hB.1.1.2 hP (lftN_WFS hB.2.2.1 ht _) k).m hP) (fun I2 h2 g2 => ?_)
      exact ih (k + 1) I2 (by omega) (f1.trans g2.T) h2
  have l1 : ∀ r k I1, k + r = sc 0 1 → FrT I I1 → EnS I1 37 (lftN s t k) → GoI wX (d + 4 + 1) mX2_doctorsWith 13 [(0, .ref 36), (1, .int (nI t)), (2, .int (nI n)), (3, .int (nI k))] [] I1 J K := by
    intro r
    induction r with
    | zero =>
      intro k I1 hk f1 h1
      obtain rfl : k = sc 0 1 := by omega
      refine bX2_doctorsWith_13 ?_
      rw [(hB.F f1.1).1.2.1.1]
      repeat' (first | (refine ⟨vp_in_nI (by omega) (by omega), ?_⟩) | (with_reducible refine And.intro ?_ ?_) | (with_reducible intro I9 e9; subst e9) | (with_reducible intro q9; try (simp (disch := omega) only [Int32.le_iff_toInt_le, Int32.lt_iff_toInt_lt, ← Int32.toInt_inj, nI_toInt, t_bq, t_pc8, t_bel, t_mI, t_ite, t_dec, sm_t, Int32.reduceToInt, t_m1, t_0, t_1, t_2, t_3, t_8, Int.natCast_eq_zero, Int.ofNat_le, Int.ofNat_lt, Int.ofNat_inj, not_true_eq_false, not_false_eq_true, forall_const] at q9); try (exfalso; omega)))
      exact l2 n 0 I1 (by omega) f1 h1
    | succ r ih =>
      intro k I1 hk f1 h1
      refine bX2_doctorsWith_13 ?_
      rw [(hB.F f1.1).1.2.1.1, h1.2.2.2.2.2.1.1, nI_1, nI_clamp (by omega)]
      repeat' (first | (refine ⟨vp_in_nI (by omega) (by omega), ?_⟩) | (with_reducible refine And.intro ?_ ?_) | (with_reducible intro I9 e9; subst e9) | (with_reducible intro q9; try (simp (disch := omega) only [Int32.le_iff_toInt_le, Int32.lt_iff_toInt_lt, ← Int32.toInt_inj, nI_toInt, t_bq, t_pc8, t_bel, t_mI, t_ite, t_dec, sm_t, Int32.reduceToInt, t_m1, t_0, t_1, t_2, t_3, t_8, Int.natCast_eq_zero, Int.ofNat_le, Int.ofNat_lt, Int.ofNat_inj, not_true_eq_false, not_false_eq_true, forall_const] at q9); try (exfalso; omega)))
      refine s_hasBit h1.2.2.2.2.2.1.2 (by omega) ?_
      rw [lftN_m _ _ _ 4 (by omega)]
      have := bq01 (s 4 1) k
      repeat' (first | (refine ⟨vp_in_nI (by omega) (by omega), ?_⟩) | (with_reducible refine And.intro ?_ ?_) | (with_reducible intro I9 e9; subst e9) | (with_reducible intro q9; try (simp (disch := omega) only [Int32.le_iff_toInt_le, Int32.lt_iff_toInt_lt, ← Int32.toInt_inj, nI_toInt, t_bq, t_pc8, t_bel, t_mI, t_ite, t_dec, sm_t, Int32.reduceToInt, t_m1, t_0, t_1, t_2, t_3, t_8, Int.natCast_eq_zero, Int.ofNat_le, Int.ofNat_lt, Int.ofNat_inj, not_true_eq_false, not_false_eq_true, forall_const] at q9); try (exfalso; omega)))
      · exact ih (k + 1) I1 (by omega) f1 (by rw [← lftN_no s t k (by omega)]; exact h1)
      · refine ih (k + 1) _ (by omega) ⟨f1.1.trans (fun a _ _ _ _ h7 => u2_row (by omega)), (u2_row (by omega)).trans f1.2⟩ (by rw [← lftN_s s t k (by omega)]; exact h1.put (o := 37) (i := 3) ⟨rfl, by omega, by omega⟩)
  have e0 : lftN s t 0 = s := by funext a k; simp [lftN]
  exact l1 (sc 0 1) 0 I1 (by omega) g1.T (by rw [e0]; exact h1)
theorem trL_b (n : Nat) : ∀ t, (trL sc L s n t).2 ≤ 9 ∧ (trL sc L s n t).1 ≤ t
  | 0 => by simp [trL]
  | t + 1 => by
    have ih := trL_b n t
    have := pc8_le (yrs sc L (lftN s t (sc 0 1)) n 4 2)
    simp only [trL]
    split
    · omega
    · simp only [dwt]; omega
theorem s_findTries {n : Nat} {K : KV} (hB : EnB I sc L s) (hn : s 4 0 + n ≤ 999) (h : ∀ I', FrF I I' → I' 36 4 = mI (trL sc L s n 10).1 → I' 36 5 = mI (trL sc L s n 10).2 → K I' J) : CalV wX (d + 6) mX2_findTries [.ref 36, .int (nI n)] I J K := by
  refine Cal.of (by decide) (Nat.le_of_ble_eq_true rfl) (bX2_findTries_0 ?_)
  have key : ∀ r k I1, k + r = 10 → FrF I I1 → I1 36 4 = mI (trL sc L s n k).1 → I1 36 5 = mI (trL sc L s n k).2 → GoV wX (d + 5 + 1) mX2_findTries 12 [(0, .ref 36), (1, .int (nI n)), (2, .int (nI k))] [] I1 J K := by
    intro r
    induction r with
    | zero =>
      intro k I1 hk f1 ha hb
      obtain rfl : k = 10 := by omega
      refine bX2_findTries_12 ?_
      exact ⟨fun _ => h I1 f1 ha hb, fun q => absurd (by decide) q⟩
    | succ r ih =>
      intro k I1 hk f1 ha hb
      refine bX2_findTries_12 ?_
      rw [show (9 : Int32) = nI 9 from rfl, nI_1]
      repeat' (first | (refine ⟨vp_in_nI (by omega) (by omega), ?_⟩) | (with_reducible refine And.intro ?_ ?_) | (with_reducible intro I9 e9; subst e9) | (with_reducible intro q9; try (simp (disch := omega) only [Int32.le_iff_toInt_le, Int32.lt_iff_toInt_lt, ← Int32.toInt_inj, nI_toInt, t_bq, t_pc8, t_bel, t_mI, t_ite, t_dec, sm_t, Int32.reduceToInt, t_m1, t_0, t_1, t_2, t_3, t_8, Int.natCast_eq_zero, Int.ofNat_le, Int.ofNat_lt, Int.ofNat_inj, not_true_eq_false, not_false_eq_true, forall_const] at q9); try (exfalso; omega)))
      refine s_doctorsWith (hB.F f1) (by omega) hn (fun I2 f2 => ?_)
      have hd : dwt sc L s n k ≤ 8 := pc8_le _
      have hbd := trL_b (sc := sc) (s := s) (L := L) n k
      rw [f2.2, hb]
      refine ⟨fun q => ?_, fun q => ?_⟩
      · simp (disch := omega) only [Int32.le_iff_toInt_le, Int32.lt_iff_toInt_lt, ← Int32.toInt_inj, nI_toInt, t_bq, t_pc8, t_bel, t_mI, t_ite, t_dec, sm_t, Int32.reduceToInt, t_m1, t_0, t_1, t_2, t_3, t_8, Int.natCast_eq_zero, Int.ofNat_le, Int.ofNat_lt, Int.ofNat_inj, not_true_eq_false, not_false_eq_true, forall_const] at q
        have e : trL sc L s n (k + 1) = trL sc L s n k := by simp only [trL]; rw [if_pos (by omega)]
        exact ih (k + 1) I2 (by omega) (f1.trans f2.1) (by rw [e, f2.2]; exact ha) (by rw [e, f2.2]; exact hb)
      · simp (disch := omega) only [Int32.le_iff_toInt_le, Int32.lt_iff_toInt_lt, ← Int32.toInt_inj, nI_toInt, t_bq, t_pc8, t_bel, t_mI, t_ite, t_dec, sm_t, Int32.reduceToInt, t_m1, t_0, t_1, t_2, t_3, t_8, Int.natCast_eq_zero, Int.ofNat_le, Int.ofNat_lt, Int.ofNat_inj, not_true_eq_false, not_false_eq_true, forall_const] at q
        have e : trL sc L s n (k + 1) = (k + 1, dwt sc L s n k + 1) := by simp only [trL]; rw [if_neg (by omega)]
        exact ih (k + 1) _ (by omega) (f1.trans (f2.1.trans (fun a _ _ _ _ h7 => by rw [u2_row (by omega), u2_row (by omega)]))) (by rw [e, u2_k (by omega), u2_at]; exact (mI_s _).symm) (by rw [e, u2_at]; exact (mI_s _).symm)
  exact key 10 0 _ (by omega) (fun a _ _ _ _ h7 => by rw [u2_row (by omega), u2_row (by omega)]) (by rw [u2_k (by omega), u2_at]; rfl) (by rw [u2_at]; rfl)
end SP

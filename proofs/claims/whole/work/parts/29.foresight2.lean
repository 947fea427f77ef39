/-! Foresight: masters, gifts, tries -/
def fmS (sc : Sx) (L : Nat → List Nat) (s : Sx) (p k : Nat) (st : Nat × Nat × Nat) : Nat × Nat × Nat :=
  if k = p ∨ anc s p 8 (s 0 k) = true then st
  else if fyr sc L (fun t => decide (bq (t 4 1) p = 1)) (st.1 - 1) (up s 0 p (k + 1)) 0 = 0 then st
  else (fyr sc L (fun t => decide (bq (t 4 1) p = 1)) (st.1 - 1) (up s 0 p (k + 1)) 0 - 1, k + 1, fyr sc L (fun t => decide (bq (t 4 1) p = 1)) (st.1 - 1) (up s 0 p (k + 1)) 0)
def fmL (sc : Sx) (L : Nat → List Nat) (s : Sx) (p : Nat) : Nat → Nat × Nat × Nat
  | 0 => (hzn s + 1, 0, 0)
  | n + 1 => if (fmL sc L s p n).1 = 0 then fmL sc L s p n else fmS sc L s p n (fmL sc L s p n)
theorem fmL_stop {sc : Sx} {L : Nat → List Nat} {s : Sx} {p k : Nat} (h : (fmL sc L s p k).1 = 0) : ∀ n, fmL sc L s p (k + n) = fmL sc L s p k
  | 0 => rfl
  | n + 1 => by
    have ih := fmL_stop h n
    show (if (fmL sc L s p (k + n)).1 = 0 then fmL sc L s p (k + n) else _) = _
    rw [ih, if_pos h]
theorem fmL_le (sc : Sx) (L : Nat → List Nat) (s : Sx) (p : Nat) : ∀ n, (fmL sc L s p n).1 ≤ hzn s + 1 ∧ (fmL sc L s p n).2.1 ≤ n ∧ (fmL sc L s p n).2.2 ≤ hzn s + 1
  | 0 => by simp [fmL]
  | n + 1 => by
    have ih := fmL_le sc L s p n
    simp only [fmL]
    split
    · omega
    · unfold fmS
      have := fyr_le sc L (fun t => decide (bq (t 4 1) p = 1)) ((fmL sc L s p n).1 - 1) (up s 0 p (n + 1)) 0
      split
      · omega
      · split
        · omega
        · simp only; omega
def giB (sc : Sx) (L : Nat → List Nat) (s : Sx) (p n to k : Nat) : Bool := decide (fyr sc L (fun t => decide (bq (t 4 2) p = 1)) n (blv s to k 1) 0 ≠ 0)
def giS (sc : Sx) (L : Nat → List Nat) (s : Sx) (p n to k : Nat) (st : Nat × Nat × Nat) : Nat × Nat × Nat := if st.2.2 ≤ sc 2 k ∨ bel s to k = 1 ∨ giB sc L s p n to k = false then st else (to + 1, k + 1, sc 2 k)
def giF (sc : Sx) (L : Nat → List Nat) (s : Sx) (p n to : Nat) (st : Nat × Nat × Nat) : Nat → Nat × Nat × Nat
  | 0 => st
  | k + 1 => giS sc L s p n to k (giF sc L s p n to st k)
def giL (sc : Sx) (L : Nat → List Nat) (s : Sx) (p n : Nat) : Nat → Nat × Nat × Nat
  | 0 => (0, 0, 10)
  | t + 1 => giF sc L s p n t (giL sc L s p n t) (sc 0 0)
def gft (sc : Sx) (L : Nat → List Nat) (s : Sx) (p n : Nat) : Nat × Nat × Nat := if fyr sc L (fun t => decide (bq (t 4 2) p = 1)) n s 0 ≠ 0 then (0, 0, 10) else giL sc L s p n (sc 0 1)
def lftN (s : Sx) (t n : Nat) : Sx := fun a k => if a = 3 ∧ k < n ∧ bq (s 4 1) k = 0 then t else s a k
def dwt (sc : Sx) (L : Nat → List Nat) (s : Sx) (n t : Nat) : Nat := pc8 (yrs sc L (lftN s t (sc 0 1)) n 4 2)
def trL (sc : Sx) (L : Nat → List Nat) (s : Sx) (n : Nat) : Nat → Nat × Nat
  | 0 => (0, 0)
  | t + 1 => if dwt sc L s n t + 1 ≤ (trL sc L s n t).2 then trL sc L s n t else (t + 1, dwt sc L s n t + 1)
theorem lftN_m (s : Sx) (t n i : Nat) (h : i ≠ 3) : lftN s t n i = s i := by funext k; simp [lftN, h]
theorem lftN_s (s : Sx) (t n : Nat) (h : bq (s 4 1) n = 0) : up (lftN s t n) 3 n t = lftN s t (n + 1) := by
  funext a k
  simp only [up, lftN]
  by_cases e : a = 3 ∧ k = n
  · simp [e, h]
  · rw [if_neg e]
    by_cases e3 : a = 3
    · have hk : ¬ k = n := fun z => e ⟨e3, z⟩
      have : k < n + 1 ↔ k < n := by omega
      simp [this]
    · simp [e3]
theorem lftN_no (s : Sx) (t n : Nat) (h : bq (s 4 1) n = 1) : lftN s t n = lftN s t (n + 1) := by
  funext a k
  simp only [lftN]
  by_cases e : k = n
  · subst e; simp [h]
  · have : k < n + 1 ↔ k < n := by omega
    simp [this]
theorem lftN_WFS {sc s : Sx} {t : Nat} (h : WFS sc s) (ht : t ≤ 9) : ∀ n, WFS sc (lftN s t n)
  | 0 => by
    have : lftN s t 0 = s := by funext a k; simp [lftN]
    rw [this]; exact h
  | n + 1 => by
    have ih := lftN_WFS h ht n
    rcases bq01 (s 4 1) n with e | e
    · rw [← lftN_s s t n e]; exact up3_WFS ih ht
    · rw [← lftN_no s t n e]; exact ih
section SP
variable {d : Nat} {I : Ii} {J : Jj} {sc s t : Sx} {L : Nat → List Nat}
theorem s_yearsToPass {p k m : Nat} {K : KI} (hB : EnB I sc L s) (hp : p < sc 0 1) (hk : k < sc 0 1) (hm : s 4 0 + m ≤ 999) (h : ∀ I', FrF I I' → I' 36 = I 36 → K (mI (fyr sc L (fun t => decide (bq (t 4 1) p = 1)) m (up s 0 p (k + 1)) 0)) I' J) : CalI wX (d + 5) mX2_yearsToPass [.ref 36, .int (nI p), .int (nI k), .int (nI m)] I J K := by
  have hP := hB.1.2.1.2
  refine Cal.of (by decide) (Nat.le_of_ble_eq_true rfl) (bX2_yearsToPass_0 (s_copyFrom obX_37 obX_19 hB.2.1 (by omega) (fun I1 h1 g1 => ?_)))
  rw [← mI_s k]
  refine s_setMaster obX_37 h1 (by omega) (by omega) (fun I2 h2 g2 => ?_)
  have key : ∀ r k u I1, k + r = m → EnS I1 37 u → WFS sc u → u 4 0 + r ≤ 999 → FrF I I1 → I1 36 = I 36 → (∀ I', FrF I I' → I' 36 = I 36 → K (mI (fyr sc L (fun t => decide (bq (t 4 1) p = 1)) r u k)) I' J) → GoI wX (d + 4 + 1) mX2_yearsToPass 23 [(0, .ref 36), (1, .int (nI p)), (3, .int (nI m)), (4, .int (nI k))] [] I1 J K := by
    intro r
    induction r with
    | zero =>
      intro k u I1 hk h1 w1 y1 f1 z1 hK
      obtain rfl : k = m := by omega
      refine bX2_yearsToPass_23 ?_
      rw [h1.2.2.2.2.2.1.1, nI_1]
      repeat' (first | (refine ⟨vp_in_nI (by omega) (by omega), ?_⟩) | (with_reducible refine And.intro ?_ ?_) | (with_reducible intro I9 e9; subst e9) | (with_reducible intro q9; try (simp (disch := omega) only [Int32.le_iff_toInt_le, Int32.lt_iff_toInt_lt, ← Int32.toInt_inj, nI_toInt, t_bq, t_pc8, t_bel, t_mI, t_ite, t_dec, sm_t, Int32.reduceToInt, t_m1, t_0, t_1, t_2, t_3, t_8, Int.natCast_eq_zero, Int.ofNat_le, Int.ofNat_lt, Int.ofNat_inj, not_true_eq_false, not_false_eq_true, forall_const] at q9); try (exfalso; omega)))
      refine s_hasBit h1.2.2.2.2.2.1.2 (by omega) ?_
      have := bq01 (u 4 1) p
      repeat' (first | (refine ⟨vp_in_nI (by omega) (by omega), ?_⟩) | (with_reducible refine And.intro ?_ ?_) | (with_reducible intro I9 e9; subst e9) | (with_reducible intro q9; try (simp (disch := omega) only [Int32.le_iff_toInt_le, Int32.lt_iff_toInt_lt, ← Int32.toInt_inj, nI_toInt, t_bq, t_pc8, t_bel, t_mI, t_ite, t_dec, sm_t, Int32.reduceToInt, t_m1, t_0, t_1, t_2, t_3, t_8, Int.natCast_eq_zero, Int.ofNat_le, Int.ofNat_lt, Int.ofNat_inj, not_true_eq_false, not_false_eq_true, forall_const] at q9); try (exfalso; omega)))
      · have hK' := hK I1 f1 z1
        simp only [fyr, show ¬ bq (u 4 1) p = 1 by omega, decide_false, Bool.false_eq_true, if_false] at hK'
        refine bX2_yearsToPass_23 ?_
        repeat' (first | (refine ⟨vp_in_nI (by omega) (by omega), ?_⟩) | (with_reducible refine And.intro ?_ ?_) | (with_reducible intro I9 e9; subst e9) | (with_reducible intro q9; try (simp (disch := omega) only [Int32.le_iff_toInt_le, Int32.lt_iff_toInt_lt, ← Int32.toInt_inj, nI_toInt, t_bq, t_pc8, t_bel, t_mI, t_ite, t_dec, sm_t, Int32.reduceToInt, t_m1, t_0, t_1, t_2, t_3, t_8, Int.natCast_eq_zero, Int.ofNat_le, Int.ofNat_lt, Int.ofNat_inj, not_true_eq_false, not_false_eq_true, forall_const] at q9); try (exfalso; omega)))
        exact hK'
      · have hK' := hK I1 f1 z1
        simp only [fyr, show bq (u 4 1) p = 1 by omega, decide_true, if_true, mI_s] at hK'
        exact hK'
    | succ r ih =>
      intro k u I1 hk h1 w1 y1 f1 z1 hK
      refine bX2_yearsToPass_23 ?_
      rw [h1.2.2.2.2.2.1.1, nI_1]
      repeat' (first | (refine ⟨vp_in_nI (by omega) (by omega), ?_⟩) | (with_reducible refine And.intro ?_ ?_) | (with_reducible intro I9 e9; subst e9) | (with_reducible intro q9; try (simp (disch := omega) only [Int32.le_iff_toInt_le, Int32.lt_iff_toInt_lt, ← Int32.toInt_inj, nI_toInt, t_bq, t_pc8, t_bel, t_mI, t_ite, t_dec, sm_t, Int32.reduceToInt, t_m1, t_0, t_1, t_2, t_3, t_8, Int.natCast_eq_zero, Int.ofNat_le, Int.ofNat_lt, Int.ofNat_inj, not_true_eq_false, not_false_eq_true, forall_const] at q9); try (exfalso; omega)))
      refine s_hasBit h1.2.2.2.2.2.1.2 (by omega) ?_
      have := bq01 (u 4 1) p
      repeat' (first | (refine ⟨vp_in_nI (by omega) (by omega), ?_⟩) | (with_reducible refine And.intro ?_ ?_) | (with_reducible intro I9 e9; subst e9) | (with_reducible intro q9; try (simp (disch := omega) only [Int32.le_iff_toInt_le, Int32.lt_iff_toInt_lt, ← Int32.toInt_inj, nI_toInt, t_bq, t_pc8, t_bel, t_mI, t_ite, t_dec, sm_t, Int32.reduceToInt, t_m1, t_0, t_1, t_2, t_3, t_8, Int.natCast_eq_zero, Int.ofNat_le, Int.ofNat_lt, Int.ofNat_inj, not_true_eq_false, not_false_eq_true, forall_const] at q9); try (exfalso; omega)))
      · refine s_runYear (aw := 0) obX_37 (hB.1.F f1) h1 (by omega) (by omega) (w1.m hP) (fun I2 h2 g2 => ?_)
        refine ih (k + 1) _ I2 (by omega) h2 (yr_WFS hB.1.1.2 hP w1) (by rw [yr_m.2]; omega) (f1.trans g2.F) ((g2 36 (by omega) (by omega) (by omega) (by omega) (by omega)).trans z1) (fun I' f' z' => ?_)
        have hK' := hK I' f' z'
        simp only [fyr, show ¬ bq (u 4 1) p = 1 by omega, decide_false, Bool.false_eq_true, if_false] at hK'
        exact hK'
      · have hK' := hK I1 f1 z1
        simp only [fyr, show bq (u 4 1) p = 1 by omega, decide_true, if_true, mI_s] at hK'
        exact hK'
  have e4 : up s 0 p (k + 1) 4 = s 4 := by funext j; simp [up]
  refine key m 0 _ I2 (by omega) h2 (up0_WFS hB.2.2.1 hp (by omega)) (by rw [e4]; exact hm) (g1.F.trans g2.F) ((g2 36 (by omega)).trans (g1 36 (by omega))) h
theorem s_findMaster {p : Nat} {K : KV} (hB : EnB I sc L s) (hp : p < sc 0 1) (h : ∀ I', FrF I I' → I' 36 4 = mI (fmL sc L s p (sc 0 1)).2.1 → I' 36 5 = mI (fmL sc L s p (sc 0 1)).2.2 → K I' J) : CalV wX (d + 6) mX2_findMaster [.ref 36, .int (nI p)] I J K := by
  have hP := hB.1.2.1.2
  have hz := hzn_le s hB.2.2.2
  have f0 : FrF I (u2 (u2 I 36 4 (-1)) 36 5 (-1)) := fun a _ _ _ _ h7 => by rw [u2_row (by omega), u2_row (by omega)]
  refine Cal.of (by decide) (Nat.le_of_ble_eq_true rfl) (bX2_findMaster_0 (s_horizon (hB.F f0).2.1 hB.2.2.2 ?_))
  have key : ∀ r k I1, k + r = sc 0 1 → FrF I I1 → I1 36 4 = mI (fmL sc L s p k).2.1 → I1 36 5 = mI (fmL sc L s p k).2.2 → GoV wX (d + 5 + 1) mX2_findMaster 17 [(0, .ref 36), (1, .int (nI p)), (2, .int (mI (fmL sc L s p k).1)), (3, .int (nI k))] [] I1 J K := by
    intro r
    induction r with
    | zero =>
      intro k I1 hk f1 ha hb
      obtain rfl : k = sc 0 1 := by omega
      refine bX2_findMaster_17 ?_
      rw [(hB.F f1).1.2.1.1]
      repeat' (first | (refine ⟨vp_in_nI (by omega) (by omega), ?_⟩) | (with_reducible refine And.intro ?_ ?_) | (with_reducible intro I9 e9; subst e9) | (with_reducible intro q9; try (simp (disch := omega) only [Int32.le_iff_toInt_le, Int32.lt_iff_toInt_lt, ← Int32.toInt_inj, nI_toInt, t_bq, t_pc8, t_bel, t_mI, t_ite, t_dec, sm_t, Int32.reduceToInt, t_m1, t_0, t_1, t_2, t_3, t_8, Int.natCast_eq_zero, Int.ofNat_le, Int.ofNat_lt, Int.ofNat_inj, not_true_eq_false, not_false_eq_true, forall_const] at q9); try (exfalso; omega)))
      exact h I1 f1 ha hb
    | succ r ih =>
      intro k I1 hk f1 ha hb
      have hB1 := hB.F f1
      have hle := fmL_le sc L s p k
      refine bX2_findMaster_17 ?_
      rw [hB1.1.2.1.1, nI_1]
      repeat' (first | (refine ⟨vp_in_nI (by omega) (by omega), ?_⟩) | (with_reducible refine And.intro ?_ ?_) | (with_reducible intro I9 e9; subst e9) | (with_reducible intro q9; try (simp (disch := omega) only [Int32.le_iff_toInt_le, Int32.lt_iff_toInt_lt, ← Int32.toInt_inj, nI_toInt, t_bq, t_pc8, t_bel, t_mI, t_ite, t_dec, sm_t, Int32.reduceToInt, t_m1, t_0, t_1, t_2, t_3, t_8, Int.natCast_eq_zero, Int.ofNat_le, Int.ofNat_lt, Int.ofNat_inj, not_true_eq_false, not_false_eq_true, forall_const] at q9); try (exfalso; omega)))
      · have e0 : (fmL sc L s p k).1 = 0 := by omega
        have := fmL_stop e0 (r + 1)
        rw [hk] at this
        refine h I1 f1 (by rw [this]; exact ha) (by rw [this]; exact hb)
      · have e0 : ¬ (fmL sc L s p k).1 = 0 := by omega
        have es : fmL sc L s p (k + 1) = fmL sc L s p k := by simp only [fmL, e0, if_false]; unfold fmS; rw [if_pos (Or.inl (by omega))]
        have := ih (k + 1) I1 (by omega) f1 (by rw [es]; exact ha) (by rw [es]; exact hb)
        rw [es] at this
        exact this
      · have e0 : ¬ (fmL sc L s p k).1 = 0 := by omega
        have hkp : ¬ k = p := by omega
        refine s_isAbove obX_19 hB1.2.1 (by omega) (by omega) ?_
        by_cases ean : anc s p 8 (s 0 k) = true
        · rw [if_pos ean]
          refine ⟨fun q => absurd q (by decide), fun _ => ?_⟩
          have es : fmL sc L s p (k + 1) = fmL sc L s p k := by simp only [fmL, e0, if_false]; unfold fmS; rw [if_pos (Or.inr ean)]
          have := ih (k + 1) I1 (by omega) f1 (by rw [es]; exact ha) (by rw [es]; exact hb)
          rw [es] at this
          exact this
        · rw [if_neg ean]
          refine ⟨fun _ => ?_, fun q => absurd rfl q⟩
          rw [show mI (fmL sc L s p k).1 = nI ((fmL sc L s p k).1 - 1) by simp [mI, e0]]
          refine s_yearsToPass hB1 hp (by omega) (by omega) (fun I2 f2 z2 => ?_)
          have hfl := fyr_le sc L (fun t => decide (bq (t 4 1) p = 1)) ((fmL sc L s p k).1 - 1) (up s 0 p (k + 1)) 0
          have es : fmL sc L s p (k + 1) = if fyr sc L (fun t => decide (bq (t 4 1) p = 1)) ((fmL sc L s p k).1 - 1) (up s 0 p (k + 1)) 0 = 0 then fmL sc L s p k else (fyr sc L (fun t => decide (bq (t 4 1) p = 1)) ((fmL sc L s p k).1 - 1) (up s 0 p (k + 1)) 0 - 1, k + 1, fyr sc L (fun t => decide (bq (t 4 1) p = 1)) ((fmL sc L s p k).1 - 1) (up s 0 p (k + 1)) 0) := by
            simp only [fmL, e0, if_false]; unfold fmS; rw [if_neg (by simp [hkp, ean])]
          generalize fyr sc L (fun t => decide (bq (t 4 1) p = 1)) ((fmL sc L s p k).1 - 1) (up s 0 p (k + 1)) 0 = x at hfl es ⊢
          refine ⟨fun q => ?_, fun q => ?_⟩
          · simp (disch := omega) only [Int32.le_iff_toInt_le, Int32.lt_iff_toInt_lt, ← Int32.toInt_inj, nI_toInt, t_bq, t_pc8, t_bel, t_mI, t_ite, t_dec, sm_t, Int32.reduceToInt, t_m1, t_0, t_1, t_2, t_3, t_8, Int.natCast_eq_zero, Int.ofNat_le, Int.ofNat_lt, Int.ofNat_inj, not_true_eq_false, not_false_eq_true, forall_const] at q
            rw [if_pos (by omega)] at es
            have := ih (k + 1) I2 (by omega) (f1.trans f2) (by rw [es, z2]; exact ha) (by rw [es, z2]; exact hb)
            rw [es, show mI (fmL sc L s p k).1 = nI ((fmL sc L s p k).1 - 1) by simp [mI, e0]] at this
            exact this
          · simp (disch := omega) only [Int32.le_iff_toInt_le, Int32.lt_iff_toInt_lt, ← Int32.toInt_inj, nI_toInt, t_bq, t_pc8, t_bel, t_mI, t_ite, t_dec, sm_t, Int32.reduceToInt, t_m1, t_0, t_1, t_2, t_3, t_8, Int.natCast_eq_zero, Int.ofNat_le, Int.ofNat_lt, Int.ofNat_inj, not_true_eq_false, not_false_eq_true, forall_const] at q
            have hx : ¬ x = 0 := by omega
            rw [if_neg hx] at es
            have ex : mI x - 1 = mI (x - 1) := by
              have : (mI x - 1).toInt = (mI (x - 1)).toInt := by
                rw [Jvm.Kit.i32_sub (by rw [t_mI (by omega), t_1]; omega) (by rw [t_mI (by omega), t_1]; omega), t_mI (by omega), t_mI (by omega), t_1]; omega
              exact i32_ext this
            have := ih (k + 1) (u2 (u2 I2 36 4 (nI k)) 36 5 (mI x)) (by omega) (f1.trans (f2.trans (fun a _ _ _ _ h7 => by rw [u2_row (by omega), u2_row (by omega)]))) (by rw [u2_k (by omega), u2_at, es]; exact (mI_s k).symm) (by rw [u2_at, es])
            rw [es] at this
            rw [ex]
            exact this
  refine key (sc 0 1) 0 _ (by omega) f0 (by rw [u2_k (by omega), u2_at]; rfl) (by rw [u2_at]; rfl)
end SP

/-! runYear -/
theorem EnS.putY {o : Nat} {I : Ii} {s : Sx} (hs : EnS I o s) {v : Nat} (hv : v < 65536) : EnS (u2 I o 0 (nI v)) o (up s 4 0 v) := by
  refine ⟨fun j hj => ?_, fun j hj => ?_, fun j hj => ?_, fun j hj => ?_, ?_, ?_, ?_, ?_, fun j hj => ?_⟩
  · rw [u2_o (by omega)]; simpa [up] using hs.1 j hj
  · rw [u2_o (by omega)]; simpa [up] using hs.2.1 j hj
  · rw [u2_o (by omega)]; simpa [up] using hs.2.2.1 j hj
  · rw [u2_o (by omega)]; simpa [up] using hs.2.2.2.1 j hj
  · rw [u2_at]; simp [up, hv]
  · rw [u2_k (by omega)]; simpa [up] using hs.2.2.2.2.2.1
  · rw [u2_k (by omega)]; simpa [up] using hs.2.2.2.2.2.2.1
  · rw [u2_k (by omega)]; simpa [up] using hs.2.2.2.2.2.2.2.1
  · rw [u2_o (by omega)]; simpa [up] using hs.2.2.2.2.2.2.2.2 j hj
theorem lsf_le (q : Nat → Bool) : ∀ n f, lsf q n f ≤ f + n
  | 0, f => by simp [lsf]
  | n + 1, f => by
    have := lsf_le q n (f + 1)
    simp only [lsf]
    split <;> omega
theorem lsn_le (sc : Sx) (L : Nat → List Nat) (s : Sx) (p : Nat) : lsn sc L s p ≤ sc 0 0 := by
  unfold lsn
  have := lsf_le (lsq sc L s p) (sc 0 0) 0
  split <;> omega
theorem tkn_lt (sc : Sx) (L : Nat → List Nat) (s : Sx) (p f : Nat) : tkn sc L s p f < 3 := by
  unfold tkn
  split
  · omega
  · split
    · omega
    · split <;> omega
theorem blv_m (s : Sx) (p f b i : Nat) (h1 : i ≠ 1) (h2 : i ≠ 2) : blv s p f b i = s i := by
  funext j
  simp [blv, up, h1, h2]
theorem tch_m (lf tf : Nat → Nat) (s : Sx) (i : Nat) (h1 : i ≠ 1) (h2 : i ≠ 2) : ∀ n, tch lf tf s n i = s i
  | 0 => rfl
  | n + 1 => by
    have ih := tch_m lf tf s i h1 h2 n
    simp only [tch]
    split
    · exact ih
    · rw [blv_m _ _ _ _ _ h1 h2]; exact ih
section SP
variable {d : Nat} {I : Ii} {J : Jj} {sc s : Sx} {L : Nat → List Nat}
theorem s_runYear {o1 aw : Nat} {K : KI} (ho1 : z_Ob wX o1 9) (hC : EnC I 3 sc L) (hs : EnS I o1 s) (haw : aw < 256) (hy : s 4 0 < 65000) (hm : ∀ k, k < sc 0 1 → s 0 k ≤ sc 0 1) (h : ∀ I', EnS I' o1 (yr sc L s aw) → FrY o1 I I' → K (nI (yrn sc L s aw)) I' J) : CalI wX (d + 4) mX1_runYear [.ref 32, .ref o1, .int (nI aw)] I J K := by
  have hP := hC.2.1.2
  have hF := hC.1.2
  have hdis := st_dis ho1
  generalize hlf : (fun k => if bq aw k = 1 then 0 else lsn sc L s k) = lf
  generalize htf : (fun k => tkn sc L s k (lsn sc L s k - 1)) = tf
  have elf : ∀ k, lf k = if bq aw k = 1 then 0 else lsn sc L s k := fun k => by rw [← hlf]
  have etf : ∀ k, tf k = tkn sc L s k (lsn sc L s k - 1) := fun k => by rw [← htf]
  have llf : ∀ k, lf k ≤ sc 0 0 := fun k => by rw [elf]; have := lsn_le sc L s k; split <;> omega
  -- examined and named
  have fin : ∀ I1, EnS I1 o1 (yr1 sc L s aw) → FrY o1 I I1 → CalI wX (d + 3) mX1_examine [.ref 32, .ref o1, .int (nI aw)] I1 J (fun x4 I2 J3 => CalV wX (d + 3) mX1_nameDoctors [.ref 32, .ref o1] I2 J3 (fun I5 J6 => K x4 (u2 I5 o1 0 (I5 o1 0 + 1)) J6)) := by
    intro I1 hs1 hfr
    have m1 : yr1 sc L s aw 0 = s 0 := tch_m _ _ _ _ (by omega) (by omega) _
    have y1 : yr1 sc L s aw 4 = s 4 := tch_m _ _ _ _ (by omega) (by omega) _
    refine s_examine ho1 (hC.Y ho1 hfr) hs1 haw (by rw [m1]; exact hm) (fun I2 hs2 hfr2 => ?_)
    have m2 := exs_m sc L aw (yr1 sc L s aw) (sc 0 1)
    have hfr3 := hfr.trans hfr2
    refine s_nameDoctors ho1 (hC.Y ho1 hfr3) hs2 (by rw [m2.1, m1]; exact hm) (fun I3 hs3 hfr4 => ?_)
    have m3 := dcs_m (fun m => nmd (exs sc L aw (yr1 sc L s aw) (sc 0 1)) m (sc 0 1)) (exs sc L aw (yr1 sc L s aw) (sc 0 1)) (sc 0 1)
    have ey : I3 o1 0 = nI (s 4 0) := by rw [hs3.2.2.2.2.1.1, m3.2.1, m2.2.2.2, y1]
    rw [ey, nI_1]
    refine h _ (hs3.putY (by omega)) (hfr3.trans (hfr4.Y.trans (fun a _ _ _ _ h5 => u2_row (by omega))))
  have l2 : ∀ n k I1, k + n = sc 0 1 → EnS I1 o1 (tch lf tf s k) → FrY o1 I I1 → (∀ j, j < sc 0 1 → I1 34 j = mI (lf j) ∧ (lf j ≠ 0 → I1 35 j = nI (tf j))) → GoI wX (d + 3 + 1) mX1_runYear 83 [(0, .ref 32), (1, .ref o1), (2, .int (nI aw)), (3, .int (nI k))] [] I1 J K := by
    intro n
    induction n with
    | zero =>
      intro k I1 hk hs1 hfr hr
      have hC1 := hC.Y ho1 hfr
      refine bX1_runYear_83 ho1 ?_
      rw [hC1.2.1.1]
      obtain rfl : k = sc 0 1 := by omega
      repeat' (first | (refine ⟨vp_in_nI (by omega) (by omega), ?_⟩) | (with_reducible refine And.intro ?_ ?_) | (with_reducible intro I9 e9; subst e9) | (with_reducible intro q9; try (simp (disch := omega) only [Int32.le_iff_toInt_le, Int32.lt_iff_toInt_lt, ← Int32.toInt_inj, nI_toInt, t_bq, t_pc8, t_bel, t_mI, t_ite, t_dec, sm_t, Int32.reduceToInt, t_m1, t_0, t_1, t_2, t_3, t_8, Int.natCast_eq_zero, Int.ofNat_le, Int.ofNat_lt, Int.ofNat_inj, not_true_eq_false, not_false_eq_true, forall_const] at q9); try (exfalso; omega)))
      exact fin I1 (by rw [← hlf, ← htf] at hs1; exact hs1) hfr
    | succ n ih =>
      intro k I1 hk hs1 hfr hr
      have hC1 := hC.Y ho1 hfr
      have hrk := hr k (by omega)
      have hlk := llf k
      refine bX1_runYear_83 ho1 ?_
      rw [hC1.2.1.1, nI_clamp (by omega), hrk.1, nI_1]
      repeat' (first | (refine ⟨vp_in_nI (by omega) (by omega), ?_⟩) | (with_reducible refine And.intro ?_ ?_) | (with_reducible intro I9 e9; subst e9) | (with_reducible intro q9; try (simp (disch := omega) only [Int32.le_iff_toInt_le, Int32.lt_iff_toInt_lt, ← Int32.toInt_inj, nI_toInt, t_bq, t_pc8, t_bel, t_mI, t_ite, t_dec, sm_t, Int32.reduceToInt, t_m1, t_0, t_1, t_2, t_3, t_8, Int.natCast_eq_zero, Int.ofNat_le, Int.ofNat_lt, Int.ofNat_inj, not_true_eq_false, not_false_eq_true, forall_const] at q9); try (exfalso; omega)))
      · exact ih (k + 1) I1 (by omega) (by simp only [tch, show lf k = 0 by omega, if_true]; exact hs1) hfr hr
      · have hk0 : lf k ≠ 0 := by omega
        rw [hrk.2 hk0, show mI (lf k) = nI (lf k - 1) by simp [mI, hk0]]
        refine s_believe ho1 hs1 (by omega) (by omega) (by rw [etf]; exact tkn_lt _ _ _ _ _) (fun I' h4 hfr4 => ?_)
        refine ih (k + 1) I' (by omega) (by simp only [tch, hk0, if_false]; exact h4) (hfr.trans hfr4.Y) (fun j hj => ?_)
        rw [hfr4 34 (by omega), hfr4 35 (by omega)]
        exact hr j hj
  have l1 : ∀ n k I1, k + n = sc 0 1 → EnS I1 o1 s → FrY o1 I I1 → (∀ j, j < k → I1 34 j = mI (lf j) ∧ (lf j ≠ 0 → I1 35 j = nI (tf j))) → GoI wX (d + 3 + 1) mX1_runYear 2 [(0, .ref 32), (1, .ref o1), (2, .int (nI aw)), (3, .int (nI k))] [] I1 J K := by
    intro n
    induction n with
    | zero =>
      intro k I1 hk hs1 hfr hr
      have hC1 := hC.Y ho1 hfr
      refine bX1_runYear_2 ho1 ?_
      rw [hC1.2.1.1]
      obtain rfl : k = sc 0 1 := by omega
      repeat' (first | (refine ⟨vp_in_nI (by omega) (by omega), ?_⟩) | (with_reducible refine And.intro ?_ ?_) | (with_reducible intro I9 e9; subst e9) | (with_reducible intro q9; try (simp (disch := omega) only [Int32.le_iff_toInt_le, Int32.lt_iff_toInt_lt, ← Int32.toInt_inj, nI_toInt, t_bq, t_pc8, t_bel, t_mI, t_ite, t_dec, sm_t, Int32.reduceToInt, t_m1, t_0, t_1, t_2, t_3, t_8, Int.natCast_eq_zero, Int.ofNat_le, Int.ofNat_lt, Int.ofNat_inj, not_true_eq_false, not_false_eq_true, forall_const] at q9); try (exfalso; omega)))
      exact l2 (sc 0 1) 0 I1 (by omega) hs1 hfr hr
    | succ n ih =>
      intro k I1 hk hs1 hfr hr
      have hC1 := hC.Y ho1 hfr
      have next : ∀ I2 v w, FrL I1 I2 → (v = mI (lf k)) → (lf k ≠ 0 → w = nI (tf k)) → GoI wX (d + 3 + 1) mX1_runYear 2 [(0, .ref 32), (1, .ref o1), (2, .int (nI aw)), (3, .int (nI (k + 1)))] [] (u2 (u2 I2 34 k v) 35 k w) J K := by
        intro I2 v w hf2 hv hw
        have f3 : FrY o1 I1 (u2 (u2 I2 34 k v) 35 k w) := fun a h1 h2 h3 h4 h5 => by rw [u2_row h4, u2_row h3]; exact hf2 a h1 h2
        refine ih (k + 1) _ (by omega) (hs1.kept (fun a h1 h2 => by rw [u2_row (by omega), u2_row (by omega)]; exact hf2 a (by omega) (by omega))) (hfr.trans f3) (fun j hj => ?_)
        by_cases e : j = k
        · subst e
          rw [u2_at, u2_o (by omega), u2_at]
          exact ⟨hv, hw⟩
        · rw [u2_o (by omega), u2_k e, u2_k e, u2_o (by omega), hf2 34 (by omega) (by omega), hf2 35 (by omega) (by omega)]
          exact hr j (by omega)
      refine bX1_runYear_2 ho1 ?_
      rw [hC1.2.1.1, nI_clamp (by omega), nI_1]
      repeat' (first | (refine ⟨vp_in_nI (by omega) (by omega), ?_⟩) | (with_reducible refine And.intro ?_ ?_) | (with_reducible intro I9 e9; subst e9) | (with_reducible intro q9; try (simp (disch := omega) only [Int32.le_iff_toInt_le, Int32.lt_iff_toInt_lt, ← Int32.toInt_inj, nI_toInt, t_bq, t_pc8, t_bel, t_mI, t_ite, t_dec, sm_t, Int32.reduceToInt, t_m1, t_0, t_1, t_2, t_3, t_8, Int.natCast_eq_zero, Int.ofNat_le, Int.ofNat_lt, Int.ofNat_inj, not_true_eq_false, not_false_eq_true, forall_const] at q9); try (exfalso; omega)))
      refine s_hasBit haw (by omega) ?_
      rcases bq01 aw k with ea | ea
      · rw [ea]
        refine ⟨fun _ => ?_, fun q => absurd rfl q⟩
        have elk : lf k = lsn sc L s k := by rw [elf, ea]; simp
        have hlk := llf k
        refine s_lessonOf ho1 hC1 hs1 (by omega) (hm k (by omega)) (fun I2 hf2 => ⟨vp_in_nI (by omega) (by omega), ?_⟩)
        rintro _ rfl
        rw [u2_at, ← elk]
        repeat' (first | (refine ⟨vp_in_nI (by omega) (by omega), ?_⟩) | (with_reducible refine And.intro ?_ ?_) | (with_reducible intro I9 e9; subst e9) | (with_reducible intro q9; try (simp (disch := omega) only [Int32.le_iff_toInt_le, Int32.lt_iff_toInt_lt, ← Int32.toInt_inj, nI_toInt, t_bq, t_pc8, t_bel, t_mI, t_ite, t_dec, sm_t, Int32.reduceToInt, t_m1, t_0, t_1, t_2, t_3, t_8, Int.natCast_eq_zero, Int.ofNat_le, Int.ofNat_lt, Int.ofNat_inj, not_true_eq_false, not_false_eq_true, forall_const] at q9); try (exfalso; omega)))
        · have hk0 : lf k ≠ 0 := by omega
          have hm0 : s 0 k ≠ 0 := fun z => by apply hk0; rw [elk]; simp [lsn, z]
          rw [show mI (lf k) = nI (lf k - 1) by simp [mI, hk0]]
          have f3 : FrY o1 I1 (u2 I2 34 k (nI (lf k - 1))) := fun a h1 h2 h3 h4 h5 => by rw [u2_row h3]; exact hf2 a h1 h2
          refine s_beliefTaken ho1 (hC1.Y ho1 f3) (hs1.kept (fun a h1 h2 => by rw [u2_row (by omega)]; exact hf2 a (by omega) (by omega))) (by omega) hm0 (hm k (by omega)) (by omega) (fun I3 hf3 => ?_)
          have e3 : u2 I3 35 k (nI (tkn sc L s k (lf k - 1))) = u2 (u2 (fun a => if a = 34 then I2 34 else I3 a) 34 k (nI (lf k - 1))) 35 k (nI (tkn sc L s k (lf k - 1))) := by
            funext a j
            by_cases ea : a = 34
            · subst ea
              rw [u2_o (by omega), u2_o (by omega), hf3 34 (by omega) (by omega)]
              simp [u2]
            · by_cases eb : a = 35
              · subst eb
                simp [u2]
              · simp [u2, ea, eb]
          rw [e3]
          refine next _ _ _ (fun a h1 h2 => ?_) (by simp [mI, hk0]) (fun _ => by rw [etf, elk])
          by_cases ea : a = 34
          · subst ea; simp [hf2 34 (by omega) (by omega)]
          · simp only [ea, if_false]; rw [hf3 a h1 h2, u2_row ea]; exact hf2 a h1 h2
        · exact next I2 _ _ hf2 rfl (fun z => absurd (by omega) z)
      · rw [ea]
        refine ⟨fun q => absurd q (by decide), fun _ => ⟨vp_in_nI (by omega) (by omega), ?_⟩⟩
        rintro _ rfl
        rw [u2_at]
        have elk : lf k = 0 := by rw [elf, ea]; simp
        refine ⟨fun q => absurd rfl q, fun _ => ?_⟩
        exact next I1 _ _ (fun _ _ _ => rfl) (by rw [elk]; rfl) (fun z => absurd elk z)
  refine Cal.of (by decide) (Nat.le_of_ble_eq_true rfl) (bX1_runYear_0 ho1 ?_)
  exact l1 (sc 0 1) 0 I (by omega) hs (fun _ _ _ _ _ _ => rfl) (fun j hj => absurd hj (by omega))
end SP

/-! nameDoctors, runYear -/
section SP
variable {d : Nat} {I : Ii} {J : Jj} {sc s : Sx} {L : Nat → List Nat}
theorem dcs_m (q : Nat → Bool) (s : Sx) : ∀ n, (∀ i, i < 4 → dcs q s n i = s i) ∧ dcs q s n 4 0 = s 4 0 ∧ dcs q s n 4 1 = s 4 1
  | 0 => ⟨fun _ _ => rfl, rfl, rfl⟩
  | n + 1 => by
    have ih := dcs_m q s n
    simp only [dcs]
    split
    · refine ⟨fun i hi => ?_, ?_, ?_⟩
      · rw [kep_0 _ _ _ _ hi]
        funext j
        simp only [up, show ¬ i = 4 by omega, false_and, if_false]
        rw [ih.1 i hi]
      · rw [kep_4 _ _ _ _ (by omega)]; simpa [up] using ih.2.1
      · rw [kep_4 _ _ _ _ (by omega)]; simpa [up] using ih.2.2
    · exact ih
theorem s_nameDoctors {o1 : Nat} {K : KV} (ho1 : z_Ob wX o1 9) (hC : EnC I 3 sc L) (hs : EnS I o1 s) (hm : ∀ k, k < sc 0 1 → s 0 k ≤ sc 0 1) (h : ∀ I', EnS I' o1 (dcs (fun m => nmd s m (sc 0 1)) s (sc 0 1)) → FrS o1 I I' → K I' J) : CalV wX (d + 3) mX1_nameDoctors [.ref 32, .ref o1] I J K := by
  have hP := hC.2.1.2
  have hdis := st_dis ho1
  have h2 : ∀ n k I1, k + n = sc 0 1 → EnS I1 o1 (dcs (fun m => nmd s m (sc 0 1)) s k) → FrS o1 I I1 → GoV wX (d + 2 + 1) mX1_nameDoctors 68 [(0, .ref 32), (1, .ref o1), (2, .int (nI (msk (fun m => nmd s m (sc 0 1)) 8))), (3, .int (nI k))] [] I1 J K := by
    intro n
    induction n with
    | zero =>
      intro k I1 hk hs1 hfr
      have hC1 := hC.Y ho1 hfr.Y
      refine bX1_nameDoctors_68 ho1 ?_
      rw [hC1.2.1.1]
      repeat' (first | (refine ⟨vp_in_nI (by omega) (by omega), ?_⟩) | (with_reducible refine And.intro ?_ ?_) | (with_reducible intro I9 e9; subst e9) | (with_reducible intro q9; try (simp (disch := omega) only [Int32.le_iff_toInt_le, Int32.lt_iff_toInt_lt, ← Int32.toInt_inj, nI_toInt, t_bq, t_pc8, t_bel, t_mI, t_ite, t_dec, sm_t, Int32.reduceToInt, t_m1, t_0, t_1, t_2, t_3, t_8, Int.natCast_eq_zero, Int.ofNat_le, Int.ofNat_lt, Int.ofNat_inj, not_true_eq_false, not_false_eq_true, forall_const] at q9); try (exfalso; omega)))
      obtain rfl : k = sc 0 1 := by omega
      exact h I1 hs1 hfr
    | succ n ih =>
      intro k I1 hk hs1 hfr
      have hC1 := hC.Y ho1 hfr.Y
      refine bX1_nameDoctors_68 ho1 ?_
      rw [hC1.2.1.1]
      repeat' (first | (refine ⟨vp_in_nI (by omega) (by omega), ?_⟩) | (with_reducible refine And.intro ?_ ?_) | (with_reducible intro I9 e9; subst e9) | (with_reducible intro q9; try (simp (disch := omega) only [Int32.le_iff_toInt_le, Int32.lt_iff_toInt_lt, ← Int32.toInt_inj, nI_toInt, t_bq, t_pc8, t_bel, t_mI, t_ite, t_dec, sm_t, Int32.reduceToInt, t_m1, t_0, t_1, t_2, t_3, t_8, Int.natCast_eq_zero, Int.ofNat_le, Int.ofNat_lt, Int.ofNat_inj, not_true_eq_false, not_false_eq_true, forall_const] at q9); try (exfalso; omega)))
      have hl := msk_lt (fun m => nmd s m (sc 0 1)) 8
      refine s_hasBit (by omega) (by omega) ?_
      rw [msk_bq _ 8 k (by omega), hs1.2.2.2.2.2.2.1.1, nI_1]
      by_cases hq : nmd s k (sc 0 1) = true
      · rw [if_pos hq]
        refine ⟨fun q => absurd q (by decide), fun _ => s_hasBit hs1.2.2.2.2.2.2.1.2 (by omega) ?_⟩
        rw [hs1.2.2.2.2.2.2.1.1, k8_set _ hs1.2.2.2.2.2.2.1.2 k (by omega)]
        rcases bq01 (dcs (fun m => nmd s m (sc 0 1)) s k 4 2) k with e | e
        · rw [e]
          refine ⟨fun q => absurd rfl q, fun _ => ?_⟩
          have hb := (k8_bsl _ hs1.2.2.2.2.2.2.1.2 k (by omega)).1
          refine s_keep (b := 2) ho1 (hs1.put4 (k := 2) (Or.inr rfl) hb) (by omega) (by omega) (fun I' h4 hfr4 => ?_)
          refine ih (k + 1) I' (by omega) (by simp only [dcs, hq, e, and_self, if_true]; exact h4) (fun a ha => ?_)
          rw [hfr4 a ha, u2_row (by omega)]
          exact hfr a ha
        · rw [e]
          refine ⟨fun _ => ?_, fun q => absurd q (by decide)⟩
          exact ih (k + 1) I1 (by omega) (by simp only [dcs, e]; simpa using hs1) hfr
      · rw [if_neg hq]
        refine ⟨fun _ => ?_, fun q => absurd rfl q⟩
        exact ih (k + 1) I1 (by omega) (by simp only [dcs, hq]; simpa using hs1) hfr
  have h1 : ∀ n k, k + n = sc 0 1 → GoV wX (d + 2 + 1) mX1_nameDoctors 4 [(0, .ref 32), (1, .ref o1), (2, .int (nI (msk (fun m => nmd s m k) 8))), (3, .int (nI k))] [] I J K := by
    intro n
    induction n with
    | zero =>
      intro k hk
      refine bX1_nameDoctors_4 ho1 ?_
      rw [hC.2.1.1]
      repeat' (first | (refine ⟨vp_in_nI (by omega) (by omega), ?_⟩) | (with_reducible refine And.intro ?_ ?_) | (with_reducible intro I9 e9; subst e9) | (with_reducible intro q9; try (simp (disch := omega) only [Int32.le_iff_toInt_le, Int32.lt_iff_toInt_lt, ← Int32.toInt_inj, nI_toInt, t_bq, t_pc8, t_bel, t_mI, t_ite, t_dec, sm_t, Int32.reduceToInt, t_m1, t_0, t_1, t_2, t_3, t_8, Int.natCast_eq_zero, Int.ofNat_le, Int.ofNat_lt, Int.ofNat_inj, not_true_eq_false, not_false_eq_true, forall_const] at q9); try (exfalso; omega)))
      obtain rfl : k = sc 0 1 := by omega
      exact h2 (sc 0 1) 0 I (by omega) hs (fun _ _ => rfl)
    | succ n ih =>
      intro k hk
      have hl := msk_lt (fun m => nmd s m k) 8
      have same : (bq (s 4 1) k = 0 ∨ s 0 k = 0 ∨ s 0 (s 0 k - 1) = 0) → nI (msk (fun m => nmd s m k) 8) = nI (msk (fun m => nmd s m (k + 1)) 8) := by
        intro hz
        rw [msk_ext (p' := fun m => nmd s m (k + 1))]
        intro i hi
        simp only [nmd]
        have : ¬ (bq (s 4 1) k = 1 ∧ s 0 k ≠ 0 ∧ s 0 (s 0 k - 1) = i + 1) := by omega
        simp only [not_and] at this
        by_cases z1 : bq (s 4 1) k = 1
        · by_cases z2 : s 0 k = 0
          · simp [z2]
          · have := this z1 z2; simp [this]
        · simp [z1]
      refine bX1_nameDoctors_4 ho1 ?_
      rw [hC.2.1.1, hs.2.2.2.2.2.1.1, nI_1]
      repeat' (first | (refine ⟨vp_in_nI (by omega) (by omega), ?_⟩) | (with_reducible refine And.intro ?_ ?_) | (with_reducible intro I9 e9; subst e9) | (with_reducible intro q9; try (simp (disch := omega) only [Int32.le_iff_toInt_le, Int32.lt_iff_toInt_lt, ← Int32.toInt_inj, nI_toInt, t_bq, t_pc8, t_bel, t_mI, t_ite, t_dec, sm_t, Int32.reduceToInt, t_m1, t_0, t_1, t_2, t_3, t_8, Int.natCast_eq_zero, Int.ofNat_le, Int.ofNat_lt, Int.ofNat_inj, not_true_eq_false, not_false_eq_true, forall_const] at q9); try (exfalso; omega)))
      refine s_hasBit hs.2.2.2.2.2.1.2 (by omega) ?_
      rcases bq01 (s 4 1) k with e | e
      · rw [e]
        refine ⟨fun _ => s_isPlace_m1 ⟨fun _ => ?_, fun q => absurd rfl q⟩, fun q => absurd rfl q⟩
        rw [or0, same (Or.inl e)]
        exact ih (k + 1) (by omega)
      · rw [e]
        refine ⟨fun q => absurd q (by decide), fun _ => s_masterOf ho1 hs (by omega) ?_⟩
        by_cases hm0 : s 0 k = 0
        · rw [hm0]
          refine s_masterOf_m1 ho1 (s_isPlace_m1 ⟨fun _ => ?_, fun q => absurd rfl q⟩)
          rw [or0, same (Or.inr (Or.inl hm0))]
          exact ih (k + 1) (by omega)
        · have hmk := hm k (by omega)
          rw [show mI (s 0 k) = nI (s 0 k - 1) by simp [mI, hm0]]
          refine s_masterOf ho1 hs (by omega) ?_
          have hmm := (hs.1 (s 0 k - 1) (by omega)).2
          by_cases hm1 : s 0 (s 0 k - 1) = 0
          · rw [hm1]
            refine s_isPlace_m1 ⟨fun _ => ?_, fun q => absurd rfl q⟩
            rw [or0, same (Or.inr (Or.inr hm1))]
            exact ih (k + 1) (by omega)
          · rw [show mI (s 0 (s 0 k - 1)) = nI (s 0 (s 0 k - 1) - 1) by simp [mI, hm1]]
            refine s_isPlace (by omega) ⟨fun q => absurd q (by decide), fun _ => ?_⟩
            rw [k8_set _ (by omega) _ (by omega), bs_msk (p' := fun m => nmd s m (k + 1)) (by omega)]
            · exact ih (k + 1) (by omega)
            · intro i hi
              simp only [nmd, e, hm0, Bool.or_eq_true, Bool.and_eq_true, decide_eq_true_eq, ne_eq, not_false_eq_true, true_and]
              constructor
              · rintro (z | z)
                · exact Or.inl z
                · exact Or.inr (by omega)
              · rintro (z | z)
                · exact Or.inl z
                · exact Or.inr (by omega)
  refine Cal.of (by decide) (Nat.le_of_ble_eq_true rfl) (bX1_nameDoctors_0 ho1 ?_)
  have := h1 (sc 0 1) 0 (by omega)
  rw [show msk (fun m => nmd s m 0) 8 = 0 by simp [nmd, msk]] at this
  exact this
end SP

/-! Calendar: examine, nameDoctors -/
section SP
variable {d : Nat} {I : Ii} {J : Jj} {sc s : Sx} {L : Nat → List Nat}
theorem s_examine {o1 aw : Nat} {K : KI} (ho1 : z_Ob wX o1 9) (hC : EnC I 3 sc L) (hs : EnS I o1 s) (haw : aw < 256) (hm : ∀ k, k < sc 0 1 → s 0 k ≤ sc 0 1) (h : ∀ I', EnS I' o1 (exs sc L aw s (sc 0 1)) → FrY o1 I I' → K (nI (exn sc L aw s (sc 0 1))) I' J) : CalI wX (d + 3) mX1_examine [.ref 32, .ref o1, .int (nI aw)] I J K := by
  have hP := hC.2.1.2
  have hdis := st_dis ho1
  refine Cal.of (by decide) (Nat.le_of_ble_eq_true rfl) (bX1_examine_0 ho1 ?_)
  have key : ∀ n k I1, k + n = sc 0 1 → EnS I1 o1 (exs sc L aw s k) → FrY o1 I I1 → GoI wX (d + 2 + 1) mX1_examine 5 [(0, .ref 32), (1, .ref o1), (2, .int (nI aw)), (3, .int (nI (exn sc L aw s k))), (4, .int (nI k))] [] I1 J K := by
    intro n
    induction n with
    | zero =>
      intro k I1 hk hs1 hfr
      obtain rfl : k = sc 0 1 := by omega
      refine bX1_examine_5 ho1 ⟨fun _ => h I1 hs1 hfr, fun q => absurd ?_ q⟩
      rw [(hC.Y ho1 hfr).2.1.1]
      exact Int32.le_refl _
    | succ n ih =>
      intro k I1 hk hs1 hfr
      have hC1 := hC.Y ho1 hfr
      generalize ht : exs sc L aw s k = t at hs1
      have hmt : t 0 = s 0 := by rw [← ht]; exact (exs_m sc L aw s k).1
      -- go on: the next state, the next count
      have skip : ∀ I2, sit sc L aw t k = false → EnS I2 o1 t → FrY o1 I1 I2 → GoI wX (d + 2 + 1) mX1_examine 5 [(0, .ref 32), (1, .ref o1), (2, .int (nI aw)), (3, .int (nI (exn sc L aw s k))), (4, .int (nI k + 1))] [] I2 J K := by
        intro I2 hsit h2 hfr2
        have := ih (k + 1) I2 (by omega) (by simp only [exs, ht, ex1, hsit, if_true]; exact h2) (hfr.trans hfr2)
        rw [nI_1]
        simpa [exn, ht, hsit] using this
      have done : ∀ I2 I3, sit sc L aw t k = true → EnS I2 o1 t → FrY o1 I1 I2 → ((mrk sc t k < sc 0 2 → GoI wX (d + 2 + 1) mX1_examine 5 [(0, .ref 32), (1, .ref o1), (2, .int (nI aw)), (3, .int (nI (exn sc L aw s k))), (4, .int (nI k + 1))] [] (u2 I2 (o1 + 4) k (nI (t 3 k - 1))) J K) ∧
          (¬ mrk sc t k < sc 0 2 → I3 = u2 I2 o1 1 (nI (bs (t 4 1) k)) → CalV wX (d + 2) mX9_keep [.ref o1, .int (nI k), .int (nI 1)] I3 J (fun I29 J30 => GoI wX (d + 2 + 1) mX1_examine 5 [(0, .ref 32), (1, .ref o1), (2, .int (nI aw)), (3, .int (nI (exn sc L aw s k) + 1)), (4, .int (nI k + 1))] [] I29 J30 K))) := by
        intro I2 I3 hsit h2 hfr2
        refine ⟨fun hmk => ?_, fun hmk e3 => ?_⟩
        · have hl := (h2.2.2.2.1 k (by omega)).2
          have := ih (k + 1) (u2 I2 (o1 + 4) k (nI (t 3 k - 1))) (by omega) (by simp only [exs, ht, ex1, hsit, hmk, if_true, Bool.true_eq_false, if_false]; exact h2.put ⟨rfl, by omega, by omega⟩) (hfr.trans (hfr2.trans (fun a _ _ _ _ h5 => u2_row (by omega))))
          rw [nI_1]
          simpa [exn, ht, hsit, hmk] using this
        · subst e3
          have hb := (k8_bsl (t 4 1) h2.2.2.2.2.2.1.2 k (by omega)).1
          have h3 := h2.put4 (k := 1) (Or.inl rfl) hb
          refine s_keep ho1 h3 (by omega) (by omega) (fun I' h4 hfr4 => ?_)
          have := ih (k + 1) I' (by omega) (by simp only [exs, ht, ex1, hsit, hmk, if_false, Bool.true_eq_false]; exact h4) (hfr.trans (hfr2.trans (FrY.trans (I1 := u2 I2 o1 1 (nI (bs (t 4 1) k))) (fun a _ _ _ _ h5 => u2_row (by omega)) hfr4.Y)))
          rw [nI_1, nI_1]
          simpa [exn, ht, hsit, hmk] using this
      refine bX1_examine_5 ho1 ⟨fun q => ?_, fun _ => ⟨fun q => absurd ((nI_leI (a := 8) (by decide) (by omega)).mp q) (by omega), fun _ => s_hasBit haw (by omega) ?_⟩⟩
      · rw [hC1.2.1.1] at q
        exact absurd ((nI_leI (by omega) (by omega)).mp q) (by omega)
      rcases bq01 aw k with ea | ea
      case inr =>
        rw [ea]
        exact ⟨fun _ => skip I1 (by simp [sit, ea]) hs1 (fun _ _ _ _ _ _ => rfl), fun q => absurd q (by decide)⟩
      rw [ea]
      refine ⟨fun q => absurd rfl q, fun _ => ?_⟩
      rw [hs1.2.2.2.2.2.1.1]
      refine s_hasBit hs1.2.2.2.2.2.1.2 (by omega) ?_
      rcases bq01 (t 4 1) k with ep | ep
      case inr =>
        rw [ep]
        exact ⟨fun _ => skip I1 (by simp [sit, ep]) hs1 (fun _ _ _ _ _ _ => rfl), fun q => absurd q (by decide)⟩
      rw [ep]
      refine ⟨fun q => absurd rfl q, fun _ => ⟨vp_in_nI (by omega) (by omega), ?_⟩⟩
      have hlk := hs1.2.2.2.1 k (by omega)
      rw [nI_clamp (by omega), hlk.1]
      refine ⟨fun q => ?_, fun q => ?_⟩
      case refine_2 =>
        have : t 3 k = 0 := by
          rcases Nat.eq_zero_or_pos (t 3 k) with z | z
          · exact z
          · exact absurd (nI_lt (a := 0) z (by omega)) q
        exact skip I1 (by simp [sit, this]) hs1 (fun _ _ _ _ _ _ => rfl)
      have hl0 : t 3 k ≠ 0 := fun z => by rw [z] at q; exact absurd q (by decide)
      refine s_marksIn obX_3 ho1 hC1 hs1 (by omega) ?_
      have hkP : k < sc 0 1 := by omega
      have hmk : t 0 k ≤ sc 0 1 := by rw [hmt]; exact hm k hkP
      refine s_fillPerson ho1 hC1 hs1 hkP (fun I16 r16 k16 hsl => ?_)
      rw [c7, c8, r16 (o1 + 4) (by omega), hlk.1]
      have hbm := mrkN_b (sc := sc) (s := t) (p := k) (n := sc 0 0) (fun j hj => (hC.2.2.2.2.2.1 j hj).2.2.2)
      have hbF := hC.1.2
      have hsm : sm (mrk sc t k) := by unfold mrk sm; omega
      generalize hI5 : u2 (u2 I16 33 7 (nI (t 3 k))) 33 8 (iI (mrk sc t k)) = I5
      have r5 : ∀ a, a ≠ 33 → I5 a = I1 a := fun a ha => by rw [← hI5, u2_row ha, u2_row ha]; exact r16 a ha
      have f5 : FrL I1 I5 := fun a _ hb => r5 a hb
      have hC5 := hC1.L f5
      have hs5 := hs1.L ho1 f5
      have hlt : ∀ I9 : Ii, FrL I1 I9 → (iI (mrk sc t k) < I9 3 2 ↔ mrk sc t k < sc 0 2) := fun I9 hf9 => by
        have e := (hC1.L hf9).2.2.1
        rw [e.1, ← iI_n]
        exact iI_lt hsm (by have := e.2; unfold sm; omega)
      have hdec : nI (t 3 k) - 1 = nI (t 3 k - 1) := by
        obtain ⟨m, hm9⟩ : ∃ m, t 3 k = m + 1 := ⟨t 3 k - 1, by omega⟩
        rw [hm9]; exact nI_pred m
      refine s_isTold (k := 2) obX_8 (by omega) (hC5.2.2.2.2.2.2.2.1 2 (by omega)) ⟨fun q2 => ?_, fun q2 => ?_⟩
      · have e : L 2 = [] := by
          by_cases e : L 2 = []
          · exact e
          · rw [if_neg e] at q2; exact absurd q2 (by decide)
        have hsit : sit sc L aw t k = true := by simp [sit, ea, ep, hl0, e]
        have hd := done I5 (u2 I5 o1 1 (nI (bs (t 4 1) k))) hsit hs5 f5.Y
        rw [hlt I5 f5, (hs5.2.2.2.1 k (by omega)).1, hdec, hs5.2.2.2.2.2.1.1, k8_set _ hs5.2.2.2.2.2.1.2 k (by omega)]
        exact ⟨hd.1, fun q3 => hd.2 q3 rfl⟩
      · have e : L 2 ≠ [] := fun e => by rw [if_pos e] at q2; exact absurd rfl q2
        refine s_lawS hC5 hs5 hkP hmk e (fun j hj f' => by rw [← hI5, u2_k (by omega), u2_k (by omega)]; exact hsl j hj f') (by rw [← hI5, u2_k (by omega), u2_at]) (by rw [← hI5, u2_at]) (fun v I6 hv hh hfr6 => ?_)
        have f6 : FrL I1 I6 := fun a ha hb => by rw [hfr6 a ha]; exact f5 a ha hb
        have hs6 := hs1.L ho1 f6
        refine ⟨fun q3 => ?_, fun q3 => ?_⟩
        · have hv1 : v = 1 := by
            rcases hv with rfl | rfl
            · exact absurd rfl q3
            · rfl
          have hsit : sit sc L aw t k = true := by simp [sit, ea, ep, hl0, hh, hv1]
          have hd := done I6 (u2 I6 o1 1 (nI (bs (t 4 1) k))) hsit hs6 f6.Y
          rw [hlt I6 f6, (hs6.2.2.2.1 k (by omega)).1, hdec, hs6.2.2.2.2.2.1.1, k8_set _ hs6.2.2.2.2.2.1.2 k (by omega)]
          exact ⟨hd.1, fun q4 => hd.2 q4 rfl⟩
        · have hv0 : v = 0 := by
            rcases hv with rfl | rfl
            · rfl
            · exact absurd q3 (by decide)
          exact skip I6 (by simp [sit, e, hh, hv0]) hs6 f6.Y
  exact key (sc 0 1) 0 I (by omega) hs (fun _ _ _ _ _ _ => rfl)
end SP

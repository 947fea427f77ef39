/-! the reference's face: acts -/
theorem EnK.ext {R R' : Nat → Int32} {s : Sx} (h : EnK R s) (h30 : s 4 3 ≤ 30) (hr : ∀ k, 41 ≤ k → k < 132 → R' k = R k) : EnK R' s := by
  refine ⟨by rw [hr 41 (by omega) (by omega)]; exact h.1, fun k hk => ?_⟩
  rw [hr _ (by omega) (by omega), hr _ (by omega) (by omega), hr _ (by omega) (by omega)]
  exact h.2 k hk
section MB
variable {d : Nat} {I I' : Ii} {J J' : Jj} {sc s g g' : Sx} {L : Nat → List Nat} {ps : Nat → Sx} {p f : Nat}
theorem EnM.re (hM : EnM I J sc L s ps g) (hk : ∀ a, a ≠ 0 → a ≠ 1 → a ≠ 2 → a ≠ 46 → a ≠ 78 → I' a = I a) (h58 : I' 0 58 = I 0 58) (h65 : I' 0 65 = I 0 65) (h66 : I' 0 66 = I 0 66) (hj : J' 32 = J 32) (g6 : g' 0 6 = g 0 6) (hT : EnMT I' g') (hR : EnMR I' sc g') (hf : I' 0 7 = nI (g' 0 1) ∧ I' 0 8 = mI (g' 0 2)) (hr : ∀ k, k < 6 → I' 2 k = nI (g' 2 k)) (hi : EnMI I' g') (hd : J' 0 67 = lN (g' 0 5) ∧ g' 0 5 < 2 ^ 31) : EnM I' J' sc L s ps g' := by
  obtain ⟨h1, h2, h3, h4, h5, h6, h7, h8, h9, h10, h11, h12, h13⟩ := hM
  refine ⟨h1.kept (fun a ha => hk a (by omega) (by omega) (by omega) (by omega) (by omega)) hj, h2.row (hk 42 (by omega) (by omega) (by omega) (by omega) (by omega)), h3, by rw [hk 42 (by omega) (by omega) (by omega) (by omega) (by omega)]; exact h4, h58.trans h5, hT, hR, hf, hr, hi, hd, ?_, fun a ha k hk' => ?_⟩
  · unfold EnU; rw [h65, h66, g6, hk 49 (by omega) (by omega) (by omega) (by omega) (by omega)]; exact h12
  · rw [hk a (by omega) (by omega) (by omega) (by omega) (by omega)]; exact h13 a ha k hk'
/-- one more refused -/
theorem EnM.rfu (hM : EnM I J sc L s ps g) (k : Nat) (hk : k < 6) : EnM (u2 I 2 k (I 2 k + 1)) J sc L s ps (rf g k) := by
  obtain ⟨h1, h2, h3, h4, h5, h6, h7, h8, h9, h10, h11, h12, h13⟩ := id hM
  have e : ∀ i j, i ≠ 2 → rf g k i j = g i j := fun i j hi => by simp [rf, up, hi]
  refine hM.re (fun a _ _ z _ _ => u2_row z) (by rw [u2_row (by omega)]) (by rw [u2_row (by omega)]) (by rw [u2_row (by omega)]) rfl (e 0 6 (by omega)) ?_ ?_ ?_ (fun j hj => ?_) ?_ ?_
  · unfold EnMT; rw [u2_row (by omega), u2_row (by omega), e 0 0 (by omega)]
    refine ⟨h6.1, fun j hj => ?_⟩
    rw [e 1 j (by omega)]; exact h6.2 j hj
  · unfold EnMR; rw [u2_row (by omega), u2_row (by omega), e 0 3 (by omega)]
    refine ⟨h7.1, fun j hj => ?_⟩
    rw [e 4 _ (by omega), e 4 _ (by omega)]; exact h7.2 j hj
  · rw [u2_row (by omega), e 0 1 (by omega), e 0 2 (by omega)]; exact h8
  · by_cases z : j = k
    · subst z; rw [u2_at, h9 j hj, nI_1]; simp [rf, up]
    · rw [u2_k z]; simp only [rf, up, z, and_false, if_false]; exact h9 j hj
  · unfold EnMI; rw [u2_row (by omega), u2_row (by omega), e 0 4 (by omega)]
    refine ⟨h10.1, fun j hj => ?_⟩
    rw [e 3 j (by omega)]; exact h10.2 j hj
  · rw [e 0 5 (by omega)]; exact h11
/-- the tape ends at n -/
theorem EnM.cut (hM : EnM I J sc L s ps g) {n : Nat} (hn : n ≤ g 0 0) : EnM (u2 I 0 1 (nI n)) J sc L s ps (up g 0 0 n) := by
  obtain ⟨h1, h2, h3, h4, h5, h6, h7, h8, h9, h10, h11, h12, h13⟩ := id hM
  refine hM.re (fun a z _ _ _ _ => u2_row z) (u2_k (by omega)) (u2_k (by omega)) (u2_k (by omega)) rfl (by simp [up]) ?_ ?_ ?_ (fun j hj => ?_) ?_ ?_
  · refine ⟨⟨by rw [u2_at]; simp [up], by have := h6.1.2; simp [up]; omega⟩, fun j hj => ?_⟩
    have hj' : j < n := by simpa [up] using hj
    rw [u2_row (by omega)]
    have := h6.2 j (by omega)
    simpa [up] using this
  · unfold EnMR; rw [u2_k (by omega), u2_row (by omega)]; simpa [up, EnMR] using h7
  · rw [u2_k (by omega), u2_k (by omega)]; simpa [up] using h8
  · rw [u2_row (by omega)]; simpa [up] using h9 j hj
  · unfold EnMI; rw [u2_k (by omega), u2_row (by omega)]; simpa [up, EnMI] using h10
  · simpa [up] using h11
theorem EnM.ap (hM : EnM I J sc L s ps g) {b : Nat} (hb : b < 256) (hn : g 0 0 < 1600) : EnM (u2 (u2 I 1 (g 0 0) (nI b)) 0 1 (nI (g 0 0 + 1))) J sc L s ps (ap1 g b) := by
  obtain ⟨h1, h2, h3, h4, h5, h6, h7, h8, h9, h10, h11, h12, h13⟩ := id hM
  refine hM.re (fun a z z1 _ _ _ => by rw [u2_row z, u2_row z1]) (by rw [u2_k (by omega), u2_row (by omega)]) (by rw [u2_k (by omega), u2_row (by omega)]) (by rw [u2_k (by omega), u2_row (by omega)]) rfl (by simp [ap1, up]) ?_ ?_ ?_ (fun j hj => ?_) ?_ ?_
  · refine ⟨⟨by rw [u2_at]; simp [ap1, up], by simp [ap1, up]; omega⟩, fun j hj => ?_⟩
    have hj' : j < g 0 0 + 1 := by simpa [ap1, up] using hj
    rw [u2_row (by omega)]
    by_cases z : j = g 0 0
    · subst z; rw [u2_at]; simp [ap1, up]; exact hb
    · rw [u2_k z]
      have := h6.2 j (by omega)
      simpa [ap1, up, z] using this
  · unfold EnMR; rw [u2_k (by omega), u2_row (by omega), u2_row (by omega), u2_row (by omega)]; simpa [ap1, up, EnMR] using h7
  · simpa [ap1, up, u2] using h8
  · rw [u2_row (by omega), u2_row (by omega)]; simpa [ap1, up] using h9 j hj
  · unfold EnMI; rw [u2_k (by omega), u2_row (by omega), u2_row (by omega), u2_row (by omega)]; simpa [ap1, up, EnMI] using h10
  · simpa [ap1, up] using h11
def shI (j : Nat) : Int32 := if j = 0 then 24 else if j = 1 then 16 else if j = 2 then 8 else 0
theorem shI_ok : ∀ k, k < 20 → (8 : Int32) * (3 - (nI k - nI k / 4 * 4)) = shI (k % 4) := by decide +kernel
def wk5 (a b c e f : Int32) (k : Nat) : Int32 := if k < 4 then a else if k < 8 then b else if k < 12 then c else if k < 16 then e else f
theorem y_feed {a b c e f : Int32} {K : KI} (hM : EnM I J sc L s ps g) (h : ∀ I', EnM I' J sc L s ps (g_feed g a b c e f) → K (r_feed g) I' J) : CalI wM d mX13_feed [.ref 0, .int a, .int b, .int c, .int e, .int f] I J K := by
  have hT := hM.2.2.2.2.2.1
  have h16 := hT.1.2
  have step : ∀ k g1 I1, k < 20 → EnM I1 J sc L s ps g1 → g1 0 0 < 1600 → (∀ I2, EnM I2 J sc L s ps (ap1 g1 (by4 (wk5 a b c e f k) (shI (k % 4)))) → GoI wM d mX13_feed 28 [(0, .ref 0), (1, .int a), (2, .int b), (3, .int c), (4, .int e), (5, .int f), (6, .int (nI (k + 1)))] [] I2 J K) → GoI wM d mX13_feed 28 [(0, .ref 0), (1, .int a), (2, .int b), (3, .int c), (4, .int e), (5, .int f), (6, .int (nI k))] [] I1 J K := by
    intro k g1 I1 hk hM1 hn hK
    have hT1 := hM1.2.2.2.2.2.1
    have go : ∀ w : Int32, wk5 a b c e f k = w → vp_in (I1 0 1) 1600 ∧ (∀ I7 : Ii, I7 = u2 I1 1 (I1 0 1).toNatClampNeg ((w >>> ((8 * (3 - (nI k - nI k / 4 * 4))) &&& 31)) &&& 255) → GoI wM d mX13_feed 28 [(0, .ref 0), (1, .int a), (2, .int b), (3, .int c), (4, .int e), (5, .int f), (6, .int (nI k + 1))] [] (u2 I7 0 1 ((I7 0 1) + 1)) J K) := by
      intro w ew
      rw [hT1.1.1, nI_clamp (by omega), shI_ok k hk, by4_eq, nI_1]
      refine ⟨vp_in_nI hn (by omega), ?_⟩
      rintro _ rfl
      rw [u2_row (by omega), hT1.1.1, nI_1]
      rw [ew] at hK
      exact hK _ (hM1.ap (by4_lt _ _) hn)
    refine bX13_feed_28 ⟨fun q => absurd ((nI_leI (a := 20) (by decide) (by omega)).mp q) (by omega), fun _ => ⟨fun q4 => ⟨fun q8 => ⟨fun q12 => ⟨fun q16 => ?_, fun q16 => ?_⟩, fun q12 => ?_⟩, fun q8 => ?_⟩, fun q4 => ?_⟩⟩
    · have := (nI_leI (a := 16) (by decide) (by omega)).mp q16
      exact go f (by unfold wk5; rw [if_neg (by omega), if_neg (by omega), if_neg (by omega), if_neg (by omega)])
    · have h1 := (nI_leI (a := 12) (by decide) (by omega)).mp q12
      have h2 : ¬ 16 ≤ k := fun z => q16 (nI_le (a := 16) z (by omega))
      exact go e (by unfold wk5; rw [if_neg (by omega), if_neg (by omega), if_neg (by omega), if_pos (by omega)])
    · have h1 := (nI_leI (a := 8) (by decide) (by omega)).mp q8
      have h2 : ¬ 12 ≤ k := fun z => q12 (nI_le (a := 12) z (by omega))
      exact go c (by unfold wk5; rw [if_neg (by omega), if_neg (by omega), if_pos (by omega)])
    · have h1 := (nI_leI (a := 4) (by decide) (by omega)).mp q4
      have h2 : ¬ 8 ≤ k := fun z => q8 (nI_le (a := 8) z (by omega))
      exact go b (by unfold wk5; rw [if_neg (by omega), if_pos (by omega)])
    · have h2 : ¬ 4 ≤ k := fun z => q4 (nI_le (a := 4) z (by omega))
      exact go a (by unfold wk5; rw [if_pos (by omega)])
  unfold g_feed r_feed at h
  refine Cal.of (by decide) (Nat.le_of_ble_eq_true rfl) (bX13_feed_0 ?_)
  rw [hT.1.1, show (20 : Int32) = nI 20 from rfl, nI_add]
  refine ⟨fun q => ?_, fun q => ?_⟩
  · have hq := (nI_leI (b := 1600) (by omega) (by decide)).mp q
    rw [if_pos hq, if_pos hq] at h
    refine step 0 g I (by omega) hM (by omega) (fun I1 h1 => ?_)
    refine step 1 _ I1 (by omega) h1 (by simp only [ap1_0]; omega) (fun I1 h1 => ?_)
    refine step 2 _ I1 (by omega) h1 (by simp only [ap1_0]; omega) (fun I1 h1 => ?_)
    refine step 3 _ I1 (by omega) h1 (by simp only [ap1_0]; omega) (fun I1 h1 => ?_)
    refine step 4 _ I1 (by omega) h1 (by simp only [ap1_0]; omega) (fun I1 h1 => ?_)
    refine step 5 _ I1 (by omega) h1 (by simp only [ap1_0]; omega) (fun I1 h1 => ?_)
    refine step 6 _ I1 (by omega) h1 (by simp only [ap1_0]; omega) (fun I1 h1 => ?_)
    refine step 7 _ I1 (by omega) h1 (by simp only [ap1_0]; omega) (fun I1 h1 => ?_)
    refine step 8 _ I1 (by omega) h1 (by simp only [ap1_0]; omega) (fun I1 h1 => ?_)
    refine step 9 _ I1 (by omega) h1 (by simp only [ap1_0]; omega) (fun I1 h1 => ?_)
    refine step 10 _ I1 (by omega) h1 (by simp only [ap1_0]; omega) (fun I1 h1 => ?_)
    refine step 11 _ I1 (by omega) h1 (by simp only [ap1_0]; omega) (fun I1 h1 => ?_)
    refine step 12 _ I1 (by omega) h1 (by simp only [ap1_0]; omega) (fun I1 h1 => ?_)
    refine step 13 _ I1 (by omega) h1 (by simp only [ap1_0]; omega) (fun I1 h1 => ?_)
    refine step 14 _ I1 (by omega) h1 (by simp only [ap1_0]; omega) (fun I1 h1 => ?_)
    refine step 15 _ I1 (by omega) h1 (by simp only [ap1_0]; omega) (fun I1 h1 => ?_)
    refine step 16 _ I1 (by omega) h1 (by simp only [ap1_0]; omega) (fun I1 h1 => ?_)
    refine step 17 _ I1 (by omega) h1 (by simp only [ap1_0]; omega) (fun I1 h1 => ?_)
    refine step 18 _ I1 (by omega) h1 (by simp only [ap1_0]; omega) (fun I1 h1 => ?_)
    refine step 19 _ I1 (by omega) h1 (by simp only [ap1_0]; omega) (fun I1 h1 => ?_)
    refine bX13_feed_28 ⟨fun _ => ?_, fun q => absurd (by decide) q⟩
    have e0 := h1.2.2.2.2.2.1.1.1
    simp only [ap1_0] at e0
    rw [e0]
    exact h I1 h1
  · have hq : ¬ g 0 0 + 20 ≤ 1600 := fun z => q (nI_le (b := 1600) z (by decide))
    rw [if_neg hq, if_neg hq] at h
    exact h _ (hM.rfu 0 (by omega))
theorem y_end {v : Int32} {K : KI} (hM : EnM I J sc L s ps g) (h : ∀ I', EnM I' J sc L s ps (g_end g v) → K (b01 (isin v (g 0 0 + 1))) I' J) : CalI wM d mX13_end [.ref 0, .int v] I J K := by
  have hT := hM.2.2.2.2.2.1
  have h16 := hT.1.2
  unfold g_end at h
  refine Cal.of (by decide) (Nat.le_of_ble_eq_true rfl) (bX13_end_0 ?_)
  rw [hT.1.1]
  rcases i32_cases v with hv | ⟨j, hj, rfl⟩
  · rw [isin_neg hv] at h
    exact ⟨fun _ => h _ (hM.rfu 0 (by omega)), fun q => absurd hv q⟩
  · rw [isin_nI hj, idx_nI hj] at h
    refine ⟨fun q => absurd q (nI_pos hj), fun _ => ⟨fun q => ?_, fun q => ?_⟩⟩
    · have := (nI_leI hj (by omega)).mp q
      rw [decide_eq_true (by omega), if_pos rfl] at h
      exact h _ (hM.cut (by omega))
    · have : ¬ j ≤ g 0 0 := fun z => q (nI_le z (by omega))
      rw [decide_eq_false (by omega), if_neg (by decide)] at h
      exact h _ (hM.rfu 0 (by omega))
theorem y_seed {v : Int32} {K : KI} (hM : EnM I J sc L s ps g) (h : ∀ I' J', EnM I' J' sc L s ps (g_seed g v) → K (b01 (decide (0 ≤ v))) I' J') : CalI wM d mX13_seed [.ref 0, .int v] I J K := by
  refine Cal.of (by decide) (Nat.le_of_ble_eq_true rfl) (bX13_seed_0 ⟨fun q => ?_, fun q => ?_⟩)
  · rw [g_seed, if_pos q, decide_eq_true q] at h
    have q' : 0 ≤ v.toInt := by rw [Int32.le_iff_toInt_le, t_0] at q; exact q
    have hv := nI_idx q'
    have hb := Int32.toInt_lt v
    have hl : idx v < 2 ^ 31 := by unfold idx; omega
    generalize idx v = j at *
    subst hv
    rw [nI_l hl]
    obtain ⟨h1, h2, h3, h4, h5, h6, h7, h8, h9, h10, h11, h12, h13⟩ := id hM
    refine h _ _ (hM.re (fun _ _ _ _ _ _ => rfl) rfl rfl rfl ?_ (by simp [up]) ?_ ?_ ?_ (fun k hk => ?_) ?_ ⟨?_, ?_⟩)
    · funext k; rw [w2_o (by omega)]
    · simpa [up, EnMT] using h6
    · simpa [up, EnMR] using h7
    · simpa [up] using h8
    · simpa [up] using h9 k hk
    · simpa [up, EnMI] using h10
    · rw [w2_at]; simp [up]
    · simp [up]; exact hl
  · rw [g_seed, if_neg q, decide_eq_false q] at h
    exact h _ _ (hM.rfu 5 (by omega))
theorem y_hear {K : KI} (hM : EnM I J sc L s ps g) (h : ∀ I' J', EnM I' J' sc L s ps (g_hear sc g) → K (r_hear sc g) I' J') : CalI wM (d + 2) mX13_hear [.ref 0] I J K := by
  have hT := hM.2.2.2.2.2.1
  have h16 := hT.1.2
  have hC := hM.1
  have hP := hC.2.1.2
  have hM0 : EnM (u2 I 0 1 0) J sc L s ps (up g 0 0 0) := hM.cut (n := 0) (by omega)
  have hC0 := hM0.1
  have c2 : Int32.ofInt 2 = 2 := by decide
  -- all is well up to k
  have bad : hrk sc g = false → ∀ (I1 : Ii), I1 = u2 I 0 1 0 → K (-1) (u2 I1 2 (1 : Int32).toNatClampNeg (I1 2 (1 : Int32).toNatClampNeg + 1)) J := by
    rintro e _ rfl
    unfold g_hear r_hear at h
    rw [if_neg (by simp [e]), if_neg (by simp [e])] at h
    exact h _ _ (hM0.rfu 1 (by omega))
  have last : hrk sc g = true → ∀ e k (I1 : Ii), k + e = g 0 0 → (∀ a, a ≠ 46 → I1 a = u2 I 0 1 0 a) → (∀ j, j < k → I1 46 j = nI (g 1 j)) → GoI wM (d + 1 + 1) mX13_hear 100 [(0, .ref 0), (1, .int (nI (g 0 0))), (3, .int (nI k))] [] I1 J K := by
    intro hr e
    unfold g_hear r_hear at h
    rw [if_pos hr, if_pos hr] at h
    have hr' := hr
    unfold hrk at hr'
    simp only [Bool.and_eq_true, decide_eq_true_eq] at hr'
    obtain ⟨⟨⟨r1, r2⟩, r3⟩, r4⟩ := hr'
    induction e with
    | zero =>
      intro k I1 hk hr1 hj
      obtain rfl : k = g 0 0 := by omega
      refine bX13_hear_100 ⟨fun _ => ?_, fun q => absurd (nI_le (Nat.le_refl _) (by omega)) q⟩
      rintro _ rfl
      rw [show (2 : Int32) = nI 2 from rfl, pk_div (by omega) (by omega) (by omega), u2_at]
      obtain ⟨h1, h2, h3, h4, h5, h6, h7, h8, h9, h10, h11, h12, h13⟩ := id hM0
      refine h _ _ (hM0.re (fun a z0 z1 z2 z3 z4 => ?_) ?_ ?_ ?_ rfl (by simp [hrg, up]) ?_ ?_ ?_ (fun k hk => ?_) ?_ ?_)
      · rw [u2_row z0, hr1 a z3]
      · rw [u2_k (by omega), hr1 0 (by omega)]
      · rw [u2_k (by omega), hr1 0 (by omega)]
      · rw [u2_k (by omega), hr1 0 (by omega)]
      · refine ⟨⟨?_, by simp [hrg, up]⟩, fun j hj' => absurd hj' (by simp [hrg, up])⟩
        rw [u2_k (by omega), hr1 0 (by omega)]; simp [hrg, up, u2]; rfl
      · refine ⟨⟨?_, ?_⟩, fun j hj' => ?_⟩
        · rw [u2_at]; simp [hrg, up]
        · simp [hrg, up]; omega
        · have hj2 : j < g 0 0 / 2 := by simpa [hrg, up] using hj'
          have hat := hrN_at r4 hj2
          rw [u2_row (by omega), hj _ (by omega), hj _ (by omega)]
          simp only [hrg, up]
          simpa using hat
      · rw [u2_k (by omega), u2_k (by omega), hr1 0 (by omega)]; simpa [hrg, up] using h8
      · rw [u2_row (by omega), hr1 2 (by omega)]; simpa [hrg, up] using h9 k hk
      · unfold EnMI; rw [u2_k (by omega), u2_row (by omega), hr1 0 (by omega), hr1 78 (by omega)]; simpa [hrg, up, EnMI] using h10
      · simpa [hrg, up] using h11
    | succ e ih =>
      intro k I1 hk hr1 hj
      refine bX13_hear_100 ⟨fun q => absurd ((nI_leI (by omega) (by omega)).mp q) (by omega), fun _ => ?_⟩
      rw [nI_clamp (by omega), nI_1, hr1 1 (by omega), u2_row (by omega), (hT.2 k (by omega)).1]
      refine ⟨vp_in_nI (by omega) (by omega), vp_in_nI (by omega) (by omega), ih (k + 1) _ (by omega) (fun a ha => by rw [u2_row ha]; exact hr1 a ha) (fun j hj' => ?_)⟩
      by_cases z : j = k
      · rw [z, u2_at]
      · rw [u2_k z]; exact hj j (by omega)
  have loop : ∀ e k, k + e = g 0 0 / 2 → g 0 0 % 2 = 0 → 1 ≤ g 0 0 / 2 → g 0 0 / 2 ≤ 16 → hrN sc g k = true → GoI wM (d + 1 + 1) mX13_hear 36 [(0, .ref 0), (1, .int (nI (g 0 0))), (2, .int 1), (3, .int (nI (2 * k)))] [] (u2 I 0 1 0) J K := by
    intro e
    induction e with
    | zero =>
      intro k hk r1 r2 r3 hr
      have hk2 : 2 * k = g 0 0 := by omega
      have hrk1 : hrk sc g = true := by
        unfold hrk
        rw [← (show k = g 0 0 / 2 by omega)]
        simp only [Bool.and_eq_true, decide_eq_true_eq]
        exact ⟨⟨⟨r1, by omega⟩, by omega⟩, hr⟩
      refine bX13_hear_36 ⟨fun _ => ⟨fun _ => last hrk1 (g 0 0) 0 _ (by omega) (fun _ _ => rfl) (fun j hj => absurd hj (by omega)), fun q => absurd q (by decide)⟩, fun q => absurd (nI_le (by omega) (by omega)) q⟩
    | succ e ih =>
      intro k hk r1 r2 r3 hr
      have hb1 := hT.2 (2 * k) (by omega)
      have hb2 := hT.2 (2 * k + 1) (by omega)
      have no : hrN sc g (k + 1) = false → GoI wM (d + 1 + 1) mX13_hear 36 [(0, .ref 0), (1, .int (nI (g 0 0))), (2, .int 0), (3, .int (nI (2 * k) + Int32.ofInt 2))] [] (u2 I 0 1 0) J K := fun z => by
        have hrk0 : hrk sc g = false := by
          unfold hrk
          have := hrN_no z e
          rw [show k + 1 + e = g 0 0 / 2 by omega] at this
          rw [this]; simp
        exact bX13_hear_36 ⟨fun _ => ⟨fun q => absurd rfl q, fun _ => bad hrk0 _ rfl⟩, fun _ => ⟨fun _ => bad hrk0 _ rfl, fun q => absurd rfl q⟩⟩
      refine bX13_hear_36 ⟨fun q => absurd ((nI_leI (by omega) (by omega)).mp q) (by omega), fun _ => ⟨fun q => absurd q (by decide), fun _ => ⟨vp_in_nI (by omega) (by omega), ?_⟩⟩⟩
      rw [nI_clamp (by omega), u2_row (by omega), hb1.1]
      refine m_isPerson (d := d) hC0 ?_
      rw [isin_nI (by omega), nI_1, nI_clamp (by omega), u2_row (by omega), hb2.1]
      by_cases z1 : g 1 (2 * k) < sc 0 1
      · rw [decide_eq_true z1]
        refine ⟨fun q => absurd q (by decide), fun _ => ⟨vp_in_nI (by omega) (by omega), fun q => ?_, fun q => ?_⟩⟩
        · have := (nI_leI (a := 3) (by decide) (by omega)).mp q
          exact no (by simp [hrN, z1]; omega)
        · have : ¬ 3 ≤ g 1 (2 * k + 1) := fun z => q (nI_le (a := 3) z (by omega))
          rw [c2, nI_2]
          have := ih (k + 1) (by omega) r1 r2 r3 (by simp [hrN, hr, z1]; omega)
          rw [show 2 * (k + 1) = 2 * k + 2 by omega] at this
          exact this
      · rw [decide_eq_false z1]
        exact ⟨fun _ => no (by simp [hrN, z1]), fun q => absurd rfl q⟩
  have none : hrk sc g = false → GoI wM (d + 1 + 1) mX13_hear 36 [(0, .ref 0), (1, .int (nI (g 0 0))), (2, .int 0), (3, .int 0)] [] (u2 I 0 1 0) J K := fun e =>
    bX13_hear_36 ⟨fun _ => ⟨fun q => absurd rfl q, fun _ => bad e _ rfl⟩, fun _ => ⟨fun _ => bad e _ rfl, fun q => absurd rfl q⟩⟩
  refine Cal.of (by decide) (Nat.le_of_ble_eq_true rfl) (bX13_hear_0 ?_)
  rintro _ rfl
  rw [hT.1.1, show (2 : Int32) = nI 2 from rfl, pk_rem (by omega) (by omega) (by omega), pk_div (by omega) (by omega) (by omega)]
  refine ⟨fun q => none ?_, fun q => ⟨fun q2 => none ?_, fun q2 => ⟨fun q3 => none ?_, fun q3 => ?_⟩⟩⟩
  · have := (nI_leI (b := 0) (by omega) (by decide)).mp q
    unfold hrk; simp; intros; omega
  · have : g 0 0 % 2 ≠ 0 := fun z => q2 (by rw [z]; rfl)
    unfold hrk; simp [this]
  · have := (nI_ltI (a := 16) (by decide) (by omega)).mp q3
    unfold hrk; simp; intros; omega
  · have h1 : g 0 0 ≠ 0 := fun z => q (by rw [z]; exact nI_le (Nat.le_refl _) (by decide))
    have h2 : g 0 0 % 2 = 0 := (nI_eq (b := 0) (by omega) (by decide)).mp q2
    have h3 : ¬ 16 < g 0 0 / 2 := fun z => q3 (nI_lt (a := 16) z (by omega))
    exact loop (g 0 0 / 2) 0 (by omega) h2 (by omega) (by omega) rfl
end MB

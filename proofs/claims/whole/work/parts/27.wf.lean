/-! well-formed states -/
def WFS (sc s : Sx) : Prop :=
  (∀ k, k < 8 → s 0 k ≤ sc 0 1 ∧ s 1 k < 2 ^ sc 0 0 ∧ s 2 k < 2 ^ sc 0 0 ∧ (∀ f, f < 8 → ¬ (bq (s 1 k) f = 1 ∧ bq (s 2 k) f = 1)) ∧ s 3 k ≤ 9 ∧ (sc 0 1 ≤ k → s 0 k = 0 ∧ s 1 k = 0 ∧ s 2 k = 0)) ∧ s 4 1 < 2 ^ sc 0 1 ∧ s 4 2 < 2 ^ sc 0 1 ∧ s 4 3 ≤ 30
theorem k8_bsF : ∀ n, n < 256 → ∀ F, F < 9 → ∀ j, j < 8 → n < 2 ^ F → j < F → bs n j < 2 ^ F := by decide +kernel
theorem bz_le (n j : Nat) : bz n j ≤ n := by
  unfold bz
  split
  · exact Nat.sub_le _ _
  · exact Nat.le_refl _
theorem p2_8 {F : Nat} (h : F ≤ 8) : 2 ^ F ≤ 256 := Nat.pow_le_pow_right (by omega) (show F ≤ 8 from h)
theorem bsF {n F j : Nat} (hF : F ≤ 8) (hn : n < 2 ^ F) (hj : j < F) : bs n j < 2 ^ F := k8_bsF n (by have := p2_8 hF; omega) F (by omega) j (by omega) hn hj
theorem blv_WFS {sc s : Sx} {p f b : Nat} (hF : sc 0 0 ≤ 8) (hP : sc 0 1 ≤ 8) (h : WFS sc s) (hp : p < sc 0 1) (hf : f < sc 0 0) : WFS sc (blv s p f b) := by
  have m0 := blv_m s p f b 0 (by omega) (by omega)
  have m3 := blv_m s p f b 3 (by omega) (by omega)
  have m4 := blv_m s p f b 4 (by omega) (by omega)
  have h8 := p2_8 hF
  refine ⟨fun k hk => ?_, by rw [m4]; exact h.2.1, by rw [m4]; exact h.2.2.1, by rw [m4]; exact h.2.2.2⟩
  have hk' := h.1 k hk
  rw [m0, m3]
  by_cases e : k = p
  · subst e
    have l1 : bz (s 1 k) f < 2 ^ sc 0 0 := Nat.lt_of_le_of_lt (bz_le _ _) hk'.2.1
    have l2 : bz (s 2 k) f < 2 ^ sc 0 0 := Nat.lt_of_le_of_lt (bz_le _ _) hk'.2.2.1
    have e1 : blv s k f b 1 k = if b = 1 then bs (bz (s 1 k) f) f else bz (s 1 k) f := by simp [blv, up]
    have e2 : blv s k f b 2 k = if b = 2 then bs (bz (s 2 k) f) f else bz (s 2 k) f := by simp [blv, up]
    rw [e1, e2]
    refine ⟨hk'.1, ?_, ?_, fun g hg => ?_, hk'.2.2.2.2.1, fun z => absurd hp (by omega)⟩
    · split
      · exact bsF hF l1 hf
      · exact l1
    · split
      · exact bsF hF l2 hf
      · exact l2
    · have b1 := k8_bsq (s 1 k) (by omega) f (by omega) g hg
      have b2 := k8_bsq (s 2 k) (by omega) f (by omega) g hg
      have b3 := k8_bsq (bz (s 1 k) f) (by omega) f (by omega) g hg
      have b4 := k8_bsq (bz (s 2 k) f) (by omega) f (by omega) g hg
      have hd := hk'.2.2.2.1 g hg
      by_cases eb1 : b = 1
      · subst eb1
        simp only [if_true, show ¬ (1 : Nat) = 2 by omega, if_false]
        rw [b3.1, b2.2, b1.2]
        by_cases eg : g = f
        · simp [eg]
        · simpa [eg] using hd
      · by_cases eb2 : b = 2
        · subst eb2
          simp only [if_true, show ¬ (2 : Nat) = 1 by omega, if_false]
          rw [b4.1, b2.2, b1.2]
          by_cases eg : g = f
          · simp [eg]
          · simpa [eg] using hd
        · simp only [eb1, eb2, if_false]
          rw [b1.2, b2.2]
          by_cases eg : g = f
          · simp [eg]
          · simpa [eg] using hd
  · have e1 : blv s p f b 1 k = s 1 k := by simp [blv, up, e]
    have e2 : blv s p f b 2 k = s 2 k := by simp [blv, up, e]
    rw [e1, e2]
    exact hk'
theorem kep_3 (s : Sx) (p b : Nat) (h : s 4 3 ≤ 30) : kep s p b 4 3 ≤ 30 := by
  unfold kep
  split
  · simp [up]; omega
  · simpa using h
theorem kep_WFS {sc s : Sx} {p b : Nat} (h : WFS sc s) : WFS sc (kep s p b) := by
  refine ⟨fun k hk => ?_, by rw [kep_4 _ _ _ _ (by omega)]; exact h.2.1, by rw [kep_4 _ _ _ _ (by omega)]; exact h.2.2.1, kep_3 _ _ _ h.2.2.2⟩
  rw [kep_0 _ _ _ 0 (by omega), kep_0 _ _ _ 1 (by omega), kep_0 _ _ _ 2 (by omega), kep_0 _ _ _ 3 (by omega)]
  exact h.1 k hk
theorem up3_WFS {sc s : Sx} {p v : Nat} (h : WFS sc s) (hv : v ≤ 9) : WFS sc (up s 3 p v) := by
  refine ⟨fun k hk => ?_, by simpa [up] using h.2.1, by simpa [up] using h.2.2.1, by simpa [up] using h.2.2.2⟩
  have hk' := h.1 k hk
  by_cases e : k = p
  · subst e; simp [up]; exact ⟨hk'.1, hk'.2.1, hk'.2.2.1, fun f hf z => by have := hk'.2.2.2.1 f hf; omega, hv, hk'.2.2.2.2.2⟩
  · simpa [up, e] using hk'
theorem up4_WFS {sc s : Sx} {i v : Nat} (h : WFS sc s) (hi : i = 1 ∨ i = 2) (hv : v < 2 ^ sc 0 1) : WFS sc (up s 4 i v) := by
  refine ⟨fun k hk => by simpa [up] using h.1 k hk, ?_, ?_, ?_⟩
  · rcases hi with rfl | rfl
    · simpa [up] using hv
    · simpa [up] using h.2.1
  · rcases hi with rfl | rfl
    · simpa [up] using h.2.2.1
    · simpa [up] using hv
  · have : ¬ 3 = i := by omega
    simpa [up, this] using h.2.2.2
theorem upY_WFS {sc s : Sx} {v : Nat} (h : WFS sc s) : WFS sc (up s 4 0 v) :=
  ⟨fun k hk => by simpa [up] using h.1 k hk, by simpa [up] using h.2.1, by simpa [up] using h.2.2.1, by simpa [up] using h.2.2.2⟩
theorem tch_WFS {sc s : Sx} {lf tf : Nat → Nat} (hF : sc 0 0 ≤ 8) (hP : sc 0 1 ≤ 8) (h : WFS sc s) (hl : ∀ k, lf k ≤ sc 0 0) : ∀ n, n ≤ sc 0 1 → WFS sc (tch lf tf s n)
  | 0, _ => h
  | n + 1, hn => by
    have ih := tch_WFS (tf := tf) hF hP h hl n (by omega)
    simp only [tch]
    split
    · exact ih
    · have := hl n
      exact blv_WFS hF hP ih (by omega) (by omega)
theorem ex1_WFS {sc s : Sx} {L : Nat → List Nat} {aw k : Nat} (hP : sc 0 1 ≤ 8) (h : WFS sc s) (hk : k < sc 0 1) : WFS sc (ex1 sc L aw s k) := by
  unfold ex1
  split
  · exact h
  · split
    · have := (h.1 k (by omega)).2.2.2.2.1
      exact up3_WFS h (by omega)
    · exact kep_WFS (up4_WFS h (Or.inl rfl) (bsF hP h.2.1 hk))
theorem exs_WFS {sc s : Sx} {L : Nat → List Nat} {aw : Nat} (hP : sc 0 1 ≤ 8) (h : WFS sc s) : ∀ n, n ≤ sc 0 1 → WFS sc (exs sc L aw s n)
  | 0, _ => h
  | n + 1, hn => ex1_WFS hP (exs_WFS hP h n (by omega)) (by omega)
theorem dcs_WFS {sc s : Sx} {q : Nat → Bool} (hP : sc 0 1 ≤ 8) (h : WFS sc s) : ∀ n, n ≤ sc 0 1 → WFS sc (dcs q s n)
  | 0, _ => h
  | n + 1, hn => by
    have ih := dcs_WFS (q := q) hP h n (by omega)
    simp only [dcs]
    split
    · exact kep_WFS (up4_WFS ih (Or.inr rfl) (bsF hP ih.2.2.1 (by omega)))
    · exact ih
theorem yr_WFS {sc s : Sx} {L : Nat → List Nat} {aw : Nat} (hF : sc 0 0 ≤ 8) (hP : sc 0 1 ≤ 8) (h : WFS sc s) : WFS sc (yr sc L s aw) := by
  refine upY_WFS (dcs_WFS hP (exs_WFS hP (tch_WFS hF hP h (fun k => ?_) _ (Nat.le_refl _)) _ (Nat.le_refl _)) _ (Nat.le_refl _))
  have := lsn_le sc L s k
  show (if bq aw k = 1 then 0 else lsn sc L s k) ≤ _
  split <;> omega
theorem yr_m {sc s : Sx} {L : Nat → List Nat} {aw : Nat} : yr sc L s aw 0 = s 0 ∧ yr sc L s aw 4 0 = s 4 0 + 1 := by
  have e3 : yr3 sc L s aw 0 = s 0 := by
    unfold yr3
    rw [(dcs_m _ _ _).1 0 (by omega)]
    unfold yr2
    rw [(exs_m _ _ _ _ _).1]
    exact tch_m _ _ _ _ (by omega) (by omega) _
  refine ⟨?_, by simp [yr, up]⟩
  funext j
  simp only [yr, up, show ¬ (0 : Nat) = 4 by omega, false_and, if_false, e3]
/-- n years with none away -/
def yrs (sc : Sx) (L : Nat → List Nat) (s : Sx) : Nat → Sx
  | 0 => s
  | n + 1 => yr sc L (yrs sc L s n) 0
theorem yrs_m {sc s : Sx} {L : Nat → List Nat} : ∀ n, yrs sc L s n 0 = s 0 ∧ yrs sc L s n 4 0 = s 4 0 + n
  | 0 => ⟨rfl, rfl⟩
  | n + 1 => by
    have ih := yrs_m (sc := sc) (s := s) (L := L) n
    have h := yr_m (sc := sc) (s := yrs sc L s n) (L := L) (aw := 0)
    simp only [yrs]
    exact ⟨h.1.trans ih.1, by rw [h.2, ih.2]; omega⟩
theorem yrs_WFS {sc s : Sx} {L : Nat → List Nat} (hF : sc 0 0 ≤ 8) (hP : sc 0 1 ≤ 8) (h : WFS sc s) : ∀ n, WFS sc (yrs sc L s n)
  | 0 => h
  | n + 1 => yr_WFS hF hP (yrs_WFS hF hP h n)
theorem yrs_c (sc : Sx) (L : Nat → List Nat) (s : Sx) : ∀ n, yrs sc L (yr sc L s 0) n = yrs sc L s (n + 1)
  | 0 => rfl
  | n + 1 => by simp only [yrs]; rw [yrs_c sc L s n]; rfl
/-- who holds a fact so: i 1 rightly, i 2 wrongly -/
def who (s : Sx) (i f : Nat) : Nat := msk (fun k => decide (bq (s i k) f = 1)) 8
theorem who_lt (s : Sx) (i f : Nat) : who s i f < 256 := msk_lt _ 8
/-- all of them together -/
def cnt (s : Sx) (i : Nat) : Nat → Nat
  | 0 => 0
  | n + 1 => cnt s i n + pc8 (s i n)
theorem cnt_le (s : Sx) (i : Nat) : ∀ n, cnt s i n ≤ 8 * n
  | 0 => by simp [cnt]
  | n + 1 => by have := cnt_le s i n; have := pc8_le (s i n); simp only [cnt]; omega
section SP
variable {d : Nat} {I : Ii} {J : Jj} {sc s : Sx} {L : Nat → List Nat}
theorem s_whoHas {a i f : Nat} {K : KI} (ha : z_Ar wX a 1 8) (hr : ∀ k, k < 8 → I a k = nI (s i k) ∧ s i k < 256) (hf : f < 8) (h : K (nI (who s i f)) I J) : CalI wX (d + 1) mX12_whoHas [.ref a, .int (nI f)] I J K := by
  refine Cal.of (by decide) (Nat.le_of_ble_eq_true rfl) (bX12_whoHas_0 ha ?_)
  have key : ∀ n k, k + n = 8 → GoI wX (d + 1) mX12_whoHas 4 [(0, .ref a), (1, .int (nI f)), (2, .int (nI (msk (fun k => decide (bq (s i k) f = 1)) k))), (3, .int (nI k))] [] I J K := by
    intro n
    induction n with
    | zero =>
      intro k hk
      obtain rfl : k = 8 := by omega
      refine bX12_whoHas_4 ha ?_
      exact ⟨fun _ => h, fun q => absurd (by decide) q⟩
    | succ n ih =>
      intro k hk
      refine bX12_whoHas_4 ha ?_
      rw [nI_clamp (by omega), (hr k (by omega)).1, nI_1]
      repeat' (first | (refine ⟨vp_in_nI (by omega) (by omega), ?_⟩) | (with_reducible refine And.intro ?_ ?_) | (with_reducible intro I9 e9; subst e9) | (with_reducible intro q9; try (simp (disch := omega) only [Int32.le_iff_toInt_le, Int32.lt_iff_toInt_lt, ← Int32.toInt_inj, nI_toInt, t_bq, t_pc8, t_bel, t_mI, t_ite, t_dec, sm_t, Int32.reduceToInt, t_m1, t_0, t_1, t_2, t_3, t_8, Int.natCast_eq_zero, Int.ofNat_le, Int.ofNat_lt, Int.ofNat_inj, not_true_eq_false, not_false_eq_true, forall_const] at q9); try (exfalso; omega)))
      refine s_hasBit (hr k (by omega)).2 hf ?_
      repeat' (first | (refine ⟨vp_in_nI (by omega) (by omega), ?_⟩) | (with_reducible refine And.intro ?_ ?_) | (with_reducible intro I9 e9; subst e9) | (with_reducible intro q9; try (simp (disch := omega) only [Int32.le_iff_toInt_le, Int32.lt_iff_toInt_lt, ← Int32.toInt_inj, nI_toInt, t_bq, t_pc8, t_bel, t_mI, t_ite, t_dec, sm_t, Int32.reduceToInt, t_m1, t_0, t_1, t_2, t_3, t_8, Int.natCast_eq_zero, Int.ofNat_le, Int.ofNat_lt, Int.ofNat_inj, not_true_eq_false, not_false_eq_true, forall_const] at q9); try (exfalso; omega)))
      · rw [or0, msk_no _ (by have := bq01 (s i k) f; simp; omega)]
        exact ih (k + 1) (by omega)
      · rw [msk_or _ (by omega) (by have := bq01 (s i k) f; simp; omega)]
        exact ih (k + 1) (by omega)
  exact key 8 0 (by omega)
theorem s_countBits {a i : Nat} {K : KI} (ha : z_Ar wX a 1 8) (hr : ∀ k, k < 8 → I a k = nI (s i k) ∧ s i k < 256) (h : K (nI (cnt s i 8)) I J) : CalI wX (d + 1) mX12_countBits [.ref a] I J K := by
  refine Cal.of (by decide) (Nat.le_of_ble_eq_true rfl) (bX12_countBits_0 ha ?_)
  have key : ∀ n k, k + n = 8 → GoI wX (d + 1) mX12_countBits 4 [(0, .ref a), (1, .int (nI (cnt s i k))), (2, .int (nI k))] [] I J K := by
    intro n
    induction n with
    | zero =>
      intro k hk
      obtain rfl : k = 8 := by omega
      refine bX12_countBits_4 ha ?_
      exact ⟨fun _ => h, fun q => absurd (by decide) q⟩
    | succ n ih =>
      intro k hk
      refine bX12_countBits_4 ha ?_
      rw [nI_clamp (by omega), (hr k (by omega)).1, nI_1]
      repeat' (first | (refine ⟨vp_in_nI (by omega) (by omega), ?_⟩) | (with_reducible refine And.intro ?_ ?_) | (with_reducible intro I9 e9; subst e9) | (with_reducible intro q9; try (simp (disch := omega) only [Int32.le_iff_toInt_le, Int32.lt_iff_toInt_lt, ← Int32.toInt_inj, nI_toInt, t_bq, t_pc8, t_bel, t_mI, t_ite, t_dec, sm_t, Int32.reduceToInt, t_m1, t_0, t_1, t_2, t_3, t_8, Int.natCast_eq_zero, Int.ofNat_le, Int.ofNat_lt, Int.ofNat_inj, not_true_eq_false, not_false_eq_true, forall_const] at q9); try (exfalso; omega)))
      refine s_bitCount (hr k (by omega)).2 ?_
      rw [nI_add]
      exact ih (k + 1) (by omega)
  exact key 8 0 (by omega)
end SP

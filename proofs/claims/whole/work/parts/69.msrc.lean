/-! the reference's face: sources, probes, parts -/
theorem bel_m {s : Sx} {p f p2 f2 b : Nat} (hp : p ≠ p2) : bel (blv s p2 f2 b) p f = bel s p f := by
  unfold bel blv up
  simp [hp]
theorem spN_bel {s : Sx} {src f : Nat} : ∀ n k, n ≤ k → bel (spN s src f n) k f = bel s k f
  | 0, _, _ => rfl
  | n + 1, k, h => by
    simp only [spN]
    split
    · rw [bel_m (by omega), spN_bel n k (by omega)]
    · exact spN_bel n k (by omega)
section MB
variable {d : Nat} {I I' : Ii} {J J' : Jj} {sc s g g' : Sx} {L : Nat → List Nat} {ps : Nat → Sx} {p f : Nat}
/-- has one had it first? what is heard then stands in the row of heard -/
theorem m_isSource {src n : Nat} {I1 : Ii} {J1 : Jj} {K : KI} (hM : EnM I J sc L s ps g) (hT : Th I J I1 J1) (hV : EnV I1 sc s) (hsrc : src < sc 0 1) (hf : f < sc 0 0) (hn : s 4 0 + n ≤ 999) (h : ∀ I2 J2, Th I J I2 J2 → EnV I2 sc s → (bel s src f ≠ 0 → ∀ k, k < sc 0 1 → I2 47 k = nI (bel (sou sc L s f n src) k f)) → I2 48 = I1 48 → K (b01 (srq sc L s g f n src)) I2 J2) : CalI wM (d + 8) mX13_isSource [.ref 0, .int (nI src), .int (nI f), .int (nI n)] I1 J1 K := by
  have hC := hM.1
  have hP := hV.2.2.1
  have hF := hV.2.2.2.1
  have hR := hM.2.2.2.2.2.2.1
  have hbs := bel3 s src f
  -- the last loop: what is heard, against what is told
  have lst : bel s src f ≠ 0 → ∀ e k I2 J2, k + e = g 0 3 → Th I J I2 J2 → EnV I2 sc s → (∀ k, k < sc 0 1 → I2 47 k = nI (bel (sou sc L s f n src) k f)) → I2 48 = I1 48 → agr g (sou sc L s f n src) f k = true → GoI wM (d + 7 + 1) mX13_isSource 101 [(0, .ref 0), (4, .int (nI k))] [] I2 J2 K := by
    intro hb e
    induction e with
    | zero =>
      intro k I2 J2 hk hT2 hV2 h47 h48 ha
      obtain rfl : k = g 0 3 := by omega
      have e60 : I2 0 60 = nI (g 0 3) := by rw [hT2.1.2.1 60 (by omega) (by omega) (by omega) (by omega) (by omega)]; exact hR.1.1
      refine bX13_isSource_101 ?_
      rw [e60]
      refine ⟨fun _ => ?_, fun q => absurd (nI_le (Nat.le_refl _) (by have := hR.1.2; omega)) q⟩
      have := h I2 J2 hT2 hV2 (fun _ => h47) h48
      rw [show srq sc L s g f n src = true by unfold srq; simp [hb, ha]] at this
      exact this
    | succ e ih =>
      intro k I2 J2 hk hT2 hV2 h47 h48 ha
      have e60 : I2 0 60 = nI (g 0 3) := by rw [hT2.1.2.1 60 (by omega) (by omega) (by omega) (by omega) (by omega)]; exact hR.1.1
      have e46 : I2 46 = I 46 := hT2.1.1 46 (by omega) (by omega) (by omega) (by omega) (by omega) (by omega) (by omega)
      obtain ⟨⟨r1, r2⟩, r3, r4⟩ := hR.2 k (by omega)
      have h16 := hR.1.2
      have hbk := bel3 (sou sc L s f n src) (g 4 (2 * k)) f
      refine bX13_isSource_101 ?_
      rw [e60, e46, show (2 : Int32) * nI k = nI (2 * k) by rw [show (2 : Int32) = nI 2 from rfl, pk_mul], nI_1, nI_clamp (by omega), nI_clamp (by omega), r1, r3, nI_clamp (show g 4 (2 * k) < 2 ^ 31 by omega), h47 _ r2, nI_eq (by omega) (by omega), nI_1]
      refine ⟨fun q => absurd ((nI_leI (by omega) (by omega)).mp q) (by omega), fun _ => ⟨vp_in_nI (by omega) (by omega), vp_in_nI (by omega) (by omega), vp_in_nI (by omega) (by omega), fun q => ?_, fun q => ?_⟩⟩
      · exact ih (k + 1) I2 J2 (by omega) hT2 hV2 h47 h48 (by simp [agr, ha, q])
      · have hno : agr g (sou sc L s f n src) f (k + 1) = false := by simp [agr, q]
        have hno2 := agr_no hno e
        rw [show k + 1 + e = g 0 3 by omega] at hno2
        have := h I2 J2 hT2 hV2 (fun _ => h47) h48
        rw [show srq sc L s g f n src = false by unfold srq; simp [hno2]] at this
        exact this
  -- what each one believes then
  have mid : bel s src f ≠ 0 → ∀ e k I2 J2, k + e = sc 0 1 → Th I J I2 J2 → EnV I2 sc (sou sc L s f n src) → (∀ j, j < k → I2 47 j = nI (bel (sou sc L s f n src) j f)) → I2 48 = I1 48 → GoI wM (d + 7 + 1) mX13_isSource 65 [(0, .ref 0), (2, .int (nI f)), (4, .int (nI k))] [] I2 J2 K := by
    intro hb e
    induction e with
    | zero =>
      intro k I2 J2 hk hT2 hV2 h47 h48
      obtain rfl : k = sc 0 1 := by omega
      refine bX13_isSource_65 (m_pm (hC.Z hT2.1) ⟨fun _ => m_triesAnew hT2 (fun I3 hT3 h3 r3 => ?_), fun q => absurd (nI_le (Nat.le_refl _) (by omega)) q⟩)
      exact lst hb (g 0 3) 0 I3 J2 (by omega) hT3 (hM.back hT3 h3) (fun k hk => by rw [r3 47 (by omega)]; exact h47 k hk) (by rw [r3 48 (by omega)]; exact h48) rfl
    | succ e ih =>
      intro k I2 J2 hk hT2 hV2 h47 h48
      refine bX13_isSource_65 (m_pm (hC.Z hT2.1) ⟨fun q => absurd ((nI_leI (by omega) (by omega)).mp q) (by omega), fun _ => m_isOf (d := d + 6) hV2 (by omega) (by omega) ⟨vp_in_nI (by omega) (by omega), ?_⟩⟩)
      rw [nI_clamp (by omega), nI_1]
      refine ih (k + 1) _ J2 (by omega) (hT2.O (fun a z _ => u2_row z)) (hV2.row (u2_row (by omega))) (fun j hj => ?_) (by rw [u2_row (by omega)]; exact h48)
      by_cases z : j = k
      · rw [z, u2_at]
      · rw [u2_k z]; exact h47 j (by omega)
  -- all who had it
  have fst : bel s src f ≠ 0 → ∀ e k I2 J2, k + e = sc 0 1 → Th I J I2 J2 → EnV I2 sc (spN s src f k) → I2 48 = I1 48 → GoI wM (d + 7 + 1) mX13_isSource 14 [(0, .ref 0), (1, .int (nI src)), (2, .int (nI f)), (3, .int (nI n)), (4, .int (nI k))] [] I2 J2 K := by
    intro hb e
    induction e with
    | zero =>
      intro k I2 J2 hk hT2 hV2 h48
      obtain rfl : k = sc 0 1 := by omega
      refine bX13_isSource_14 (m_pm (hC.Z hT2.1) ⟨fun _ => m_thinks (d := d) hC hT2 hV2 (by rw [spN_m _ _ _ 4 (by omega) (by omega)]; omega) (fun I3 J3 hT3 hV3 r3 => ?_), fun q => absurd (nI_le (Nat.le_refl _) (by omega)) q⟩)
      exact mid hb (sc 0 1) 0 I3 J3 (by omega) hT3 hV3 (fun j hj => absurd hj (by omega)) (by rw [r3 48 (by omega) (by omega) (by omega) (by omega)]; exact h48)
    | succ e ih =>
      intro k I2 J2 hk hT2 hV2 h48
      have hbk := bel3 s k f
      refine bX13_isSource_14 (m_pm (hC.Z hT2.1) ⟨fun q => absurd ((nI_leI (by omega) (by omega)).mp q) (by omega), fun _ => m_isOf (d := d + 6) hV2 (by omega) (by omega) ?_⟩)
      rw [spN_bel k k (by omega), nI_1, nI_eq (by omega) (by omega)]
      have step : ∀ b, (b = 1 ∨ b = 2) → bel s k f ≠ 0 → b = (if k = src then 2 else 1) → CalV wM (d + 7) mX13_makes [.ref 0, .int (nI k), .int (nI f), .int (nI b)] I2 J2 (fun I13 J14 => GoI wM (d + 7 + 1) mX13_isSource 14 [(0, .ref 0), (1, .int (nI src)), (2, .int (nI f)), (3, .int (nI n)), (4, .int (nI (k + 1)))] [] I13 J14 K) := fun b hb2 hne eb =>
        m_makes hV2 (by omega) hf hb2 (fun I3 hV3 f3 h3 => ih (k + 1) I3 J2 (by omega) (hT2.V f3 h3) (by simp only [spN, if_pos hne, ← eb]; exact hV3) (by rw [f3 48 (by omega)]; exact h48))
      refine ⟨fun q => ?_, fun q => ⟨fun q2 => ?_, fun q2 => ?_⟩⟩
      · have hz : bel s k f = 0 := (nI_eq (b := 0) (by omega) (by decide)).mp q
        exact ih (k + 1) I2 J2 (by omega) hT2 (by simp only [spN]; rw [if_neg (fun y => y hz)]; exact hV2) h48
      · have hz : bel s k f ≠ 0 := fun z => q (by rw [z]; rfl)
        exact step 1 (Or.inl rfl) hz (by rw [if_neg q2])
      · have hz : bel s k f ≠ 0 := fun z => q (by rw [z]; rfl)
        exact step 2 (Or.inr rfl) hz (by rw [if_pos q2])
  refine Cal.of (by decide) (Nat.le_of_ble_eq_true rfl) (bX13_isSource_0 (m_isOf (d := d + 6) hV hsrc (by omega) ⟨fun q => ?_, fun q => ?_⟩))
  · have hz : bel s src f ≠ 0 := fun z => q (by rw [z]; rfl)
    exact fst hz (sc 0 1) 0 I1 J1 (by omega) hT hV rfl
  · have hz : bel s src f = 0 := (nI_eq (b := 0) (by omega) (by decide)).mp q
    have := h I1 J1 hT hV (fun y => absurd hz y) rfl
    rw [show srq sc L s g f n src = false by unfold srq; simp [hz]] at this
    exact this
theorem y_sources {v n : Int32} {K : KI} (hM : EnM I J sc L s ps g) (h : ∀ I' J', EnM I' J' sc L s ps g → K (r_sources sc L s g v n) I' J') : CalI wM (d + 9) mX13_sources [.ref 0, .int v, .int n] I J K := by
  obtain ⟨hC, hV, hy, -⟩ := id hM
  have hP := hV.2.2.1
  have hF := hV.2.2.2.1
  refine Cal.of (by decide) (Nat.le_of_ble_eq_true rfl) (bX13_sources_0 (m_isFact (d := d + 7) hC ⟨fun q => ?_, fun q => m_isAhead (m := 20) (d := d + 7) hV hy.1 (by omega) ⟨fun q3 => ?_, fun q3 => ?_⟩⟩))
  · rw [b01_0] at q; rw [r_sources, if_neg (by simp [q])] at h; exact h I J hM
  case refine_3 => rw [b01_0] at q3; rw [r_sources, if_neg (by simp [q3])] at h; exact h I J hM
  rw [b01_n] at q q3
  obtain ⟨ev, h8⟩ := isin_t q
  obtain ⟨en, -, hyn⟩ := rch_t q3
  rw [r_sources, if_pos ⟨q, q3⟩] at h
  generalize hj : idx v = j at *
  generalize hi : idx n = m at *
  subst ev
  subst en
  have key : ∀ e k I1 J1, k + e = sc 0 1 → Th I J I1 J1 → EnV I1 sc s → GoI wM (d + 8 + 1) mX13_sources 30 [(0, .ref 0), (1, .int (nI j)), (2, .int (nI m)), (3, .int (nI (msk (srq sc L s g j m) k))), (4, .int (nI k))] [] I1 J1 K := by
    intro e
    induction e with
    | zero =>
      intro k I1 J1 hk hT hV1
      obtain rfl : k = sc 0 1 := by omega
      exact bX13_sources_30 (m_pm (hC.Z hT.1) ⟨fun _ => m_takesBack (d := d + 7) hM hT (fun I3 hM3 => h I3 J1 hM3), fun q => absurd (nI_le (Nat.le_refl _) (by omega)) q⟩)
    | succ e ih =>
      intro k I1 J1 hk hT hV1
      refine bX13_sources_30 (m_pm (hC.Z hT.1) ⟨fun q => absurd ((nI_leI (by omega) (by omega)).mp q) (by omega), fun _ => m_isSource (d := d) hM hT hV1 (by omega) h8 hyn (fun I2 J2 hT2 hV2 _ _ => ⟨fun q => ?_, fun q => ?_⟩)⟩)
      · rw [b01_0] at q
        rw [nI_1, msk_no _ q]
        exact ih (k + 1) I2 J2 (by omega) hT2 hV2
      · rw [b01_n] at q
        rw [nI_1, msk_or _ (by omega) q]
        exact ih (k + 1) I2 J2 (by omega) hT2 hV2
  exact m_putsAside (fun I1 hT h1 => key (sc 0 1) 0 I1 J (by omega) hT (hM.back hT (fun k _ => h1 k)))
theorem cls_ext {f n m m' p b : Nat} : ∀ k, (∀ j, j < k → bq m j = bq m' j) → cls sc L s f n m p b k = cls sc L s f n m' p b k
  | 0, _ => rfl
  | k + 1, h => by simp only [cls]; rw [cls_ext k (fun j hj => h j (by omega)), h k (by omega)]
theorem cls_P {f n m p b P : Nat} (h : ∀ j, P ≤ j → j < 8 → bq m j = 0) : ∀ k, P + k ≤ 8 → cls sc L s f n m p b (P + k) = cls sc L s f n m p b P
  | 0, _ => rfl
  | k + 1, hk => by
    show cls sc L s f n m p b (P + k) + (if bq m (P + k) = 1 ∧ bel (sou sc L s f n (P + k)) p f = b then 1 else 0) = _
    rw [h (P + k) (by omega) (by omega), cls_P h k (by omega)]
    simp
theorem mx_eq (a b : Nat) : mx a b = if a < b then b else a := rfl
theorem m_putsAsideX {K : KV} (h : ∀ I', Th I J I' J → (∀ k, I' 42 k = I 42 k) → I' 48 = I 48 → K I' J) : CalV wM d mX13_putsAside [.ref 0] I J K := by
  refine Cal.of (by decide) (Nat.le_of_ble_eq_true rfl) (bX13_putsAside_0 ?_)
  have key : ∀ n k I1, k + n = 41 → (∀ a, a ≠ 43 → I1 a = u2 I 0 58 1 a) → (∀ j, j < k → I1 43 j = I 42 j) → GoV wM d mX13_putsAside 7 [(0, .ref 0), (1, .int (nI k))] [] I1 J K := by
    intro n
    induction n with
    | zero =>
      intro k I1 hk hr hj
      obtain rfl : k = 41 := by omega
      refine bX13_putsAside_7 ⟨fun _ => h I1 ⟨⟨fun a z0 z1 z2 _ _ _ _ => ?_, fun k _ _ z _ _ => ?_, fun _ _ => rfl⟩, ?_, hj, fun k _ => ?_⟩ (fun k => ?_) ?_, fun q => absurd (by decide) q⟩
      · rw [hr a z2, u2_row z0]
      · rw [hr 0 (by omega), u2_k z]
      · rw [hr 0 (by omega), u2_at]
      · rw [hr 42 (by omega), u2_row (by omega)]
      · rw [hr 42 (by omega), u2_row (by omega)]
      · rw [hr 48 (by omega), u2_row (by omega)]
    | succ n ih =>
      intro k I1 hk hr hj
      refine bX13_putsAside_7 ⟨fun q => absurd ((nI_leI (a := 41) (by decide) (by omega)).mp q) (by omega), fun _ => ⟨vp_in_nI (by omega) (by omega), vp_in_nI (by omega) (by omega), ?_⟩⟩
      rw [nI_clamp (by omega), nI_1]
      refine ih (k + 1) _ (by omega) (fun a ha => by rw [u2_row ha]; exact hr a ha) (fun j hj' => ?_)
      by_cases z : j = k
      · rw [z, u2_at, hr 42 (by omega), u2_row (by omega)]
      · rw [u2_k z]; exact hj j (by omega)
  exact key 41 0 _ (by omega) (fun _ _ => rfl) (fun j hj => absurd hj (by omega))
def scn (q : Nat → Bool) : Nat → Nat
  | 0 => 0
  | n + 1 => scn q n + if q n then 1 else 0
theorem scn_0 (q : Nat → Bool) : ∀ n, scn q n ≤ n ∧ (scn q n = 0 ↔ msk q n = 0)
  | 0 => by simp [scn, msk]
  | n + 1 => by
    have ih := scn_0 q n
    have hp := Nat.two_pow_pos n
    simp only [scn, msk]
    split <;> omega
theorem y_probe {v n w : Int32} {K : KI} (hM : EnM I J sc L s ps g) (h : ∀ I' J', EnM I' J' sc L s ps g → K (r_probe sc L s g v n w) I' J') : CalI wM (d + 9) mX13_probe [.ref 0, .int v, .int n, .int w] I J K := by
  obtain ⟨hC, hV, hy, -⟩ := id hM
  have hP := hV.2.2.1
  have hF := hV.2.2.2.1
  refine Cal.of (by decide) (Nat.le_of_ble_eq_true rfl) (bX13_probe_0 (m_isFact (d := d + 7) hC ⟨fun q => ?_, fun q => m_isAhead (m := 20) (d := d + 7) hV hy.1 (by omega) ⟨fun q3 => ?_, fun q3 => m_isInC (n := 1) (by omega) ⟨fun q2 => ?_, fun q2 => ?_⟩⟩⟩))
  · rw [b01_0] at q; rw [r_probe, if_neg (by simp [q])] at h; exact h I J hM
  · rw [b01_0] at q3; rw [r_probe, if_neg (by simp [q3])] at h; exact h I J hM
  case refine_4 =>
    rw [b01_0, isin_2] at q2
    rw [r_probe, if_neg (fun z => by simp [z.2.1] at q2)] at h
    exact h I J hM
  rw [b01_n] at q q2 q3
  have hw := pair_w q2
  obtain ⟨ev, h8⟩ := isin_t q
  obtain ⟨en, -, hyn⟩ := rch_t q3
  rw [r_probe, if_pos ⟨q, hw, q3⟩] at h
  generalize hj : idx v = j at *
  generalize hi : idx n = m at *
  subst ev
  subst en
  have hcS := scn_0 (srq sc L s g j m) (sc 0 1)
  generalize hc : scn (srq sc L s g j m) (sc 0 1) = c at *
  have hSd : srs sc L s g j m = msk (srq sc L s g j m) (sc 0 1) := rfl
  rw [← hSd] at hcS
  have hSb : ∀ k, k < sc 0 1 → bq (srs sc L s g j m) k = if srq sc L s g j m k then 1 else 0 := fun k hk => msk_bq _ _ k hk
  have hSl : srs sc L s g j m < 2 ^ sc 0 1 := msk_lt _ _
  generalize srs sc L s g j m = S at *
  have hS0 : ∀ k, sc 0 1 ≤ k → bq S k = 0 := fun k hk => bq_lo (Nat.lt_of_lt_of_le hSl (Nat.pow_le_pow_right (by omega) hk))
  have hcP : ∀ p b, cls sc L s j m S p b (sc 0 1) = cls sc L s j m S p b 8 := fun p b => by
    have := cls_P (sc := sc) (L := L) (s := s) (f := j) (n := m) (m := S) (p := p) (b := b) (P := sc 0 1) (fun i h1 _ => hS0 i h1) (8 - sc 0 1) (by omega)
    rw [← this, show sc 0 1 + (8 - sc 0 1) = 8 by omega]
  -- the answer
  have fin : ∀ k I2 J2, EnM I2 J2 sc L s ps g → ((c ≠ 0 ∧ k = sc 0 1) ∨ (c = 0 ∧ k = 0)) → (((¬ mI (prb sc L s j m S k).1 = ((-1))) → (((¬ w = 0) → (K (nI (prb sc L s j m S k).2) I2 J2)) ∧ ((w = 0) → (K (mI (prb sc L s j m S k).1) I2 J2)))) ∧ ((mI (prb sc L s j m S k).1 = ((-1))) → (K ((-1)) I2 J2))) := by
    intro k I2 J2 hM2 hk
    have hh := h I2 J2 hM2
    have hpl := prb_le (sc := sc) (L := L) (s := s) j m S k
    rw [mI_m1 (by omega)]
    rcases hk with ⟨c0, rfl⟩ | ⟨c0, rfl⟩
    · unfold pp2 at hh
      refine ⟨fun z => ?_, fun z => ?_⟩
      · rw [if_neg (fun y => by rcases y with y | y; exact c0 (hcS.2.mpr y); exact z y)] at hh
        exact ⟨fun z2 => by rw [if_neg z2] at hh; exact hh, fun z2 => by rw [if_pos z2] at hh; exact hh⟩
      · rw [if_pos (Or.inr z)] at hh
        exact hh
    · rw [if_pos (Or.inl (hcS.2.mp c0))] at hh
      exact ⟨fun z => absurd rfl z, fun _ => hh⟩
  -- who is asked best
  have lst : c ≠ 0 → ∀ e k I2 J2, k + e = sc 0 1 → EnM I2 J2 sc L s ps g → (∀ p b, p < sc 0 1 → b < 3 → I2 48 (3 * p + b) = nI (cls sc L s j m S p b 8)) → GoI wM (d + 8 + 1) mX13_probe 149 [(0, .ref 0), (3, .int w), (4, .int (nI c)), (5, .int (mI (prb sc L s j m S k).1)), (6, .int (nI (prb sc L s j m S k).2)), (7, .int (nI k))] [] I2 J2 K := by
    intro c0 e
    induction e with
    | zero =>
      intro k I2 J2 hk hM2 h48
      obtain rfl : k = sc 0 1 := by omega
      exact bX13_probe_149 (m_pm hM2.1 ⟨fun _ => fin _ I2 J2 hM2 (Or.inl ⟨c0, rfl⟩), fun z => absurd (nI_le (Nat.le_refl _) (by omega)) z⟩)
    | succ e ih =>
      intro k I2 J2 hk hM2 h48
      have hpl := prb_le (sc := sc) (L := L) (s := s) j m S k
      have b0 := cls_le sc L s j m S k 0 8
      have b1 := cls_le sc L s j m S k 1 8
      have b2 := cls_le sc L s j m S k 2 8
      have a0 := h48 k 0 (by omega) (by omega)
      have a1 := h48 k 1 (by omega) (by omega)
      have a2 := h48 k 2 (by omega) (by omega)
      rw [Nat.add_zero] at a0
      have emlf : mlf sc L s j m S k = mx (mx (mx 0 (cls sc L s j m S k 0 8)) (cls sc L s j m S k 1 8)) (cls sc L s j m S k 2 8) := rfl
      generalize cls sc L s j m S k 0 8 = x0 at *
      generalize cls sc L s j m S k 1 8 = x1 at *
      generalize cls sc L s j m S k 2 8 = x2 at *
      have go : ∀ y, y = mlf sc L s j m S k → (((mI (prb sc L s j m S k).1 = ((-1))) → (GoI wM (d + 8 + 1) mX13_probe 149 [(0, .ref (0)), (3, .int w), (4, .int (nI c)), (5, .int (nI k)), (6, .int (nI y)), (7, .int (nI k + 1))] [] I2 J2 K)) ∧ ((¬ mI (prb sc L s j m S k).1 = ((-1))) → (((nI y < nI (prb sc L s j m S k).2) → (GoI wM (d + 8 + 1) mX13_probe 149 [(0, .ref (0)), (3, .int w), (4, .int (nI c)), (5, .int (nI k)), (6, .int (nI y)), (7, .int (nI k + 1))] [] I2 J2 K)) ∧ ((¬ nI y < nI (prb sc L s j m S k).2) → (GoI wM (d + 8 + 1) mX13_probe 149 [(0, .ref (0)), (3, .int w), (4, .int (nI c)), (5, .int (mI (prb sc L s j m S k).1)), (6, .int (nI (prb sc L s j m S k).2)), (7, .int (nI k + 1))] [] I2 J2 K))))) := by
        intro y ey
        have hml := mlf_le (sc := sc) (L := L) (s := s) j m S k
        have hih := ih (k + 1) I2 J2 (by omega) hM2 h48
        rw [ey, nI_1, mI_m1 (by omega), nI_ltI (by omega) (by omega)]
        refine ⟨fun z => ?_, fun z => ⟨fun z2 => ?_, fun z2 => ?_⟩⟩
        · simp only [prb, if_pos (Or.inl z : (prb sc L s j m S k).1 = 0 ∨ mlf sc L s j m S k < (prb sc L s j m S k).2), mI_s] at hih
          exact hih
        · simp only [prb, if_pos (Or.inr z2 : (prb sc L s j m S k).1 = 0 ∨ mlf sc L s j m S k < (prb sc L s j m S k).2), mI_s] at hih
          exact hih
        · have hn : ¬ ((prb sc L s j m S k).1 = 0 ∨ mlf sc L s j m S k < (prb sc L s j m S k).2) := fun y => by rcases y with y | y; exact z y; exact z2 y
          simp only [prb, if_neg hn] at hih
          exact hih
      refine bX13_probe_149 (m_pm hM2.1 ⟨fun z => absurd ((nI_leI (by omega) (by omega)).mp z) (by omega), fun _ => ⟨fun z => absurd ((nI_leI (b := 0) (by omega) (by decide)).mp z) (by omega), fun _ => ?_⟩⟩)
      rw [show (3 : Int32) * nI k = nI (3 * k) by rw [show (3 : Int32) = nI 3 from rfl, pk_mul], nI_1 (3 * k), nI_2 (3 * k), nI_clamp (show 3 * k < 2 ^ 31 by omega), nI_clamp (show 3 * k + 1 < 2 ^ 31 by omega), nI_clamp (show 3 * k + 2 < 2 ^ 31 by omega), a0, a1, a2]
      refine ⟨vp_in_nI (by omega) (by omega), vp_in_nI (by omega) (by omega), fun z => ⟨vp_in_nI (by omega) (by omega), fun z2 => ?_, fun z2 => ?_⟩, fun z => ?_⟩
      · have z := (nI_leI (by omega) (by omega)).mp z
        have z2 := (nI_leI (by omega) (by omega)).mp z2
        exact go x0 (by rw [emlf]; unfold mx; split <;> split <;> split <;> omega)
      · have z := (nI_leI (by omega) (by omega)).mp z
        have z2 : ¬ x2 ≤ x0 := fun y => z2 (nI_le y (by omega))
        rintro _ rfl
        exact go x2 (by rw [emlf]; unfold mx; split <;> split <;> split <;> omega)
      · have z : ¬ x1 ≤ x0 := fun y => z (nI_le y (by omega))
        rintro _ rfl
        refine ⟨vp_in_nI (by omega) (by omega), fun z2 => ?_, fun z2 => ?_⟩
        · have z2 := (nI_leI (by omega) (by omega)).mp z2
          exact go x1 (by rw [emlf]; unfold mx; split <;> split <;> split <;> omega)
        · have z2 : ¬ x2 ≤ x1 := fun y => z2 (nI_le y (by omega))
          rintro _ rfl
          exact go x2 (by rw [emlf]; unfold mx; split <;> split <;> split <;> omega)
  -- the sources, one by one
  have mid : ∀ e k I1 J1, k + e = sc 0 1 → Th I J I1 J1 → EnV I1 sc s → (∀ p b, p < sc 0 1 → b < 3 → I1 48 (3 * p + b) = nI (cls sc L s j m S p b k)) → GoI wM (d + 8 + 1) mX13_probe 65 [(0, .ref 0), (1, .int (nI j)), (2, .int (nI m)), (3, .int w), (4, .int (nI (scn (srq sc L s g j m) k))), (5, .int (nI k))] [] I1 J1 K := by
    intro e
    induction e with
    | zero =>
      intro k I1 J1 hk hT hV1 h48
      obtain rfl : k = sc 0 1 := by omega
      refine bX13_probe_65 (m_pm (hC.Z hT.1) ⟨fun _ => ?_, fun z => absurd (nI_le (Nat.le_refl _) (by omega)) z⟩)
      rw [hc]
      refine Cal.of (by decide) (Nat.le_of_ble_eq_true rfl) (bX13_takesBack_0 (d := d + 7) (m_triesAnew hT (fun I2 hT2 h2 r2 => ?_)))
      have hM3 : EnM (u2 I2 0 58 0) J1 sc L s ps g := hM.now (hT2.1.trans ⟨fun a z _ _ _ _ _ _ => u2_row z, fun k _ _ z _ _ => u2_k z, fun _ _ => rfl⟩) ((hM.back hT2 h2).row (u2_row (by omega))) (by rw [u2_row (by omega)]; exact hM.2.2.2.1.cong hT2.2.2.2 rfl rfl) (u2_at _ _ _ _) hM.ok
      by_cases c0 : c = 0
      · rw [c0]
        have hff := fin 0 _ J1 hM3 (Or.inr ⟨c0, rfl⟩)
        refine bX13_probe_149 (m_pm hM3.1 ⟨fun _ => hff, fun _ => ⟨fun _ => hff, fun z => absurd (by decide) z⟩⟩)
      · refine lst c0 (sc 0 1) 0 _ J1 (by omega) hM3 (fun p b hp hb => ?_)
        rw [u2_row (by omega), r2 48 (by omega), h48 p b hp hb, hcP]
    | succ e ih =>
      intro k I1 J1 hk hT hV1 h48
      refine bX13_probe_65 (m_pm (hC.Z hT.1) ⟨fun q => absurd ((nI_leI (by omega) (by omega)).mp q) (by omega), fun _ => m_isSource (d := d) hM hT hV1 (by omega) h8 hyn (fun I2 J2 hT2 hV2 h47 r48 => ⟨fun q => ?_, fun q => ?_⟩)⟩)
      case refine_2 =>
        rw [b01_0] at q
        rw [nI_1]
        have := ih (k + 1) I2 J2 (by omega) hT2 hV2 (fun p b hp hb => by
          rw [r48, h48 p b hp hb]
          simp only [cls]
          rw [hSb k (by omega), q]; simp)
        simp only [scn, q] at this
        simpa using this
      rw [b01_n] at q
      have hbk : bel s k j ≠ 0 := fun z => by unfold srq at q; simp [z] at q
      have h47 := h47 hbk
      have inner : ∀ e2 p0 I3, p0 + e2 = sc 0 1 → (∀ a, a ≠ 48 → I3 a = I2 a) → (∀ p b, p < sc 0 1 → b < 3 → I3 48 (3 * p + b) = nI (cls sc L s j m S p b (if p < p0 then k + 1 else k))) → GoI wM (d + 8 + 1) mX13_probe 94 [(0, .ref 0), (1, .int (nI j)), (2, .int (nI m)), (3, .int w), (4, .int (nI (scn (srq sc L s g j m) k + 1))), (5, .int (nI k)), (6, .int (nI p0))] [] I3 J2 K := by
        intro e2
        induction e2 with
        | zero =>
          intro p0 I3 hp0 r3 h3
          obtain rfl : p0 = sc 0 1 := by omega
          have hT3 : Th I J I3 J2 := hT2.O (fun a _ z => r3 a z)
          refine bX13_probe_94 (m_pm (hC.Z hT3.1) ⟨fun _ => ?_, fun z => absurd (nI_le (Nat.le_refl _) (by omega)) z⟩)
          rw [nI_1]
          have := ih (k + 1) I3 J2 (by omega) hT3 (hV2.row (r3 42 (by omega))) (fun p b hp hb => by rw [h3 p b hp hb, if_pos hp])
          simp only [scn, q, if_true] at this
          exact this
        | succ e2 ih2 =>
          intro p0 I3 hp0 r3 h3
          have hT3 : Th I J I3 J2 := hT2.O (fun a _ z => r3 a z)
          have hb3 := bel3 (sou sc L s j m k) p0 j
          refine bX13_probe_94 (m_pm (hC.Z hT3.1) ⟨fun z => absurd ((nI_leI (by omega) (by omega)).mp z) (by omega), fun _ => ?_⟩)
          rw [nI_clamp (by omega), r3 47 (by omega), h47 p0 (by omega), show (3 : Int32) * nI p0 + nI (bel (sou sc L s j m k) p0 j) = nI (3 * p0 + bel (sou sc L s j m k) p0 j) by rw [show (3 : Int32) = nI 3 from rfl, pk_mul, nI_add], nI_clamp (by omega), h3 p0 _ (by omega) (by omega), if_neg (by omega), nI_1 p0, nI_1]
          refine ⟨vp_in_nI (by omega) (by omega), vp_in_nI (by omega) (by omega), ih2 (p0 + 1) _ (by omega) (fun a ha => by rw [u2_row ha]; exact r3 a ha) (fun p b hp hb => ?_)⟩
          by_cases z : p = p0
          · subst z
            rw [if_pos (by omega)]
            have ecl : cls sc L s j m S p b (k + 1) = cls sc L s j m S p b k + (if bel (sou sc L s j m k) p j = b then 1 else 0) := by
              simp only [cls]
              rw [hSb k (by omega), q]
              simp
            by_cases zb : bel (sou sc L s j m k) p j = b
            · rw [zb, u2_at, ecl, if_pos zb]
            · rw [u2_k (by omega), h3 p b hp hb, if_neg (by omega), ecl, if_neg zb, Nat.add_zero]
          · rw [u2_k (by omega), h3 p b hp hb]
            by_cases zp : p < p0
            · rw [if_pos zp, if_pos (by omega)]
            · rw [if_neg zp, if_neg (by omega)]
      rw [nI_1]
      exact inner (sc 0 1) 0 I2 (by omega) (fun _ _ => rfl) (fun p b hp hb => by rw [r48, h48 p b hp hb, if_neg (by omega)])
  -- nothing is counted yet
  have fst : ∀ e k I1, k + e = 24 → (∀ a, a ≠ 48 → I1 a = I a) → (∀ i, i < k → I1 48 i = 0) → GoI wM (d + 8 + 1) mX13_probe 37 [(0, .ref 0), (1, .int (nI j)), (2, .int (nI m)), (3, .int w), (4, .int (nI 0)), (5, .int (nI k))] [] I1 J K := by
    intro e
    induction e with
    | zero =>
      intro k I1 hk r1 h1
      obtain rfl : k = 24 := by omega
      refine bX13_probe_37 ⟨fun _ => m_putsAsideX (fun I2 hT2 h2 h48 => ?_), fun z => absurd (by decide) z⟩
      have hM1 : EnM I1 J sc L s ps g := hM.now ⟨fun a _ _ _ _ _ _ z => r1 a z, fun k _ _ _ _ _ => by rw [r1 0 (by omega)], fun _ _ => rfl⟩ (hV.row (r1 42 (by omega))) (by rw [r1 42 (by omega)]; exact hM.2.2.2.1) (by rw [r1 0 (by omega)]; exact hM.2.2.2.2.1) hM.ok
      have hT3 : Th I J I2 J := ⟨FrZ.trans ⟨fun a _ _ _ _ _ _ z => r1 a z, fun k _ _ _ _ _ => by rw [r1 0 (by omega)], fun _ _ => rfl⟩ hT2.1, hT2.2.1, fun k hk => by rw [hT2.2.2.1 k hk, r1 42 (by omega)], fun k hk => by rw [hT2.2.2.2 k hk, r1 42 (by omega)]⟩
      refine mid (sc 0 1) 0 I2 J (by omega) hT3 (hM.back hT3 (fun k _ => by rw [h2 k, r1 42 (by omega)])) (fun p b hp hb => ?_)
      rw [h48, h1 _ (by omega)]; rfl
    | succ e ih =>
      intro k I1 hk r1 h1
      refine bX13_probe_37 ⟨fun q => absurd ((nI_leI (a := 24) (by decide) (by omega)).mp q) (by omega), fun _ => ⟨vp_in_nI (by omega) (by omega), ?_⟩⟩
      rw [nI_clamp (by omega), nI_1]
      refine ih (k + 1) _ (by omega) (fun a ha => by rw [u2_row ha]; exact r1 a ha) (fun i hi => ?_)
      by_cases z : i = k
      · rw [z, u2_at]
      · rw [u2_k z]; exact h1 i (by omega)
  exact fst 24 0 I (by omega) (fun _ _ => rfl) (fun i hi => absurd hi (by omega))
theorem lgd_sp (s : Sx) (gd st : Nat) : ∀ k, (∀ j, j < k → bq gd j = 1 → lgd s gd st k ≤ pc8 (s 1 j &&& st)) ∧ (lgd s gd st k = 9 ∨ ∃ j, j < k ∧ bq gd j = 1 ∧ lgd s gd st k = pc8 (s 1 j &&& st))
  | 0 => ⟨fun j hj => absurd hj (by omega), Or.inl rfl⟩
  | k + 1 => by
    obtain ⟨h1, h2⟩ := lgd_sp s gd st k
    simp only [lgd]
    split
    · next z =>
      refine ⟨fun j hj hb => ?_, Or.inr ⟨k, by omega, z.1, rfl⟩⟩
      by_cases e : j = k
      · rw [e]; exact Nat.le_refl _
      · have := h1 j (by omega) hb; omega
    · next z =>
      refine ⟨fun j hj hb => ?_, ?_⟩
      · by_cases e : j = k
        · subst e
          have : ¬ pc8 (s 1 j &&& st) < lgd s gd st j := fun y => z ⟨hb, y⟩
          omega
        · exact h1 j (by omega) hb
      · rcases h2 with h2 | ⟨j, h3, h4, h5⟩
        · exact Or.inl h2
        · exact Or.inr ⟨j, by omega, h4, h5⟩
theorem mbd_sp (s : Sx) (bd st : Nat) : ∀ k, (∀ j, j < k → bq bd j = 1 → pc8 (s 1 j &&& st) + 1 ≤ mbd s bd st k) ∧ (mbd s bd st k = 0 ∨ ∃ j, j < k ∧ bq bd j = 1 ∧ mbd s bd st k = pc8 (s 1 j &&& st) + 1)
  | 0 => ⟨fun j hj => absurd hj (by omega), Or.inl rfl⟩
  | k + 1 => by
    obtain ⟨h1, h2⟩ := mbd_sp s bd st k
    simp only [mbd]
    split
    · next z =>
      refine ⟨fun j hj hb => ?_, Or.inr ⟨k, by omega, z.1, rfl⟩⟩
      by_cases e : j = k
      · rw [e]; exact Nat.le_refl _
      · have := h1 j (by omega) hb; omega
    · next z =>
      refine ⟨fun j hj hb => ?_, ?_⟩
      · by_cases e : j = k
        · subst e
          have : ¬ mbd s bd st j < pc8 (s 1 j &&& st) + 1 := fun y => z ⟨hb, y⟩
          omega
        · exact h1 j (by omega) hb
      · rcases h2 with h2 | ⟨j, h3, h4, h5⟩
        · exact Or.inl h2
        · exact Or.inr ⟨j, by omega, h4, h5⟩
theorem ptd_iff (gd bd st : Nat) : ptd s gd bd st = true ↔ ∀ a, a < 8 → ∀ b, b < 8 → bq gd a = 1 → bq bd b = 1 → pc8 (s 1 b &&& st) < pc8 (s 1 a &&& st) := by
  unfold ptd
  rw [decide_eq_true_eq]
  obtain ⟨l1, l2⟩ := lgd_sp s gd st 8
  obtain ⟨m1, m2⟩ := mbd_sp s bd st 8
  constructor
  · intro h a ha b hb ga gb
    have := l1 a ha ga
    have := m1 b hb gb
    omega
  · intro h
    rcases m2 with m2 | ⟨b, hb, gb, eb⟩
    · omega
    · rcases l2 with l2 | ⟨a, ha, ga, ea⟩
      · have := mbd_le s bd st 8; omega
      · have := h a ha b hb ga gb; omega
theorem m_areParted {gd bd st : Nat} {K : KI} (hC : EnMC I J sc L) (hV : EnV I sc s) (hg : gd < 2 ^ sc 0 1) (hb : bd < 2 ^ sc 0 1) (hst : st < 256) (h : K (b01 (ptd s gd bd st)) I J) : CalI wM (d + 1) mX13_areParted [.ref 0, .int (nI gd), .int (nI bd), .int (nI st)] I J K := by
  have hP := hV.2.2.1
  have h8 := p2_8 hP
  have gz : ∀ a, sc 0 1 ≤ a → ¬ bq gd a = 1 := fun a ha => by rw [bq_lo (Nat.lt_of_lt_of_le hg (Nat.pow_le_pow_right (by omega) ha))]; omega
  have bz' : ∀ a, sc 0 1 ≤ a → ¬ bq bd a = 1 := fun a ha => by rw [bq_lo (Nat.lt_of_lt_of_le hb (Nat.pow_le_pow_right (by omega) ha))]; omega
  have inner : ∀ a, a < sc 0 1 → (∀ a', a' < a → ∀ b, b < 8 → bq gd a' = 1 → bq bd b = 1 → pc8 (s 1 b &&& st) < pc8 (s 1 a' &&& st)) → ((∀ a', a' < a + 1 → ∀ b, b < 8 → bq gd a' = 1 → bq bd b = 1 → pc8 (s 1 b &&& st) < pc8 (s 1 a' &&& st)) → GoI wM (d + 1) mX13_areParted 3 [(0, .ref 0), (1, .int (nI gd)), (2, .int (nI bd)), (3, .int (nI st)), (4, .int (nI (a + 1)))] [] I J K) →
      ∀ e b, b + e = sc 0 1 → (∀ b', b' < b → bq gd a = 1 → bq bd b' = 1 → pc8 (s 1 b' &&& st) < pc8 (s 1 a &&& st)) → GoI wM (d + 1) mX13_areParted 15 [(0, .ref 0), (1, .int (nI gd)), (2, .int (nI bd)), (3, .int (nI st)), (4, .int (nI a)), (5, .int (nI b))] [] I J K := by
    intro a ha ho hnx e
    induction e with
    | zero =>
      intro b hbb hin
      obtain rfl : b = sc 0 1 := by omega
      refine bX13_areParted_15 (m_pm hC ⟨fun _ => ?_, fun q => absurd (nI_le (Nat.le_refl _) (by omega)) q⟩)
      rw [nI_1]
      refine hnx (fun a' ha' b hb' ga gb => ?_)
      by_cases z : a' = a
      · subst z
        by_cases zb : b < sc 0 1
        · exact hin b zb ga gb
        · exact absurd gb (bz' b (by omega))
      · exact ho a' (by omega) b hb' ga gb
    | succ e ih =>
      intro b hbb hin
      have hba := hV.b (p := a) (by omega)
      have hbb2 := hV.b (p := b) (by omega)
      refine bX13_areParted_15 (m_pm hC ⟨fun q => absurd ((nI_leI (by omega) (by omega)).mp q) (by omega), fun _ => ?_⟩)
      rw [k8_bit _ (by omega) a (by omega), k8_bit _ (by omega) b (by omega), nI_1]
      have ext : ((bq gd a = 1 → bq bd b = 1 → pc8 (s 1 b &&& st) < pc8 (s 1 a &&& st))) → GoI wM (d + 1) mX13_areParted 15 [(0, .ref 0), (1, .int (nI gd)), (2, .int (nI bd)), (3, .int (nI st)), (4, .int (nI a)), (5, .int (nI (b + 1)))] [] I J K := fun z => ih (b + 1) (by omega) (fun b' hb' g1 g2 => by
        by_cases y : b' = b
        · subst y; exact z g1 g2
        · exact hin b' (by omega) g1 g2)
      rcases bq01 gd a with e1 | e1
      · rw [e1]; exact ⟨fun _ => ext (fun y => absurd y (by omega)), fun q => absurd q (by decide)⟩
      rcases bq01 bd b with e2 | e2
      · rw [e1, e2]; exact ⟨fun q => absurd rfl q, fun _ => ⟨fun _ => ext (fun _ y => absurd y (by omega)), fun q => absurd q (by decide)⟩⟩
      rw [e1, e2]
      refine ⟨fun q => absurd rfl q, fun _ => ⟨fun q => absurd rfl q, fun _ => m_rightOf hV ha ?_⟩⟩
      rw [nI_and]
      refine m_bits (and_lt8 hba.2.1) (m_rightOf hV (by omega) ?_)
      rw [nI_and]
      refine m_bits (and_lt8 hbb2.2.1) ?_
      rw [nI_ltI (by have := pc8_le (s 1 b &&& st); omega) (by have := pc8_le (s 1 a &&& st); omega)]
      refine ⟨fun q => ext (fun _ _ => q), fun q => ?_⟩
      have hno : ptd s gd bd st = false := by
        rcases Bool.eq_false_or_eq_true (ptd s gd bd st) with z | z
        · exact absurd ((ptd_iff gd bd st).mp z a (by omega) b (by omega) e1 e2) q
        · exact z
      rw [hno] at h
      exact h
  have outer : ∀ e a, a + e = sc 0 1 → (∀ a', a' < a → ∀ b, b < 8 → bq gd a' = 1 → bq bd b = 1 → pc8 (s 1 b &&& st) < pc8 (s 1 a' &&& st)) → GoI wM (d + 1) mX13_areParted 3 [(0, .ref 0), (1, .int (nI gd)), (2, .int (nI bd)), (3, .int (nI st)), (4, .int (nI a))] [] I J K := by
    intro e
    induction e with
    | zero =>
      intro a ha ho
      obtain rfl : a = sc 0 1 := by omega
      refine bX13_areParted_3 (m_pm hC ⟨fun _ => ?_, fun q => absurd (nI_le (Nat.le_refl _) (by omega)) q⟩)
      rw [(ptd_iff gd bd st).mpr (fun a ha b hb' ga gb => by
        by_cases za : a < sc 0 1
        · exact ho a za b hb' ga gb
        · exact absurd ga (gz a (by omega)))] at h
      exact h
    | succ e ih =>
      intro a ha ho
      refine bX13_areParted_3 (m_pm hC ⟨fun q => absurd ((nI_leI (by omega) (by omega)).mp q) (by omega), fun _ => ?_⟩)
      exact inner a (by omega) ho (fun hh => ih (a + 1) (by omega) hh) (sc 0 1) 0 (by omega) (fun b' hb' => absurd hb' (by omega))
  exact Cal.of (by decide) (Nat.le_of_ble_eq_true rfl) (bX13_areParted_0 (outer (sc 0 1) 0 (by omega) (fun a' ha' => absurd ha' (by omega))))
theorem y_part {v w : Int32} {K : KI} (hM : EnM I J sc L s ps g) (h : K (r_part sc s v w) I J) : CalI wM (d + 2) mX13_part [.ref 0, .int v, .int w] I J K := by
  obtain ⟨hC, hV, -⟩ := id hM
  have hP := hV.2.2.1
  have hF := hV.2.2.2.1
  have h8 := p2_8 hP
  have h8F := p2_8 hF
  have hp1 := Nat.two_pow_pos (sc 0 1)
  have e64 : ((nI (2 ^ sc 0 1 - 1)).toInt64) = lN (2 ^ sc 0 1 - 1) := nI_l (by omega)
  refine Cal.of (by decide) (Nat.le_of_ble_eq_true rfl) (bX13_part_0 (m_pm hC ?_))
  rw [k8_all _ (by omega), e64]
  refine m_isInC (by omega) ?_
  rw [show 2 ^ sc 0 1 - 1 + 1 = 2 ^ sc 0 1 by omega]
  refine ⟨fun q => ?_, fun q => m_isInC (by omega) ?_⟩
  · rw [b01_0] at q; rw [r_part, if_neg (by simp [q])] at h; exact h
  rw [show 2 ^ sc 0 1 - 1 + 1 = 2 ^ sc 0 1 by omega]
  rw [b01_n] at q
  refine ⟨fun q2 => ?_, fun q2 => ?_⟩
  · rw [b01_0] at q2; rw [r_part, if_neg (by simp [q2])] at h; exact h
  rw [b01_n] at q2
  obtain ⟨ev, hv⟩ := isin_t q
  obtain ⟨ew, hw⟩ := isin_t q2
  unfold r_part at h
  generalize hj : idx v = gd at *
  generalize hi : idx w = bd at *
  have hab : (v &&& w = 0) ↔ gd &&& bd = 0 := by
    rw [ev, ew, nI_and, show (0 : Int32) = nI 0 from rfl, nI_eq (by have := @Nat.and_le_left gd bd; omega) (by omega)]
  rw [hab]
  refine ⟨fun q3 => ?_, fun q3 => ?_⟩
  case refine_2 => rw [if_neg (fun z => q3 z.2.2)] at h; exact h
  rw [if_pos ⟨q, q2, q3⟩] at h
  rw [ev, ew]
  have key : ∀ e k, k + e = 2 ^ sc 0 0 → GoI wM (d + 1 + 1) mX13_part 45 [(0, .ref 0), (1, .int (nI gd)), (2, .int (nI bd)), (4, .int (mI (prL s gd bd k))), (5, .int (nI k))] [] I J K := by
    intro e
    induction e with
    | zero =>
      intro k hk
      obtain rfl : k = 2 ^ sc 0 0 := by omega
      refine bX13_part_45 (m_fm hC ?_)
      rw [k8_sh _ (by omega)]
      exact ⟨fun _ => h, fun z => absurd (nI_le (Nat.le_refl _) (by omega)) z⟩
    | succ e ih =>
      intro k hk
      have hpl := prL_le s gd bd k
      have hih := ih (k + 1) (by omega)
      refine bX13_part_45 (m_fm hC ?_)
      rw [k8_sh _ (by omega), nI_1]
      have ask : (prL s gd bd k = 0 ∨ pc8 k < pc8 (prL s gd bd k - 1)) → CalI wM (d + 1) mX13_areParted [.ref (0), .int (nI gd), .int (nI bd), .int (nI k)] I J (fun x8 I6 J7 => (((x8 = 0) → (GoI wM (d + 1 + 1) mX13_part 45 [(0, .ref (0)), (1, .int (nI gd)), (2, .int (nI bd)), (4, .int (mI (prL s gd bd k))), (5, .int (nI (k + 1)))] [] I6 J7 K)) ∧ ((¬ x8 = 0) → (GoI wM (d + 1 + 1) mX13_part 45 [(0, .ref (0)), (1, .int (nI gd)), (2, .int (nI bd)), (4, .int (nI k)), (5, .int (nI (k + 1)))] [] I6 J7 K)))) := fun hc => by
        refine m_areParted (d := d) hC hV hv hw (by omega) ⟨fun z => ?_, fun z => ?_⟩
        · rw [b01_0] at z
          simp only [prL] at hih
          rw [if_neg (fun y => by rw [z] at y; exact absurd y.2 (by decide))] at hih
          exact hih
        · rw [b01_n] at z
          simp only [prL] at hih
          rw [if_pos ⟨hc, z⟩, mI_s] at hih
          exact hih
      refine ⟨fun z => absurd ((nI_leI (by omega) (by omega)).mp z) (by omega), fun _ => ⟨fun z => ?_, fun z => ?_⟩⟩
      · have z0 : prL s gd bd k = 0 := by
          unfold mI at z
          split at z
          · assumption
          · exact absurd z (nI_ne_m1 (by omega))
        exact ask (Or.inl z0)
      · have z0 : prL s gd bd k ≠ 0 := fun y => z (by rw [y]; rfl)
        obtain ⟨b, eb⟩ : ∃ b, prL s gd bd k = b + 1 := ⟨prL s gd bd k - 1, by omega⟩
        rw [eb, Nat.add_sub_cancel, mI_s] at ask
        rw [eb, mI_s]
        refine m_bits (by omega) (m_bits (by omega) ?_)
        rw [nI_leI (by have := pc8_le b; omega) (by have := pc8_le k; omega)]
        refine ⟨fun z2 => ?_, fun z2 => ask (Or.inr (by omega))⟩
        simp only [prL] at hih
        rw [if_neg (fun y => by rw [eb, Nat.add_sub_cancel] at y; omega), eb, mI_s] at hih
        exact hih
  exact key (2 ^ sc 0 0) 0 (by omega)
end MB

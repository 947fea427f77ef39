/-! the reference's face: what only asks -/
section MB
variable {d : Nat} {I : Ii} {J : Jj} {sc s g : Sx} {L : Nat → List Nat} {ps : Nat → Sx} {p f : Nat}
theorem y_has {w : Int32} {K : KI} (hM : EnM I J sc L s ps g) (h : K (r_has sc s g w) I J) : CalI wM (d + 2) mX13_has [.ref 0, .int w] I J K := by
  obtain ⟨hC, hV, -, hK, -, -, hR, -⟩ := id hM
  have hU := hM.2.2.2.2.2.2.2.2.2.2.2.1
  have h8 := p2_8 hV.2.2.1
  have h1 := hV.2.1.2.1
  have h2 := hV.2.1.2.2.1
  refine Cal.of (by decide) (Nat.le_of_ble_eq_true rfl) (bX13_has_0 ⟨fun e => ?_, fun e => ?_, fun e => ?_, fun e => ?_, fun e => ?_, fun e => ?_, fun e => ?_, fun e => ?_, fun e => ?_, fun e => ?_, fun e => ?_, fun e0 e1 e2 e3 e4 e5 e6 e7 e8 e9 e10 => ?_⟩)
  · subst e; refine ⟨by unfold vp_in; decide, ?_⟩; rw [show ((2 : Int32) + 0).toNatClampNeg = 2 by decide, hC.1.1]; exact h
  · subst e; refine ⟨by unfold vp_in; decide, ?_⟩; rw [show ((2 : Int32) + 1).toNatClampNeg = 3 by decide, hC.2.1.1]; exact h
  · subst e; refine ⟨by unfold vp_in; decide, ?_⟩; rw [show ((3 : Int32) + 2 - 2).toNatClampNeg = 3 by decide, hC.2.2.1.1]; exact h
  · subst e; refine ⟨by unfold vp_in; decide, ?_⟩; rw [show ((3 : Int32) + 3 - 2).toNatClampNeg = 4 by decide, hC.2.2.2.1.1]; exact h
  · subst e; rw [c0, hV.1.1]; exact h
  · subst e; exact m_thoseWho (i := 1) hC hV (Or.inl rfl) (m_bits (by omega) h)
  · subst e; exact m_thoseWho (i := 2) hC hV (Or.inr rfl) (m_bits (by omega) h)
  · subst e; exact m_beliefs (i := 2) hC hV (Or.inl ⟨rfl, rfl⟩) h
  · subst e; rw [show (41 : Int32).toNatClampNeg = 41 from rfl, hK.1]; exact h
  · subst e; rw [hR.1.1]; exact h
  · subst e; rw [hU.1.1]; exact h
  · simp only [r_has, e0, e1, e2, e3, e4, e5, e6, e7, e8, e9, e10, if_false] at h; exact h
theorem y_fault {w : Int32} {K : KI} (hM : EnM I J sc L s ps g) (h : K (r_fault g w) I J) : CalI wM d mX13_fault [.ref 0, .int w] I J K := by
  have hf := hM.2.2.2.2.2.2.2.1
  refine Cal.of (by decide) (Nat.le_of_ble_eq_true rfl) (bX13_fault_0 ?_)
  rw [hf.1, hf.2]
  unfold r_fault at h
  refine ⟨fun q => ⟨fun q2 => ?_, fun q2 => ?_⟩, fun q => ?_⟩
  · rw [if_neg q, if_neg q2] at h; exact h
  · rw [if_neg q, if_pos q2] at h; exact h
  · rw [if_pos q] at h; exact h
theorem y_fact {v w : Int32} {K : KI} (hM : EnM I J sc L s ps g) (h : K (r_fact sc s v w) I J) : CalI wM (d + 2) mX13_fact [.ref 0, .int v, .int w] I J K := by
  obtain ⟨hC, hV, -⟩ := hM
  have hF := hV.2.2.2.1
  refine Cal.of (by decide) (Nat.le_of_ble_eq_true rfl) (bX13_fact_0 (m_isFact (d := d) hC ⟨fun q => ?_, fun q => ?_⟩))
  case refine_2 => rw [b01_0] at q; rw [r_fact, if_neg (by simp [q])] at h; exact h
  rw [b01_n] at q
  obtain ⟨ev, h8⟩ := isin_t q
  rw [r_fact, if_pos q] at h
  generalize hj : idx v = j at *
  subst ev
  refine ⟨fun q => ⟨fun q2 => ⟨fun q3 => ?_, fun q3 => ?_⟩, fun q2 => ?_⟩, fun q => ?_⟩
  · rw [if_neg q, if_neg q2, if_neg q3] at h; exact h
  · rw [if_neg q, if_neg q2, if_pos q3] at h; exact m_wrongMany hC hV (by omega) h
  · rw [if_neg q, if_pos q2] at h; exact m_rightMany hC hV (by omega) h
  · rw [if_pos q] at h
    rw [ix8, nI_clamp (by omega), (hC.2.2.2.2.2.1 j h8).2.2.1]
    exact ⟨vp_in_nI (by omega) (by omega), h⟩
theorem y_person {v w : Int32} {K : KI} (hM : EnM I J sc L s ps g) (h : K (r_person sc s v w) I J) : CalI wM (d + 2) mX13_person [.ref 0, .int v, .int w] I J K := by
  obtain ⟨hC, hV, -⟩ := hM
  have hP := hV.2.2.1
  refine Cal.of (by decide) (Nat.le_of_ble_eq_true rfl) (bX13_person_0 (m_isPerson (d := d) hC ⟨fun q => ?_, fun q => ?_⟩))
  case refine_2 => rw [b01_0] at q; rw [r_person, if_neg (by simp [q])] at h; exact h
  rw [b01_n] at q
  obtain ⟨ev, h8⟩ := isin_t q
  rw [r_person, if_pos q] at h
  generalize hj : idx v = j at *
  subst ev
  refine ⟨fun e => ?_, fun e => ?_, fun e => ?_, fun e => ?_, fun e => ?_, fun e => ?_, fun e => ?_, fun e => ?_, fun e0 e1 e2 e3 e4 e5 e6 e7 => ?_⟩
  · subst e
    rw [ix8, nI_clamp (by omega), (hC.2.2.2.2.2.2.1 j h8).2.2.1]
    exact ⟨vp_in_nI (by omega) (by omega), h⟩
  · subst e; exact m_masterOf hV h8 h
  · subst e
    rw [show nI j = mI (j + 1) from (mI_s j).symm]
    exact m_pupilsOf hC hV (by omega) (by omega) h
  · subst e; exact m_rightOf hV h8 h
  · subst e; exact m_wrongOf hV h8 h
  · subst e; exact m_leftOf hV h8 h
  · subst e
    refine m_hasPassed hV h8 ?_
    simp only [show ¬ (6 : Int32) = 0 by decide, show ¬ (6 : Int32) = 1 by decide, show ¬ (6 : Int32) = 2 by decide, show ¬ (6 : Int32) = 3 by decide, show ¬ (6 : Int32) = 4 by decide, show ¬ (6 : Int32) = 5 by decide, if_false, if_true] at h
    rcases bq01 (s 4 1) j with e | e
    · rw [e] at h ⊢; exact ⟨fun _ => h, fun z => absurd rfl z⟩
    · rw [e] at h ⊢; exact ⟨fun z => absurd z (by decide), fun _ => h⟩
  · subst e
    refine m_isDoctor hV h8 ?_
    simp only [show ¬ (7 : Int32) = 0 by decide, show ¬ (7 : Int32) = 1 by decide, show ¬ (7 : Int32) = 2 by decide, show ¬ (7 : Int32) = 3 by decide, show ¬ (7 : Int32) = 4 by decide, show ¬ (7 : Int32) = 5 by decide, show ¬ (7 : Int32) = 6 by decide, if_false, if_true] at h
    rcases bq01 (s 4 2) j with e | e
    · rw [e] at h ⊢; exact ⟨fun _ => h, fun z => absurd rfl z⟩
    · rw [e] at h ⊢; exact ⟨fun z => absurd z (by decide), fun _ => h⟩
  · simp only [e0, e1, e2, e3, e4, e5, e6, e7, if_false] at h; exact h
theorem mrk_smM (hC : EnMC I J sc L) (p : Nat) : sm (mrk sc s p) := by
  have hF := hC.1.2
  have hbd := mrkN_b (sc := sc) (s := s) (p := p) (n := sc 0 0) (fun j hj => (hC.2.2.2.2.2.1 j (by omega)).2.2.2)
  unfold sm mrk; omega
theorem y_marks {v : Int32} {K : KL} (hM : EnM I J sc L s ps g) (h : K (r_marks sc s v) I J) : CalL wM (d + 2) mX13_marks [.ref 0, .int v] I J K := by
  obtain ⟨hC, hV, -⟩ := hM
  refine Cal.of (by decide) (Nat.le_of_ble_eq_true rfl) (bX13_marks_0 (m_isPerson (d := d) hC ⟨fun q => ?_, fun q => ?_⟩))
  · rw [b01_0] at q; rw [r_marks, if_neg (by simp [q])] at h; exact h
  rw [b01_n] at q
  obtain ⟨ev, h8⟩ := isin_t q
  rw [r_marks, if_pos q] at h
  generalize hj : idx v = j at *
  subst ev
  refine m_marksOf hC hV h8 ?_
  rw [iI_l (mrk_smM hC j)]
  exact h
theorem y_next {v : Int32} {K : KI} (hM : EnM I J sc L s ps g) (h : ∀ I' J', EnM I' J' sc L s ps g → K (r_next sc L s v) I' J') : CalI wM (d + 5) mX13_next [.ref 0, .int v] I J K := by
  obtain ⟨hC, hV, -⟩ := id hM
  refine Cal.of (by decide) (Nat.le_of_ble_eq_true rfl) (bX13_next_0 (m_isPerson (d := d + 3) hC ⟨fun q => ?_, fun q => ?_⟩))
  · rw [b01_0] at q; rw [r_next, if_neg (by simp [q])] at h; exact h I J hM
  rw [b01_n] at q
  obtain ⟨ev, h8⟩ := isin_t q
  rw [r_next, if_pos q] at h
  generalize hj : idx v = j at *
  subst ev
  exact m_taughtNext hC hV h8 (fun I' J' hf => h I' J' (hM.H hf))
theorem y_kept {v w : Int32} {K : KI} (hM : EnM I J sc L s ps g) (h : K (r_kept s v w) I J) : CalI wM (d + 1) mX13_kept [.ref 0, .int v, .int w] I J K := by
  obtain ⟨hC, hV, -, hK, -⟩ := hM
  have h30 := hV.2.1.2.2.2
  refine Cal.of (by decide) (Nat.le_of_ble_eq_true rfl) (bX13_kept_0 ?_)
  rw [show (41 : Int32).toNatClampNeg = 41 from rfl, hK.1]
  refine m_isInN (by omega) ⟨fun q => ?_, fun q => m_isInC (n := 2) (by omega) ⟨fun q2 => ?_, fun q2 => ?_⟩⟩
  · rw [b01_0] at q; rw [r_kept, if_neg (by simp [q])] at h; exact h
  · rw [b01_n] at q
    rw [b01_0] at q2
    have hn : ¬ (w = 0 ∨ w = 1 ∨ w = 2) := fun z => by
      rcases z with rfl | rfl | rfl <;> exact absurd q2 (by decide)
    rw [r_kept, if_pos q, if_neg (fun z => hn (Or.inl z)), if_neg (fun z => hn (Or.inr (Or.inl z))), if_neg (fun z => hn (Or.inr (Or.inr z)))] at h
    exact h
  · rw [b01_n] at q q2
    obtain ⟨ev, h8⟩ := isin_t q
    obtain ⟨ew, hw⟩ := isin_t q2
    rw [r_kept, if_pos q] at h
    generalize hj : idx v = j at *
    generalize hi : idx w = i at *
    subst ev
    subst ew
    have e : (42 : Int32) + 3 * nI j + nI i = nI (42 + 3 * j + i) := by rw [show (42 : Int32) = nI 42 from rfl, show (3 : Int32) = nI 3 from rfl, pk_mul, nI_add, nI_add]
    rw [e, nI_clamp (by omega)]
    refine ⟨vp_in_nI (by omega) (by omega), ?_⟩
    obtain ⟨k1, k2, k3⟩ := hK.2 j h8
    rcases (show i = 0 ∨ i = 1 ∨ i = 2 by omega) with rfl | rfl | rfl
    · rw [Nat.add_zero, k1]; exact h
    · rw [show 42 + 3 * j + 1 = 43 + 3 * j by omega, k2]; exact h
    · rw [show 42 + 3 * j + 2 = 44 + 3 * j by omega, k3]; exact h
theorem y_status {v : Int32} {K : KI} (hM : EnM I J sc L s ps g) (h : K (r_status g v) I J) : CalI wM (d + 1) mX13_status [.ref 0, .int v] I J K := by
  have hr := hM.2.2.2.2.2.2.2.2.1
  refine Cal.of (by decide) (Nat.le_of_ble_eq_true rfl) (bX13_status_0 (m_isInC (n := 5) (by omega) ⟨fun q => ?_, fun q => ?_⟩))
  · rw [b01_0] at q; rw [r_status, if_neg (by simp [q])] at h; exact h
  · rw [b01_n] at q
    obtain ⟨ev, h8⟩ := isin_t q
    rw [r_status, if_pos q] at h
    generalize hj : idx v = j at *
    subst ev
    rw [nI_clamp (by omega), hr j h8]
    exact ⟨vp_in_nI (by omega) (by omega), h⟩
theorem y_octet {v : Int32} {K : KI} (hM : EnM I J sc L s ps g) (h : K (r_octet g v) I J) : CalI wM d mX13_octet [.ref 0, .int v] I J K := by
  have hi := hM.2.2.2.2.2.2.2.2.2.1
  refine Cal.of (by decide) (Nat.le_of_ble_eq_true rfl) (bX13_octet_0 ?_)
  rw [hi.1.1]
  unfold r_octet at h
  have h43 := hi.1.2
  rcases i32_cases v with hv | ⟨j, hj, rfl⟩
  · rw [isin_neg hv] at h
    exact ⟨fun _ => h, fun q => absurd hv q⟩
  · rw [isin_nI hj, idx_nI hj] at h
    refine ⟨fun q => absurd q (nI_pos hj), fun _ => ⟨fun q => ?_, fun q => ?_⟩⟩
    · have := (nI_leI (by omega) hj).mp q
      rw [decide_eq_false (by omega)] at h
      exact h
    · have : j < g 0 4 := Nat.lt_of_not_le (fun z => q (nI_le z hj))
      rw [decide_eq_true this] at h
      rw [nI_clamp hj, hi.2 j this]
      exact ⟨vp_in_nI (by omega) (by omega), h⟩
theorem y_later {v w : Int32} {K : KI} (hM : EnM I J sc L s ps g) (h : ∀ I' J', EnM I' J' sc L s ps g → K (r_later sc L s v w) I' J') : CalI wM (d + 8) mX13_later [.ref 0, .int v, .int w] I J K := by
  obtain ⟨hC, hV, hy, -⟩ := id hM
  refine Cal.of (by decide) (Nat.le_of_ble_eq_true rfl) (bX13_later_0 (m_isAhead (m := 40) (d := d + 6) hV hy.1 (by omega) ⟨fun q => ?_, fun q => ?_⟩))
  · rw [b01_0] at q; rw [r_later, if_neg (by simp [q])] at h; exact h I J hM
  rw [b01_n] at q
  obtain ⟨ev, -, hyn⟩ := rch_t q
  rw [r_later, if_pos q] at h
  generalize hj : idx v = j at *
  subst ev
  refine m_isInC (n := 3) (by omega) ⟨fun q2 => ?_, fun q2 => ?_⟩
  case refine_2 =>
    rw [b01_0] at q2
    have hn : ¬ (w = 0 ∨ w = 1 ∨ w = 2 ∨ w = 3) := fun z => by
      rcases z with rfl | rfl | rfl | rfl <;> exact absurd q2 (by decide)
    rw [if_neg (fun z => hn (Or.inl z)), if_neg (fun z => hn (Or.inr (Or.inl z))), if_neg (fun z => hn (Or.inr (Or.inr (Or.inl z)))), if_neg (fun z => hn (Or.inr (Or.inr (Or.inr z))))] at h
    exact h I J hM
  rw [b01_n] at q2
  obtain ⟨ew, hw⟩ := isin_t q2
  generalize hi : idx w = i at *
  subst ew
  refine m_putsAside (fun I1 hT h1 => ?_)
  have hV1 := hM.back hT (fun k _ => h1 k)
  refine m_years (d := d) (th := true) (R0 := I 42) (hC.Z hT.1) hV1 hT.2.1 (hT.K s) (by omega) (fun I2 J2 hV2 hK2 f2 _ => ?_)
  have hT2 := hT.W f2 hK2
  have hC2 := hC.Z hT2.1
  rcases (show i = 0 ∨ i = 1 ∨ i = 2 ∨ i = 3 by omega) with rfl | rfl | rfl | rfl
  · exact ⟨fun z => absurd z (by decide), fun _ => m_thoseWho (i := 1) (d := d + 6) hC2 hV2 (Or.inl rfl) (m_takesBack (d := d + 6) hM hT2 (fun I3 hM3 => h I3 J2 hM3))⟩
  · exact ⟨fun z => absurd z (by decide), fun _ => m_thoseWho (i := 2) (d := d + 6) hC2 hV2 (Or.inr rfl) (m_takesBack (d := d + 6) hM hT2 (fun I3 hM3 => h I3 J2 hM3))⟩
  · exact ⟨fun _ => ⟨fun _ => m_beliefs (i := 2) (d := d + 6) hC2 hV2 (Or.inl ⟨rfl, rfl⟩) (m_takesBack (d := d + 6) hM hT2 (fun I3 hM3 => h I3 J2 hM3)), fun z => absurd z (by decide)⟩, fun z => absurd (by decide) z⟩
  · exact ⟨fun _ => ⟨fun z => absurd rfl z, fun _ => m_beliefs (i := 1) (d := d + 6) hC2 hV2 (Or.inr ⟨rfl, rfl⟩) (m_takesBack (d := d + 6) hM hT2 (fun I3 hM3 => h I3 J2 hM3))⟩, fun z => absurd (by decide) z⟩
/-- a year of thought -/
theorem m_think {I1 : Ii} {J1 : Jj} {t : Sx} {K : KV} (hC : EnMC I J sc L) (hT : Th I J I1 J1) (hV : EnV I1 sc t) (hy : t 4 0 ≤ 2000) (h : ∀ I2 J2, Th I J I2 J2 → EnV I2 sc (yr sc L t 0) → (∀ a, a ≠ 0 → a ≠ 42 → a ≠ 44 → a ≠ 45 → I2 a = I1 a) → K I2 J2) : CalV wM (d + 6) mX13_yearGoes [.ref 0, .int 0] I1 J1 K :=
  m_year (aw := 0) (d := d) (th := true) (R0 := I 42) (hC.Z hT.1) hV hT.2.1 (hT.K t) (by omega) hy (fun I2 J2 hV2 hK2 f2 _ => h I2 J2 (hT.W f2 hK2) hV2 f2.1)
theorem m_thinks {I1 : Ii} {J1 : Jj} {t : Sx} {n : Nat} {K : KV} (hC : EnMC I J sc L) (hT : Th I J I1 J1) (hV : EnV I1 sc t) (hy : t 4 0 + n ≤ 2000) (h : ∀ I2 J2, Th I J I2 J2 → EnV I2 sc (yrs sc L t n) → (∀ a, a ≠ 0 → a ≠ 42 → a ≠ 44 → a ≠ 45 → I2 a = I1 a) → K I2 J2) : CalV wM (d + 7) mX13_yearsGo [.ref 0, .int (nI n)] I1 J1 K :=
  m_years (d := d) (th := true) (R0 := I 42) (hC.Z hT.1) hV hT.2.1 (hT.K t) hy (fun I2 J2 hV2 hK2 f2 _ => h I2 J2 (hT.W f2 hK2) hV2 f2.1)
theorem hzn_iff {k m : Nat} (hy : s 4 0 ≤ 999) (h : k + m = hzn s) : (m = 0 ↔ (40 ≤ k ∨ 999 ≤ s 4 0 + k)) ∧ k ≤ 40 ∧ s 4 0 + k ≤ 999 := by
  unfold hzn at h
  split at h <;> omega
theorem y_doctor {v : Int32} {K : KI} (hM : EnM I J sc L s ps g) (h : ∀ I' J', EnM I' J' sc L s ps g → K (r_doctor sc L s v) I' J') : CalI wM (d + 7) mX13_doctor [.ref 0, .int v] I J K := by
  obtain ⟨hC, hV, hy, -⟩ := id hM
  have hP := hV.2.2.1
  refine Cal.of (by decide) (Nat.le_of_ble_eq_true rfl) (bX13_doctor_0 (m_isPerson (d := d + 5) hC ⟨fun q => ?_, fun q => ?_⟩))
  case refine_2 => rw [b01_0] at q; rw [r_doctor, if_neg (by simp [q])] at h; exact h I J hM
  rw [b01_n] at q
  obtain ⟨ev, h8⟩ := isin_t q
  rw [r_doctor, if_pos q] at h
  generalize hj : idx v = j at *
  subst ev
  refine m_putsAside (fun I1 hT h1 => ?_)
  have key : ∀ m k I1 J1, k + m = hzn s → Th I J I1 J1 → EnV I1 sc (yrs sc L s k) → (∀ I' J', EnM I' J' sc L s ps g → K (mI (fyr sc L (fun t => decide (bq (t 4 2) j = 1)) m (yrs sc L s k) k)) I' J') → GoI wM (d + 6 + 1) mX13_doctor 16 [(0, .ref 0), (1, .int (nI j)), (2, .int (nI k))] [] I1 J1 K := by
    intro m
    induction m with
    | zero =>
      intro k I1 J1 hk hT hV1 hK
      have hz := hzn_iff hy.1 hk
      have hy1 := (yrs_m (sc := sc) (s := s) (L := L) k).2
      simp only [fyr] at hK
      refine bX13_doctor_16 (m_isDoctor hV1 h8 ?_)
      rcases bq01 (yrs sc L s k 4 2) j with e | e
      · rw [if_neg (by simp [e])] at hK
        rw [e]
        refine ⟨fun q => absurd rfl q, fun _ => ?_⟩
        have fin : CalI wM (d + 6) mX13_isDoctor [.ref 0, .int (nI j)] I1 J1 (fun x I14 J15 => CalV wM (d + 6) mX13_takesBack [.ref 0] I14 J15 (fun I17 J18 => ((x = 0 → K (-1) I17 J18) ∧ (¬ x = 0 → K (nI k) I17 J18)))) :=
          m_isDoctor hV1 h8 (m_takesBack (d := d + 5) hM hT (fun I3 hM3 => by rw [e]; exact ⟨fun _ => hK I3 J1 hM3, fun q => absurd rfl q⟩))
        refine ⟨fun _ => fin, fun q => ?_⟩
        rw [c0, hV1.1.1, hy1]
        refine ⟨fun _ => fin, fun q2 => absurd ?_ q2⟩
        have : ¬ 40 ≤ k := fun z => q (nI_le (a := 40) z (by omega))
        exact nI_le (a := 999) (by omega) (by omega)
      · rw [if_pos (by simp [e]), mI_s] at hK
        rw [e]
        exact ⟨fun _ => m_isDoctor hV1 h8 (m_takesBack (d := d + 5) hM hT (fun I3 hM3 => by rw [e]; exact ⟨fun q => absurd q (by decide), fun _ => hK I3 J1 hM3⟩)), fun q => absurd q (by decide)⟩
    | succ m ih =>
      intro k I1 J1 hk hT hV1 hK
      have hz := hzn_iff hy.1 hk
      have hy1 := (yrs_m (sc := sc) (s := s) (L := L) k).2
      simp only [fyr] at hK
      refine bX13_doctor_16 (m_isDoctor hV1 h8 ?_)
      rcases bq01 (yrs sc L s k 4 2) j with e | e
      · rw [if_neg (by simp [e])] at hK
        rw [e]
        refine ⟨fun q => absurd rfl q, fun _ => ⟨fun q => absurd ((nI_leI (a := 40) (by decide) (by omega)).mp q) (by omega), fun _ => ?_⟩⟩
        rw [c0, hV1.1.1, hy1]
        refine ⟨fun q => absurd ((nI_leI (a := 999) (by decide) (by omega)).mp q) (by omega), fun _ => m_think (d := d) hC hT hV1 (by omega) (fun I2 J2 hT2 hV2 _ => ?_)⟩
        rw [nI_1]
        exact ih (k + 1) I2 J2 (by omega) hT2 hV2 hK
      · rw [if_pos (by simp [e]), mI_s] at hK
        rw [e]
        exact ⟨fun _ => m_isDoctor hV1 h8 (m_takesBack (d := d + 5) hM hT (fun I3 hM3 => by rw [e]; exact ⟨fun q => absurd q (by decide), fun _ => hK I3 J1 hM3⟩)), fun q => absurd q (by decide)⟩
  exact key (hzn s) 0 I1 J (by omega) hT (hM.back hT (fun k _ => h1 k)) h
theorem cnF_all (s : Sx) (i f : Nat) : ∀ n, (cnF s i f n = n ↔ msk (fun k => decide (bq (s i k) f = 1)) n = 2 ^ n - 1)
  | 0 => by simp [cnF, msk]
  | n + 1 => by
    have ih := cnF_all s i f n
    have hl := cnF_le s i f n
    have hm := msk_lt (fun k => decide (bq (s i k) f = 1)) n
    simp only [cnF, msk]
    rw [Nat.pow_succ]
    rcases bq01 (s i n) f with e | e
    · rw [if_neg (by simp [e]), e]; omega
    · rw [if_pos (by simp [e]), e]; omega
theorem who_all (hV : EnV I sc s) (f : Nat) : pc8 (who s 2 f) ≤ sc 0 1 ∧ (pc8 (who s 2 f) = sc 0 1 ↔ who s 2 f = 2 ^ sc 0 1 - 1) := by
  have hP := hV.2.2.1
  rw [← cnF_who hV (Or.inr rfl)]
  refine ⟨cnF_le _ _ _ _, ?_⟩
  rw [cnF_all]
  unfold who
  rw [msk_8 hP (fun k h1 h2 => ?_)]
  have := ((hV.2.1.1 k h2).2.2.2.2.2 h1).2.2
  rw [this]; simp [bq]
theorem y_lost {v : Int32} {K : KI} (hM : EnM I J sc L s ps g) (h : ∀ I' J', EnM I' J' sc L s ps g → K (r_lost sc L s v) I' J') : CalI wM (d + 7) mX13_lost [.ref 0, .int v] I J K := by
  obtain ⟨hC, hV, hy, -⟩ := id hM
  have hP := hV.2.2.1
  have hF := hV.2.2.2.1
  refine Cal.of (by decide) (Nat.le_of_ble_eq_true rfl) (bX13_lost_0 (m_isFact (d := d + 5) hC ⟨fun q => ?_, fun q => ?_⟩))
  · rw [b01_0] at q; rw [r_lost, if_neg (by simp [q])] at h; exact h I J hM
  rw [b01_n] at q
  obtain ⟨ev, h8⟩ := isin_t q
  rw [r_lost, if_pos q] at h
  generalize hj : idx v = j at *
  subst ev
  refine m_pm hC ⟨fun q => ?_, fun q => ?_⟩
  case refine_2 =>
    have : sc 0 1 = 0 := (nI_eq (b := 0) (by omega) (by decide)).mp q
    rw [if_pos this] at h
    exact h I J hM
  have hP0 : sc 0 1 ≠ 0 := fun z => q (by rw [z]; rfl)
  rw [if_neg hP0] at h
  refine m_putsAside (fun I1 hT h1 => ?_)
  have key : ∀ m k I1 J1, k + m = hzn s → Th I J I1 J1 → EnV I1 sc (yrs sc L s k) → (∀ I' J', EnM I' J' sc L s ps g → K (mI (fyr sc L (fun t => decide (who t 2 j = 2 ^ sc 0 1 - 1)) m (yrs sc L s k) k)) I' J') → GoI wM (d + 6 + 1) mX13_lost 23 [(0, .ref 0), (1, .int (nI j)), (2, .int (nI k))] [] I1 J1 K := by
    intro m
    induction m with
    | zero =>
      intro k I1 J1 hk hT hV1 hK
      have hz := hzn_iff hy.1 hk
      have hy1 := (yrs_m (sc := sc) (s := s) (L := L) k).2
      have hC1 := hC.Z hT.1
      have hw := who_all hV1 j
      simp only [fyr] at hK
      refine bX13_lost_23 (m_wrongMany (d := d + 5) hC1 hV1 (by omega) (m_pm hC1 ?_))
      have fin : CalI wM (d + 6) mX13_wrongMany [.ref 0, .int (nI j)] I1 J1 (fun x26 I24 J25 => (CalI wM (d + 6) mX13_personMany [.ref (0)] I24 J25 (fun x29 I27 J28 => (((¬ x26 = x29) → (CalV wM (d + 6) mX13_takesBack [.ref (0)] I27 J28 (fun I31 J32 => (K ((-1)) I31 J32)))) ∧ ((x26 = x29) → (CalV wM (d + 6) mX13_takesBack [.ref (0)] I27 J28 (fun I34 J35 => (K (nI k) I34 J35)))))))) := by
        refine m_wrongMany (d := d + 5) hC1 hV1 (by omega) (m_pm hC1 ?_)
        rw [nI_eq (by omega) (by omega), hw.2]
        refine ⟨fun q => m_takesBack (d := d + 5) hM hT (fun I3 hM3 => ?_), fun q => m_takesBack (d := d + 5) hM hT (fun I3 hM3 => ?_)⟩
        · rw [if_neg (by simpa using q)] at hK; exact hK I3 J1 hM3
        · rw [if_pos (by simpa using q), mI_s] at hK; exact hK I3 J1 hM3
      refine ⟨fun _ => fin, fun q => ⟨fun _ => fin, fun q1 => ?_⟩⟩
      rw [c0, hV1.1.1, hy1]
      refine ⟨fun _ => fin, fun q2 => absurd ?_ q2⟩
      have : ¬ 40 ≤ k := fun z => q1 (nI_le (a := 40) z (by omega))
      exact nI_le (a := 999) (by omega) (by omega)
    | succ m ih =>
      intro k I1 J1 hk hT hV1 hK
      have hz := hzn_iff hy.1 hk
      have hy1 := (yrs_m (sc := sc) (s := s) (L := L) k).2
      have hC1 := hC.Z hT.1
      have hw := who_all hV1 j
      simp only [fyr] at hK
      refine bX13_lost_23 (m_wrongMany (d := d + 5) hC1 hV1 (by omega) (m_pm hC1 ⟨fun q => ?_, fun q => ?_⟩))
      · have hq := (nI_leI (by omega) (by omega)).mp q
        have hq2 : pc8 (who (yrs sc L s k) 2 j) = sc 0 1 := by omega
        rw [if_pos (by simpa using hw.2.mp hq2), mI_s] at hK
        refine m_wrongMany (d := d + 5) hC1 hV1 (by omega) (m_pm hC1 ?_)
        rw [nI_eq (by omega) (by omega)]
        exact ⟨fun z => absurd hq2 z, fun _ => m_takesBack (d := d + 5) hM hT (fun I3 hM3 => hK I3 J1 hM3)⟩
      · have hq2 : ¬ pc8 (who (yrs sc L s k) 2 j) = sc 0 1 := fun z => q (by rw [z]; exact nI_le (Nat.le_refl _) (by omega))
        rw [if_neg (by simpa using (fun z => hq2 (hw.2.mpr z)))] at hK
        refine ⟨fun q => absurd ((nI_leI (a := 40) (by decide) (by omega)).mp q) (by omega), fun _ => ?_⟩
        rw [c0, hV1.1.1, hy1]
        refine ⟨fun q => absurd ((nI_leI (a := 999) (by decide) (by omega)).mp q) (by omega), fun _ => m_think (d := d) hC hT hV1 (by omega) (fun I2 J2 hT2 hV2 _ => ?_)⟩
        rw [nI_1]
        exact ih (k + 1) I2 J2 (by omega) hT2 hV2 hK
  exact key (hzn s) 0 I1 J (by omega) hT (hM.back hT (fun k _ => h1 k)) h
end MB

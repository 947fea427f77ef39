/-! the reference's face: masters, gifts, tries -/
theorem fyr_t {sc : Sx} {L : Nat → List Nat} {q : Sx → Bool} {t : Sx} {n : Nat} (e : q t = true) (m : Nat) : fyr sc L q m t n = n + 1 := by cases m <;> simp [fyr, e]
theorem fyr_f {sc : Sx} {L : Nat → List Nat} {q : Sx → Bool} {t : Sx} {n : Nat} (e : q t = false) (m : Nat) : fyr sc L q (m + 1) t n = fyr sc L q m (yr sc L t 0) (n + 1) := by simp [fyr, e]
theorem fyr_0 {sc : Sx} {L : Nat → List Nat} {q : Sx → Bool} {t : Sx} {n : Nat} (e : q t = false) : fyr sc L q 0 t n = 0 := by simp [fyr, e]
theorem fyr_lo {sc : Sx} {L : Nat → List Nat} {q : Sx → Bool} : ∀ m t n, fyr sc L q m t n = 0 ∨ n + 1 ≤ fyr sc L q m t n := by
  intro m
  induction m with
  | zero =>
    intro t n
    rcases Bool.eq_false_or_eq_true (q t) with e | e
    · right; rw [fyr_t e]; omega
    · left; exact fyr_0 e
  | succ m ih =>
    intro t n
    rcases Bool.eq_false_or_eq_true (q t) with e | e
    · right; rw [fyr_t e]; omega
    · rw [fyr_f e]; have := ih (yr sc L t 0) (n + 1); omega
theorem fyr_lim {sc : Sx} {L : Nat → List Nat} {q : Sx → Bool} : ∀ m m' t n, m' ≤ m → fyr sc L q m' t n = if fyr sc L q m t n ≤ n + m' + 1 then fyr sc L q m t n else 0 := by
  intro m
  induction m with
  | zero =>
    intro m' t n h
    obtain rfl : m' = 0 := by omega
    have := fyr_le sc L q 0 t n
    rw [if_pos (by omega)]
  | succ m ih =>
    intro m' t n h
    rcases Bool.eq_false_or_eq_true (q t) with e | e
    · rw [fyr_t e, fyr_t e, if_pos (by omega)]
    · rw [fyr_f e m]
      cases m' with
      | zero =>
        rw [fyr_0 e]
        rcases fyr_lo (sc := sc) (L := L) (q := q) m (yr sc L t 0) (n + 1) with z | z
        · rw [z]; simp
        · rw [if_neg (by omega)]
      | succ m' =>
        rw [fyr_f e m', ih m' (yr sc L t 0) (n + 1) (by omega), show n + 1 + m' + 1 = n + (m' + 1) + 1 by omega]
theorem dcs_mono {q : Nat → Bool} {s : Sx} {p : Nat} (hp : p < 8) (h2 : s 4 2 < 256) (h : bq (s 4 2) p = 1) : ∀ n, n ≤ 8 → dcs q s n 4 2 < 256 ∧ bq (dcs q s n 4 2) p = 1
  | 0, _ => ⟨h2, h⟩
  | n + 1, hn => by
    have ih := dcs_mono (q := q) hp h2 h n (by omega)
    simp only [dcs]
    split
    · rw [kep_4 _ _ _ _ (by omega)]
      have e : up (dcs q s n) 4 2 (bs (dcs q s n 4 2) n) 4 2 = bs (dcs q s n 4 2) n := by simp [up]
      rw [e]
      refine ⟨(k8_bsl _ ih.1 n (by omega)).1, ?_⟩
      rw [(k8_bsq _ ih.1 n (by omega) p hp).1]
      split
      · rfl
      · exact ih.2
    · exact ih
theorem ex1_d (sc : Sx) (L : Nat → List Nat) (aw : Nat) (t : Sx) (k : Nat) : ex1 sc L aw t k 4 2 = t 4 2 := by
  unfold ex1
  split
  · rfl
  · split
    · simp [up]
    · rw [kep_4 _ _ _ _ (by omega)]; simp [up]
theorem exs_d (sc : Sx) (L : Nat → List Nat) (aw : Nat) (s : Sx) : ∀ n, exs sc L aw s n 4 2 = s 4 2
  | 0 => rfl
  | n + 1 => by simp only [exs]; rw [ex1_d, exs_d sc L aw s n]
theorem yr_mono {sc : Sx} {L : Nat → List Nat} {t : Sx} {p aw : Nat} (hP : sc 0 1 ≤ 8) (hw : WFS sc t) (hp : p < 8) (h : bq (t 4 2) p = 1) : bq (yr sc L t aw 4 2) p = 1 := by
  have e : yr2 sc L t aw 4 2 = t 4 2 := by rw [yr2, exs_d, yr1, tch_m _ _ _ 4 (by omega) (by omega)]
  have h8 := p2_8 hP
  have h2 := hw.2.2.1
  have := dcs_mono (q := fun m => nmd (yr2 sc L t aw) m (sc 0 1)) (s := yr2 sc L t aw) hp (by rw [e]; omega) (by rw [e]; exact h) (sc 0 1) hP
  have e2 : yr sc L t aw 4 2 = yr3 sc L t aw 4 2 := by simp [yr, up]
  rw [e2]
  exact this.2
theorem yrs_mono {sc : Sx} {L : Nat → List Nat} {p : Nat} (hF : sc 0 0 ≤ 8) (hP : sc 0 1 ≤ 8) (hp : p < 8) {t : Sx} (hw : WFS sc t) (h : bq (t 4 2) p = 1) : ∀ n, bq (yrs sc L t n 4 2) p = 1
  | 0 => h
  | n + 1 => yr_mono hP (yrs_WFS hF hP hw n) hp (yrs_mono hF hP hp hw h n)
/-- a doctor stays one -/
theorem fyr_doc {sc : Sx} {L : Nat → List Nat} {p : Nat} (hF : sc 0 0 ≤ 8) (hP : sc 0 1 ≤ 8) (hp : p < 8) : ∀ m t n, WFS sc t → (fyr sc L (fun t => decide (bq (t 4 2) p = 1)) m t n ≠ 0 ↔ bq (yrs sc L t m 4 2) p = 1)
  | 0, t, n, _ => by
    simp only [fyr, yrs]
    rcases bq01 (t 4 2) p with e | e <;> simp [e]
  | m + 1, t, n, hw => by
    simp only [fyr]
    rcases bq01 (t 4 2) p with e | e
    · rw [if_neg (by simp [e]), fyr_doc hF hP hp m (yr sc L t 0) (n + 1) (yr_WFS hF hP hw), yrs_c]
    · rw [if_pos (by simp [e])]
      exact ⟨fun _ => yrs_mono hF hP hp hw e (m + 1), fun _ => by omega⟩
section MB
variable {d : Nat} {I : Ii} {J : Jj} {sc s g : Sx} {L : Nat → List Nat} {ps : Nat → Sx} {p f : Nat}
theorem m_taughtBy {m : Nat} {K : KI} (hV : EnV I sc s) (ha : acy s) (hp : p < 8) (hm : m < sc 0 1) (h : K (b01 (decide (m = p) || anc s p 8 (s 0 m))) I J) : CalI wM (d + 1) mX13_isTaughtBy [.ref 0, .int (nI m), .int (nI p)] I J K := by
  have hP := hV.2.2.1
  refine Cal.of (by decide) (Nat.le_of_ble_eq_true rfl) (bX13_isTaughtBy_0 ?_)
  have key : ∀ n c, wk s n c = 0 → c ≤ sc 0 1 → K (b01 (anc s p n c)) I J → GoI wM (d + 1) mX13_isTaughtBy 2 [(0, .ref 0), (2, .int (nI p)), (3, .int (mI c))] [] I J K := by
    intro n
    induction n with
    | zero =>
      intro c hw hc hK
      have hc0 : c = 0 := hw
      subst hc0
      exact bX13_isTaughtBy_2 ⟨fun _ => ⟨fun _ => hK, fun q => absurd q.symm (nI_ne_m1 (by omega))⟩, fun q => absurd rfl q⟩
    | succ n ih =>
      intro c hw hc hK
      by_cases e : c = 0
      · subst e
        have e0 : anc s p (n + 1) 0 = false := by simp [anc]
        rw [e0] at hK
        exact bX13_isTaughtBy_2 ⟨fun _ => ⟨fun _ => hK, fun q => absurd q.symm (nI_ne_m1 (by omega))⟩, fun q => absurd rfl q⟩
      · obtain ⟨j, rfl⟩ : ∃ j, c = j + 1 := ⟨c - 1, by omega⟩
        rw [mI_s]
        refine bX13_isTaughtBy_2 ⟨fun q => absurd q (nI_ne_m1 (by omega)), fun _ => ⟨fun q => ?_, fun q => ?_⟩⟩
        · have hj : j = p := (nI_eq (by omega) (by omega)).mp q
          have e1 : anc s p (n + 1) (j + 1) = true := by simp [anc, hj]
          rw [e1] at hK
          exact hK
        · have hj : j ≠ p := fun z => q (by rw [z])
          refine m_masterOf hV (by omega) ?_
          refine ih (s 0 j) ?_ (hV.2.1.1 j (by omega)).1 ?_
          · simpa [wk] using hw
          · have e1 : anc s p (n + 1) (j + 1) = anc s p n (s 0 j) := by simp [anc, hj]
            rw [e1] at hK
            exact hK
  rw [show nI m = mI (m + 1) from (mI_s m).symm]
  refine key 9 (m + 1) ?_ (by omega) ?_
  · have := wk_end ha (fun k hk => (hV.b hk).1) (c := s 0 m) ((hV.b (by omega)).1)
    simpa [wk] using this
  · have e1 : anc s p 9 (m + 1) = (decide (m = p) || anc s p 8 (s 0 m)) := by
      by_cases z : m = p
      · simp [anc, z]
      · show (if m + 1 = 0 then false else if m + 1 = p + 1 then true else anc s p 8 (s 0 (m + 1 - 1))) = _
        rw [if_neg (by omega), if_neg (by omega), Nat.add_sub_cancel]
        simp [z]
    rw [e1]
    exact h
/-- years till one has passed: 41 for never -/
theorem m_yearsTill {I1 : Ii} {J1 : Jj} {t : Sx} {K : KI} (hC : EnMC I J sc L) (hT : Th I J I1 J1) (hV : EnV I1 sc t) (hy : t 4 0 ≤ 999) (hp : p < sc 0 1) (h : ∀ I2 J2, Th I J I2 J2 → K (nI (if fyr sc L (fun t => decide (bq (t 4 1) p = 1)) (hzn t) t 0 = 0 then 41 else fyr sc L (fun t => decide (bq (t 4 1) p = 1)) (hzn t) t 0 - 1)) I2 J2) : CalI wM (d + 7) mX13_yearsTill [.ref 0, .int (nI p)] I1 J1 K := by
  refine Cal.of (by decide) (Nat.le_of_ble_eq_true rfl) (bX13_yearsTill_0 ?_)
  have key : ∀ m k I1 J1, k + m = hzn t → Th I J I1 J1 → EnV I1 sc (yrs sc L t k) → (∀ I2 J2, Th I J I2 J2 → K (nI (if fyr sc L (fun t => decide (bq (t 4 1) p = 1)) m (yrs sc L t k) k = 0 then 41 else fyr sc L (fun t => decide (bq (t 4 1) p = 1)) m (yrs sc L t k) k - 1)) I2 J2) → GoI wM (d + 6 + 1) mX13_yearsTill 2 [(0, .ref 0), (1, .int (nI p)), (2, .int (nI k))] [] I1 J1 K := by
    intro m
    induction m with
    | zero =>
      intro k I1 J1 hk hT hV1 hK
      have hz := hzn_iff hy hk
      have hy1 := (yrs_m (sc := sc) (s := t) (L := L) k).2
      refine bX13_yearsTill_2 (m_hasPassed hV1 hp ?_)
      rcases bq01 (yrs sc L t k 4 1) p with e | e
      · have eF : fyr sc L (fun t => decide (bq (t 4 1) p = 1)) 0 (yrs sc L t k) k = 0 := by simp [fyr, e]
        rw [eF, if_pos rfl] at hK
        rw [e]
        have fin : GoI wM (d + 6 + 1) mX13_yearsTill 2 [(0, .ref 0), (1, .int (nI p)), (2, .int 41)] [] I1 J1 K := by
          refine bX13_yearsTill_2 (m_hasPassed hV1 hp ?_)
          rw [e]
          exact ⟨fun q => absurd rfl q, fun _ => ⟨fun _ => hK I1 J1 hT, fun q => absurd (by decide) q⟩⟩
        refine ⟨fun q => absurd rfl q, fun _ => ⟨fun q => absurd ((nI_ltI (a := 40) (by decide) (by omega)).mp q) (by omega), fun _ => ⟨fun _ => fin, fun q => ?_⟩⟩⟩
        rw [c0, hV1.1.1, hy1]
        refine ⟨fun _ => fin, fun q2 => absurd ?_ q2⟩
        have : ¬ 40 ≤ k := fun z => q (nI_le (a := 40) z (by omega))
        exact nI_le (a := 999) (by omega) (by omega)
      · have eF : fyr sc L (fun t => decide (bq (t 4 1) p = 1)) 0 (yrs sc L t k) k = k + 1 := by simp [fyr, e]
        rw [eF, if_neg (by omega), Nat.add_sub_cancel] at hK
        rw [e]
        exact ⟨fun _ => hK I1 J1 hT, fun q => absurd q (by decide)⟩
    | succ m ih =>
      intro k I1 J1 hk hT hV1 hK
      have hz := hzn_iff hy hk
      have hy1 := (yrs_m (sc := sc) (s := t) (L := L) k).2
      refine bX13_yearsTill_2 (m_hasPassed hV1 hp ?_)
      rcases bq01 (yrs sc L t k 4 1) p with e | e
      · have eF : fyr sc L (fun t => decide (bq (t 4 1) p = 1)) (m + 1) (yrs sc L t k) k = fyr sc L (fun t => decide (bq (t 4 1) p = 1)) m (yr sc L (yrs sc L t k) 0) (k + 1) := by simp [fyr, e]
        rw [eF] at hK
        rw [e]
        refine ⟨fun q => absurd rfl q, fun _ => ⟨fun q => absurd ((nI_ltI (a := 40) (by decide) (by omega)).mp q) (by omega), fun _ => ⟨fun q => absurd ((nI_leI (a := 40) (by decide) (by omega)).mp q) (by omega), fun _ => ?_⟩⟩⟩
        rw [c0, hV1.1.1, hy1]
        refine ⟨fun q => absurd ((nI_leI (a := 999) (by decide) (by omega)).mp q) (by omega), fun _ => m_think (d := d) hC hT hV1 (by omega) (fun I2 J2 hT2 hV2 _ => ?_)⟩
        rw [nI_1]
        exact ih (k + 1) I2 J2 (by omega) hT2 hV2 hK
      · have eF : fyr sc L (fun t => decide (bq (t 4 1) p = 1)) (m + 1) (yrs sc L t k) k = k + 1 := by simp [fyr, e]
        rw [eF, if_neg (by omega), Nat.add_sub_cancel] at hK
        rw [e]
        exact ⟨fun _ => hK I1 J1 hT, fun q => absurd q (by decide)⟩
  exact key (hzn t) 0 I1 J1 (by omega) hT hV h
/-- the reference's best and soonest, out of the class's -/
def fmI (sc : Sx) (L : Nat → List Nat) (s : Sx) (p k : Nat) : Prop := ((fmL sc L s p k).2.1 = 0 → (fmL sc L s p k).1 = hzn s + 1) ∧ ((fmL sc L s p k).2.1 ≠ 0 → (fmL sc L s p k).2.2 = (fmL sc L s p k).1 + 1)
theorem fmI_all (k : Nat) : fmI sc L s p k := by
  induction k with
  | zero => simp [fmI, fmL]
  | succ k ih =>
    unfold fmI at ih ⊢
    simp only [fmL]
    split
    · exact ih
    · unfold fmS
      split
      · exact ih
      · split
        · exact ih
        · next z => exact ⟨fun y => absurd y (by simp), fun _ => by simp only; omega⟩
theorem hzn_up (s : Sx) (p c : Nat) : hzn (up s 0 p c) = hzn s := by simp [hzn, up]
theorem pair_w {w : Int32} (q : isin w 2 = true) : w = 0 ∨ w = 1 := by rw [isin_2] at q; simpa using q
theorem y_master {v w : Int32} {K : KI} (hM : EnM I J sc L s ps g) (h : ∀ I' J', EnM I' J' sc L s ps g → K (r_master sc L s v w) I' J') : CalI wM (d + 8) mX13_master [.ref 0, .int v, .int w] I J K := by
  obtain ⟨hC, hV, hy, -⟩ := id hM
  have hP := hV.2.2.1
  have hF := hV.2.2.2.1
  refine Cal.of (by decide) (Nat.le_of_ble_eq_true rfl) (bX13_master_0 (m_isPerson (d := d + 6) hC ⟨fun q => ?_, fun q => m_isInC (n := 1) (by omega) ⟨fun q2 => ?_, fun q2 => ?_⟩⟩))
  · rw [b01_0] at q; rw [r_master, if_neg (by simp [q])] at h; exact h I J hM
  case refine_3 =>
    rw [b01_0, isin_2] at q2
    rw [r_master, if_neg (fun z => by simp [z.2] at q2)] at h
    exact h I J hM
  rw [b01_n] at q q2
  have hw := pair_w q2
  obtain ⟨ev, h8⟩ := isin_t q
  rw [r_master, if_pos ⟨q, hw⟩] at h
  generalize hj : idx v = j at *
  subst ev
  have key : ∀ n k I1 J1, k + n = sc 0 1 → Th I J I1 J1 → EnV I1 sc s → GoI wM (d + 7 + 1) mX13_master 33 [(0, .ref 0), (1, .int (nI j)), (2, .int w), (3, .int (mI (fmL sc L s j k).2.1)), (4, .int (nI (if (fmL sc L s j k).2.1 = 0 then 41 else (fmL sc L s j k).1))), (5, .int (nI k))] [] I1 J1 K := by
    intro n
    induction n with
    | zero =>
      intro k I1 J1 hk hT hV1
      obtain rfl : k = sc 0 1 := by omega
      refine bX13_master_33 (m_pm (hC.Z hT.1) ⟨fun _ => m_takesBack (d := d + 6) hM hT (fun I3 hM3 => ?_), fun q => absurd (nI_le (Nat.le_refl _) (by omega)) q⟩)
      have hI := fmI_all (sc := sc) (L := L) (s := s) (p := j) (sc 0 1)
      have hle := fmL_le sc L s j (sc 0 1)
      have hz := hzn_le s hy.1
      have hh := h I3 J1 hM3
      rw [mI_m1 (by omega)]
      unfold pp2 at hh
      refine ⟨fun z => ?_, fun z => ?_⟩
      · rw [if_neg z]
        rw [hI.2 z, mI_s] at hh
        exact ⟨fun z2 => by rw [if_neg z2] at hh; exact hh, fun z2 => by rw [if_pos z2] at hh; exact hh⟩
      · have e22 : ∀ k, (fmL sc L s j k).2.1 = 0 → (fmL sc L s j k).2.2 = 0 := by
          intro k
          induction k with
          | zero => intro _; rfl
          | succ k ih =>
            intro z
            simp only [fmL] at z ⊢
            split at z
            · next y => rw [if_pos y]; exact ih z
            · next y =>
              rw [if_neg y]
              unfold fmS at z ⊢
              split at z
              · next y2 => rw [if_pos y2]; exact ih z
              · next y2 =>
                rw [if_neg y2]
                split at z
                · next y3 => rw [if_pos y3]; exact ih z
                · exact absurd z (by simp)
        rw [z, e22 _ z] at hh
        have e1 : (if w = 0 then mI 0 else mI 0) = -1 := by split <;> rfl
        rw [e1] at hh
        exact hh
    | succ n ih =>
      intro k I1 J1 hk hT hV1
      have hC1 := hC.Z hT.1
      have hI := fmI_all (sc := sc) (L := L) (s := s) (p := j) k
      have hle := fmL_le sc L s j k
      have hz := hzn_le s hy.1
      refine bX13_master_33 (m_pm hC1 ⟨fun q => absurd ((nI_leI (by omega) (by omega)).mp q) (by omega), fun _ => m_taughtBy (d := d + 6) hV1 hy.2 (by omega) (by omega) ?_⟩)
      rw [nI_1]
      by_cases hab : k = j ∨ anc s j 8 (s 0 k) = true
      · have e : (decide (k = j) || anc s j 8 (s 0 k)) = true := by rcases hab with z | z <;> simp [z]
        rw [e]
        refine ⟨fun q => absurd q (by decide), fun _ => ?_⟩
        have e1 : fmL sc L s j (k + 1) = fmL sc L s j k := by
          simp only [fmL]
          split
          · rfl
          · rw [fmS, if_pos hab]
        have := ih (k + 1) I1 J1 (by omega) hT hV1
        rw [e1] at this
        exact this
      · have e : (decide (k = j) || anc s j 8 (s 0 k)) = false := by
          have h1 : ¬ k = j := fun z => hab (Or.inl z)
          have h2 : anc s j 8 (s 0 k) = false := by
            rcases Bool.eq_false_or_eq_true (anc s j 8 (s 0 k)) with z | z
            · exact absurd (Or.inr z) hab
            · exact z
          simp [h1, h2]
        rw [e]
        refine ⟨fun _ => ?_, fun q => absurd rfl q⟩
        rw [ixP, nI_clamp (by omega)]
        refine ⟨vp_in_nI (by omega) (by omega), ?_⟩
        have hV2 : EnV (u2 I1 42 (1 + 5 * j) (nI k)) sc (up s 0 j (k + 1)) := by
          refine ⟨?_, up0_WFS hV.2.1 h8 (by omega), hP, hF, by simpa [up] using hV.2.2.2.2⟩
          have := hV1.1.upd 0 j (k + 1) (by omega)
          rw [if_pos rfl, mI_s] at this
          exact this
        have hT2 : Th I J (u2 I1 42 (1 + 5 * j) (nI k)) J1 := hT.V (fun a ha => u2_row ha) (fun i hi => u2_k (by omega))
        refine m_yearsTill (d := d) hC hT2 hV2 (by simpa [up] using hy.1) h8 (fun I3 J3 hT3 => m_triesAnew hT3 (fun I4 hT4 h4 _ => ?_))
        have hV4 := hM.back hT4 h4
        rw [hzn_up]
        generalize hFF : fyr sc L (fun t => decide (bq (t 4 1) j = 1)) (hzn s) (up s 0 j (k + 1)) 0 = F
        have hFl : F ≤ hzn s + 1 := by rw [← hFF]; have := fyr_le sc L (fun t => decide (bq (t 4 1) j = 1)) (hzn s) (up s 0 j (k + 1)) 0; omega
        have hlim : ∀ c, 1 ≤ c → c ≤ hzn s + 1 → fyr sc L (fun t => decide (bq (t 4 1) j = 1)) (c - 1) (up s 0 j (k + 1)) 0 = if F ≤ c then F else 0 := fun c c1 c2 => by
          rw [fyr_lim (hzn s) (c - 1) _ _ (by omega), hFF, show 0 + (c - 1) + 1 = c by omega]
        have e1 : fmL sc L s j (k + 1) = if (fmL sc L s j k).1 = 0 then fmL sc L s j k else if F ≤ (fmL sc L s j k).1 ∧ F ≠ 0 then (F - 1, k + 1, F) else fmL sc L s j k := by
          simp only [fmL]
          by_cases z : (fmL sc L s j k).1 = 0
          · rw [if_pos z, if_pos z]
          · rw [if_neg z, if_neg z, fmS, if_neg hab, hlim _ (by omega) (by omega)]
            by_cases z2 : F ≤ (fmL sc L s j k).1
            · rw [if_pos z2]
              by_cases z3 : F = 0
              · rw [if_pos z3, if_neg (fun y => y.2 z3)]
              · rw [if_neg z3, if_pos ⟨z2, z3⟩]
            · rw [if_neg z2, if_pos rfl, if_neg (fun y => z2 y.1)]
        have hcmp : (nI (if F = 0 then 41 else F - 1) < nI (if (fmL sc L s j k).2.1 = 0 then 41 else (fmL sc L s j k).1)) ↔ (F ≠ 0 ∧ F - 1 < (if (fmL sc L s j k).2.1 = 0 then 41 else (fmL sc L s j k).1)) := by
          have b1 : (if F = 0 then 41 else F - 1) ≤ 41 := by split <;> omega
          have b2 : (if (fmL sc L s j k).2.1 = 0 then 41 else (fmL sc L s j k).1) ≤ 41 := by split <;> omega
          rw [nI_ltI (by omega) (by omega)]
          by_cases z : F = 0
          · rw [if_pos z]; exact ⟨fun y => by omega, fun y => absurd z y.1⟩
          · rw [if_neg z]; exact ⟨fun y => ⟨z, y⟩, fun y => y.2⟩
        rw [hcmp]
        have hih := ih (k + 1) I4 J3 (by omega) hT4 hV4
        by_cases hb : (fmL sc L s j k).2.1 = 0
        · have h1 := hI.1 hb
          rw [if_pos hb]
          refine ⟨fun y => ?_, fun y => ?_⟩
          · rw [e1, if_neg (by omega), if_pos ⟨by omega, y.1⟩] at hih
            rw [if_neg y.1]
            simp only [mI_s] at hih
            rw [if_neg (by omega)] at hih
            exact hih
          · rw [e1, if_neg (by omega), if_neg (fun z => y ⟨z.2, by omega⟩), if_pos hb] at hih
            exact hih
        · rw [if_neg hb]
          refine ⟨fun y => ?_, fun y => ?_⟩
          · rw [e1, if_neg (by omega), if_pos ⟨by omega, y.1⟩] at hih
            rw [if_neg y.1]
            simp only [mI_s] at hih
            rw [if_neg (by omega)] at hih
            exact hih
          · have e2 : fmL sc L s j (k + 1) = fmL sc L s j k := by
              rw [e1]
              split
              · rfl
              · next z => rw [if_neg (fun z2 => y ⟨z2.2, by omega⟩)]
            rw [e2, if_neg hb] at hih
            exact hih
  refine m_putsAside (fun I1 hT h1 => ?_)
  have := key (sc 0 1) 0 I1 J (by omega) hT (hM.back hT (fun k _ => h1 k))
  exact this
theorem m_docBehind {I1 : Ii} {J1 : Jj} {t : Sx} {n : Nat} {K : KI} (hM : EnM I J sc L s ps g) (hT : Th I J I1 J1) (hV : EnV I1 sc t) (hy : t 4 0 + n ≤ 2000) (hp : p < sc 0 1) (h : ∀ I2 J2, Th I J I2 J2 → EnV I2 sc s → K (b01 (decide (fyr sc L (fun t => decide (bq (t 4 2) p = 1)) n t 0 ≠ 0))) I2 J2) : CalI wM (d + 8) mX13_isDoctorBehind [.ref 0, .int (nI p), .int (nI n)] I1 J1 K := by
  have hP := hV.2.2.1
  refine Cal.of (by decide) (Nat.le_of_ble_eq_true rfl) (bX13_isDoctorBehind_0 (m_thinks (d := d) hM.1 hT hV hy (fun I2 J2 hT2 hV2 _ => m_isDoctor hV2 hp (m_triesAnew hT2 (fun I3 hT3 h3 _ => ?_)))))
  have := h I3 J2 hT3 (hM.back hT3 h3)
  have e := fyr_doc (L := L) hV.2.2.2.1 hP (show p < 8 by omega) n t 0 hV.2.1
  rcases bq01 (yrs sc L t n 4 2) p with z | z
  · rw [z]
    rw [decide_eq_false (fun y => by rw [e, z] at y; omega)] at this
    exact ⟨Or.inl rfl, this⟩
  · rw [z]
    rw [decide_eq_true (e.mpr z)] at this
    exact ⟨Or.inr rfl, this⟩
theorem giS_st {n to k : Nat} {st : Nat × Nat × Nat} (h : (st.1 = 0 → st.2.1 = 0 ∧ st.2.2 = 10) ∧ (st.1 ≠ 0 → 1 ≤ st.2.1 ∧ st.2.1 ≤ sc 0 0 ∧ st.2.2 = sc 2 (st.2.1 - 1) ∧ st.1 ≤ 8)) (hk : k < sc 0 0) (ht : to < 8) : ((giS sc L s p n to k st).1 = 0 → (giS sc L s p n to k st).2.1 = 0 ∧ (giS sc L s p n to k st).2.2 = 10) ∧ ((giS sc L s p n to k st).1 ≠ 0 → 1 ≤ (giS sc L s p n to k st).2.1 ∧ (giS sc L s p n to k st).2.1 ≤ sc 0 0 ∧ (giS sc L s p n to k st).2.2 = sc 2 ((giS sc L s p n to k st).2.1 - 1) ∧ (giS sc L s p n to k st).1 ≤ 8) := by
  unfold giS
  split
  · exact h
  · exact ⟨fun z => absurd z (by simp), fun _ => ⟨by simp, by simp; omega, by simp, by simp; omega⟩⟩
theorem giF_st {n to : Nat} {st : Nat × Nat × Nat} (h : (st.1 = 0 → st.2.1 = 0 ∧ st.2.2 = 10) ∧ (st.1 ≠ 0 → 1 ≤ st.2.1 ∧ st.2.1 ≤ sc 0 0 ∧ st.2.2 = sc 2 (st.2.1 - 1) ∧ st.1 ≤ 8)) (ht : to < 8) : ∀ k, k ≤ sc 0 0 → ((giF sc L s p n to st k).1 = 0 → (giF sc L s p n to st k).2.1 = 0 ∧ (giF sc L s p n to st k).2.2 = 10) ∧ ((giF sc L s p n to st k).1 ≠ 0 → 1 ≤ (giF sc L s p n to st k).2.1 ∧ (giF sc L s p n to st k).2.1 ≤ sc 0 0 ∧ (giF sc L s p n to st k).2.2 = sc 2 ((giF sc L s p n to st k).2.1 - 1) ∧ (giF sc L s p n to st k).1 ≤ 8)
  | 0, _ => h
  | k + 1, hk => giS_st (giF_st h ht k (by omega)) (by omega) ht
theorem y_gift {v n w : Int32} {K : KI} (hM : EnM I J sc L s ps g) (h : ∀ I' J', EnM I' J' sc L s ps g → K (r_gift sc L s v n w) I' J') : CalI wM (d + 9) mX13_gift [.ref 0, .int v, .int n, .int w] I J K := by
  obtain ⟨hC, hV, hy, -⟩ := id hM
  have hP := hV.2.2.1
  have hF := hV.2.2.2.1
  refine Cal.of (by decide) (Nat.le_of_ble_eq_true rfl) (bX13_gift_0 (m_isPerson (d := d + 7) hC ⟨fun q => ?_, fun q => m_isAhead (m := 20) (d := d + 7) hV hy.1 (by omega) ⟨fun q3 => ?_, fun q3 => m_isInC (n := 1) (by omega) ⟨fun q2 => ?_, fun q2 => ?_⟩⟩⟩))
  · rw [b01_0] at q; rw [r_gift, if_neg (by simp [q])] at h; exact h I J hM
  · rw [b01_0] at q3; rw [r_gift, if_neg (by simp [q3])] at h; exact h I J hM
  case refine_4 =>
    rw [b01_0, isin_2] at q2
    rw [r_gift, if_neg (fun z => by simp [z.2.1] at q2)] at h
    exact h I J hM
  rw [b01_n] at q q2 q3
  have hw := pair_w q2
  obtain ⟨ev, h8⟩ := isin_t q
  obtain ⟨en, -, hyn⟩ := rch_t q3
  rw [r_gift, if_pos ⟨q, hw, q3⟩] at h
  generalize hj : idx v = j at *
  generalize hi : idx n = m at *
  subst ev
  subst en
  have fin : ∀ (st : Nat × Nat × Nat), st.1 ≤ 8 → (st.1 = 0 → st.2.1 = 0) → (∀ I' J', EnM I' J' sc L s ps g → K (pp2 w (mI st.1) (mI st.2.1)) I' J') → ∀ I1 J1, Th I J I1 J1 → CalV wM (d + 8) mX13_takesBack [.ref 0] I1 J1 (fun I5 J6 => (((¬ mI st.1 = ((-1))) → (((¬ w = 0) → (K (mI st.2.1) I5 J6)) ∧ ((w = 0) → (K (mI st.1) I5 J6)))) ∧ ((mI st.1 = ((-1))) → (K ((-1)) I5 J6)))) := by
    intro st h1 h2 hK I1 J1 hT
    refine m_takesBack (d := d + 7) hM hT (fun I3 hM3 => ?_)
    have hh := hK I3 J1 hM3
    unfold pp2 at hh
    rw [mI_m1 h1]
    refine ⟨fun z => ⟨fun z2 => by rw [if_neg z2] at hh; exact hh, fun z2 => by rw [if_pos z2] at hh; exact hh⟩, fun z => ?_⟩
    rw [z, h2 z] at hh
    have e1 : (if w = 0 then mI 0 else mI 0) = -1 := by split <;> rfl
    rw [e1] at hh
    exact hh
  refine m_putsAside (fun I1 hT h1 => ?_)
  have hV1 := hM.back hT (fun k _ => h1 k)
  refine m_docBehind (d := d) hM hT hV1 (by omega) h8 (fun I2 J2 hT2 hV2 => ?_)
  by_cases hd : fyr sc L (fun t => decide (bq (t 4 2) j = 1)) m s 0 ≠ 0
  · rw [decide_eq_true hd]
    rw [gft, if_pos hd] at h
    refine bX13_gift_52 (m_pm (hC.Z hT2.1) ⟨fun _ => ?_, fun _ => ⟨fun _ => ?_, fun z => absurd z (by decide)⟩⟩)
    · exact fin (0, 0, 10) (by simp) (fun _ => rfl) h I2 J2 hT2
    · exact fin (0, 0, 10) (by simp) (fun _ => rfl) h I2 J2 hT2
  rw [decide_eq_false hd]
  rw [gft, if_neg hd] at h
  have inner : ∀ (to : Nat) (st0 : Nat × Nat × Nat), to < sc 0 1 → ((st0.1 = 0 → st0.2.1 = 0 ∧ st0.2.2 = 10) ∧ (st0.1 ≠ 0 → 1 ≤ st0.2.1 ∧ st0.2.1 ≤ sc 0 0 ∧ st0.2.2 = sc 2 (st0.2.1 - 1) ∧ st0.1 ≤ 8)) → (∀ I3 J3, Th I J I3 J3 → EnV I3 sc s → GoI wM (d + 8 + 1) mX13_gift 52 [(0, .ref 0), (1, .int (nI j)), (2, .int (nI m)), (3, .int w), (4, .int (mI (giF sc L s j m to st0 (sc 0 0)).1)), (5, .int (mI (giF sc L s j m to st0 (sc 0 0)).2.1)), (6, .int 0), (7, .int (nI (to + 1)))] [] I3 J3 K) →
      ∀ e k I3 J3, k + e = sc 0 0 → Th I J I3 J3 → EnV I3 sc s → GoI wM (d + 8 + 1) mX13_gift 69 [(0, .ref 0), (1, .int (nI j)), (2, .int (nI m)), (3, .int w), (4, .int (mI (giF sc L s j m to st0 k).1)), (5, .int (mI (giF sc L s j m to st0 k).2.1)), (6, .int 0), (7, .int (nI to)), (8, .int (nI k))] [] I3 J3 K := by
    intro to st0 hto hst hnx e
    induction e with
    | zero =>
      intro k I3 J3 hk hT3 hV3
      obtain rfl : k = sc 0 0 := by omega
      refine bX13_gift_69 (m_fm (hC.Z hT3.1) ⟨fun _ => ?_, fun q => absurd (nI_le (Nat.le_refl _) (by omega)) q⟩)
      rw [nI_1]
      exact hnx I3 J3 hT3 hV3
    | succ e ih =>
      intro k I3 J3 hk hT3 hV3
      have hC3 := hC.Z hT3.1
      have hs := giF_st (L := L) (s := s) (p := j) (n := m) hst (show to < 8 by omega) k (by omega)
      have hwk := hC3.2.2.2.2.2.1 k (by omega)
      have same : giF sc L s j m to st0 (k + 1) = giF sc L s j m to st0 k → ∀ I4 J4, Th I J I4 J4 → EnV I4 sc s → GoI wM (d + 8 + 1) mX13_gift 69 [(0, .ref 0), (1, .int (nI j)), (2, .int (nI m)), (3, .int w), (4, .int (mI (giF sc L s j m to st0 k).1)), (5, .int (mI (giF sc L s j m to st0 k).2.1)), (6, .int 0), (7, .int (nI to)), (8, .int (nI k + 1))] [] I4 J4 K := fun es I4 J4 hT4 hV4 => by
        have := ih (k + 1) I4 J4 (by omega) hT4 hV4
        rw [es] at this
        rw [nI_1]
        exact this
      have trial : ¬ ((giF sc L s j m to st0 k).2.2 ≤ sc 2 k) → bel s to k ≠ 1 → CalV wM (d + 8) mX13_makes [.ref (0), .int (nI to), .int (nI k), .int (1)] I3 J3 (fun I10 J11 => (CalI wM (d + 8) mX13_isDoctorBehind [.ref (0), .int (nI j), .int (nI m)] I10 J11 (fun x14 I12 J13 => (((¬ x14 = 0) → (GoI wM (d + 8 + 1) mX13_gift 69 [(0, .ref (0)), (1, .int (nI j)), (2, .int (nI m)), (3, .int w), (4, .int (nI to)), (5, .int (nI k)), (6, .int 0), (7, .int (nI to)), (8, .int (nI k + 1))] [] I12 J13 K)) ∧ ((x14 = 0) → (GoI wM (d + 8 + 1) mX13_gift 69 [(0, .ref (0)), (1, .int (nI j)), (2, .int (nI m)), (3, .int w), (4, .int (mI (giF sc L s j m to st0 k).1)), (5, .int (mI (giF sc L s j m to st0 k).2.1)), (6, .int 0), (7, .int (nI to)), (8, .int (nI k + 1))] [] I12 J13 K)))))) := fun y1 y2 => by
        refine m_makes (b := 1) hV3 hto (by omega) (Or.inl rfl) (fun I4 hV4 f4 h4 => ?_)
        refine m_docBehind (d := d) hM (hT3.V f4 h4) hV4 (by rw [blv_m _ _ _ _ 4 (by omega) (by omega)]; omega) h8 (fun I5 J5 hT5 hV5 => ?_)
        have eB : giB sc L s j m to k = decide (fyr sc L (fun t => decide (bq (t 4 2) j = 1)) m (blv s to k 1) 0 ≠ 0) := rfl
        rw [← eB]
        rcases Bool.eq_false_or_eq_true (giB sc L s j m to k) with z | z
        · rw [z]
          refine ⟨fun _ => ?_, fun q => absurd q (by decide)⟩
          have es : giF sc L s j m to st0 (k + 1) = (to + 1, k + 1, sc 2 k) := by
            show giS sc L s j m to k (giF sc L s j m to st0 k) = _
            rw [giS, if_neg (fun y => by rcases y with y | y | y; exact y1 y; exact y2 y; rw [z] at y; exact absurd y (by decide))]
          have := ih (k + 1) I5 J5 (by omega) hT5 hV5
          rw [es] at this
          simp only [mI_s] at this
          rw [nI_1]
          exact this
        · rw [z]
          refine ⟨fun q => absurd rfl q, fun _ => same ?_ I5 J5 hT5 hV5⟩
          show giS sc L s j m to k (giF sc L s j m to st0 k) = _
          rw [giS, if_pos (Or.inr (Or.inr z))]
      refine bX13_gift_69 (m_fm hC3 ⟨fun q => absurd ((nI_leI (by omega) (by omega)).mp q) (by omega), fun _ => m_isOf (d := d + 7) hV3 hto (by omega) ⟨fun q => ?_, fun q => ?_⟩⟩)
      · have hb : bel s to k = 1 := (nI_eq (b := 1) (by have := bel3 s to k; omega) (by decide)).mp q
        refine same ?_ I3 J3 hT3 hV3
        show giS sc L s j m to k (giF sc L s j m to st0 k) = _
        rw [giS, if_pos (Or.inr (Or.inl hb))]
      · have hb : bel s to k ≠ 1 := fun z => q (by rw [z]; rfl)
        by_cases h0 : (giF sc L s j m to st0 k).1 = 0
        · rw [h0]
          rw [h0] at trial
          refine ⟨fun _ => trial (by rw [(hs.1 h0).2]; omega) hb, fun q => absurd rfl q⟩
        · obtain ⟨g1, g2, g3, g4⟩ := hs.2 h0
          obtain ⟨o, eo⟩ : ∃ o, (giF sc L s j m to st0 k).2.1 = o + 1 := ⟨(giF sc L s j m to st0 k).2.1 - 1, by omega⟩
          have hwo := hC3.2.2.2.2.2.1 o (by omega)
          refine ⟨fun z => absurd ((mI_m1 g4).mp z) h0, fun _ => ?_⟩
          rw [eo, mI_s, ix8, ix8, nI_clamp (by omega), nI_clamp (by omega), hwk.2.2.1, hwo.2.2.1]
          rw [eo, mI_s] at trial same
          rw [eo, Nat.add_sub_cancel] at g3
          refine ⟨vp_in_nI (by omega) (by omega), vp_in_nI (by omega) (by omega), fun z => ?_, fun z => ?_⟩
          · have := (nI_ltI (by omega) (by omega)).mp z
            exact trial (by rw [g3]; omega) hb
          · have : ¬ sc 2 k < sc 2 o := fun y => z (nI_lt y (by omega))
            refine same ?_ I3 J3 hT3 hV3
            show giS sc L s j m to k (giF sc L s j m to st0 k) = _
            rw [giS, if_pos (Or.inl (by rw [g3]; omega))]
  have outer : ∀ e to I3 J3, to + e = sc 0 1 → Th I J I3 J3 → EnV I3 sc s → ((giL sc L s j m to).1 = 0 → (giL sc L s j m to).2.1 = 0 ∧ (giL sc L s j m to).2.2 = 10) ∧ ((giL sc L s j m to).1 ≠ 0 → 1 ≤ (giL sc L s j m to).2.1 ∧ (giL sc L s j m to).2.1 ≤ sc 0 0 ∧ (giL sc L s j m to).2.2 = sc 2 ((giL sc L s j m to).2.1 - 1) ∧ (giL sc L s j m to).1 ≤ 8) → GoI wM (d + 8 + 1) mX13_gift 52 [(0, .ref 0), (1, .int (nI j)), (2, .int (nI m)), (3, .int w), (4, .int (mI (giL sc L s j m to).1)), (5, .int (mI (giL sc L s j m to).2.1)), (6, .int 0), (7, .int (nI to))] [] I3 J3 K := by
    intro e
    induction e with
    | zero =>
      intro to I3 J3 hk hT3 hV3 hst
      obtain rfl : to = sc 0 1 := by omega
      refine bX13_gift_52 (m_pm (hC.Z hT3.1) ⟨fun _ => ?_, fun q => absurd (nI_le (Nat.le_refl _) (by omega)) q⟩)
      exact fin _ (by by_cases z : (giL sc L s j m (sc 0 1)).1 = 0; omega; exact (hst.2 z).2.2.2) (fun z => (hst.1 z).1) h I3 J3 hT3
    | succ e ih =>
      intro to I3 J3 hk hT3 hV3 hst
      refine bX13_gift_52 (m_pm (hC.Z hT3.1) ⟨fun q => absurd ((nI_leI (by omega) (by omega)).mp q) (by omega), fun _ => ⟨fun z => absurd rfl z, fun _ => ?_⟩⟩)
      refine inner to (giL sc L s j m to) (by omega) hst (fun I4 J4 hT4 hV4 => ih (to + 1) I4 J4 (by omega) hT4 hV4 ?_) (sc 0 0) 0 I3 J3 (by omega) hT3 hV3
      exact giF_st hst (by omega) (sc 0 0) (by omega)
  exact outer (sc 0 1) 0 I2 J2 (by omega) hT2 hV2 ⟨fun _ => ⟨rfl, rfl⟩, fun z => absurd rfl z⟩
theorem y_law {n w : Int32} {K : KI} (hM : EnM I J sc L s ps g) (h : ∀ I' J', EnM I' J' sc L s ps g → K (r_law sc L s n w) I' J') : CalI wM (d + 8) mX13_law [.ref 0, .int n, .int w] I J K := by
  obtain ⟨hC, hV, hy, -⟩ := id hM
  have hP := hV.2.2.1
  have hF := hV.2.2.2.1
  refine Cal.of (by decide) (Nat.le_of_ble_eq_true rfl) (bX13_law_0 (m_isAhead (m := 20) (d := d + 6) hV hy.1 (by omega) ⟨fun q3 => ?_, fun q3 => m_isInC (n := 1) (by omega) ⟨fun q2 => ?_, fun q2 => ?_⟩⟩))
  · rw [b01_0] at q3; rw [r_law, if_neg (by simp [q3])] at h; exact h I J hM
  case refine_3 =>
    rw [b01_0, isin_2] at q2
    rw [r_law, if_neg (fun z => by simp [z.1] at q2)] at h
    exact h I J hM
  rw [b01_n] at q2 q3
  have hw := pair_w q2
  obtain ⟨en, -, hyn⟩ := rch_t q3
  rw [r_law, if_pos ⟨hw, q3⟩] at h
  generalize hi : idx n = m at *
  subst en
  have inner : ∀ t b c, t ≤ 9 → (∀ I3 J3, Th I J I3 J3 → EnV I3 sc s → (((c < nI (dwt sc L s m t)) → (GoI wM (d + 7 + 1) mX13_law 35 [(0, .ref (0)), (1, .int (nI m)), (2, .int w), (3, .int (nI t)), (4, .int (nI (dwt sc L s m t))), (5, .int (nI t + 1))] [] I3 J3 K)) ∧ ((¬ c < nI (dwt sc L s m t)) → (GoI wM (d + 7 + 1) mX13_law 35 [(0, .ref (0)), (1, .int (nI m)), (2, .int w), (3, .int b), (4, .int c), (5, .int (nI t + 1))] [] I3 J3 K)))) →
      ∀ e k I3 J3, k + e = sc 0 1 → Th I J I3 J3 → EnV I3 sc (lftN s t k) → GoI wM (d + 7 + 1) mX13_law 45 [(0, .ref 0), (1, .int (nI m)), (2, .int w), (3, .int b), (4, .int c), (5, .int (nI t)), (6, .int (nI k))] [] I3 J3 K := by
    intro t b c ht hnx e
    induction e with
    | zero =>
      intro k I3 J3 hk hT3 hV3
      obtain rfl : k = sc 0 1 := by omega
      refine bX13_law_45 (m_pm (hC.Z hT3.1) ⟨fun _ => ?_, fun q => absurd (nI_le (Nat.le_refl _) (by omega)) q⟩)
      refine m_thinks (d := d) hC hT3 hV3 (by rw [lftN_m _ _ _ 4 (by omega)]; omega) (fun I4 J4 hT4 hV4 _ => ?_)
      have h8 := p2_8 hP
      have h2 := hV4.2.1.2.2.1
      refine m_thoseWho (i := 2) (d := d + 6) (hC.Z hT4.1) hV4 (Or.inr rfl) (m_bits (by omega) (m_triesAnew hT4 (fun I5 hT5 h5 _ => hnx I5 J4 hT5 (hM.back hT5 h5))))
    | succ e ih =>
      intro k I3 J3 hk hT3 hV3
      have h41 : lftN s t k 4 1 = s 4 1 := by rw [lftN_m _ _ _ 4 (by omega)]
      refine bX13_law_45 (m_pm (hC.Z hT3.1) ⟨fun q => absurd ((nI_leI (by omega) (by omega)).mp q) (by omega), fun _ => m_hasPassed hV3 (by omega) ?_⟩)
      rw [h41, nI_1]
      rcases bq01 (s 4 1) k with z | z
      · rw [z]
        refine ⟨fun q => absurd rfl q, fun _ => ?_⟩
        rw [ixP, nI_3, nI_clamp (by omega), show 1 + 5 * k + 3 = 1 + 3 + 5 * k by omega]
        refine ⟨vp_in_nI (by omega) (by omega), ih (k + 1) _ J3 (by omega) (hT3.V (fun a ha => u2_row ha) (fun i hi => u2_k (by omega))) ?_⟩
        rw [← lftN_s s t k z]
        exact ⟨hV3.1.upd 3 k t (by omega), up3_WFS hV3.2.1 ht, hP, hF, by simpa [up] using hV3.2.2.2.2⟩
      · rw [z]
        refine ⟨fun _ => ih (k + 1) I3 J3 (by omega) hT3 ?_, fun q => absurd q (by decide)⟩
        rw [← lftN_no s t k z]
        exact hV3
  have outer : ∀ e t I3 J3, t + e = 10 → Th I J I3 J3 → EnV I3 sc s → GoI wM (d + 7 + 1) mX13_law 35 [(0, .ref 0), (1, .int (nI m)), (2, .int w), (3, .int (if t = 0 then 0 else mI (trL sc L s m t).1)), (4, .int (mI (trL sc L s m t).2)), (5, .int (nI t))] [] I3 J3 K := by
    intro e
    induction e with
    | zero =>
      intro t I3 J3 hk hT3 hV3
      obtain rfl : t = 10 := by omega
      rw [if_neg (show ¬ (10 : Nat) = 0 by omega)]
      generalize trL sc L s m 10 = T at h ⊢
      refine bX13_law_35 ⟨fun _ => m_takesBack (d := d + 6) hM hT3 (fun I4 hM4 => ?_), fun q => absurd (by decide) q⟩
      have hh := h I4 J3 hM4
      unfold pp2 at hh
      exact ⟨fun z => by rw [if_neg z] at hh; exact hh, fun z => by rw [if_pos z] at hh; exact hh⟩
    | succ e ih =>
      intro t I3 J3 hk hT3 hV3
      have hb := trL_b (sc := sc) (L := L) (s := s) m t
      have hdw : dwt sc L s m t ≤ 8 := pc8_le _
      refine bX13_law_35 ⟨fun q => absurd ((nI_ltI (a := 9) (by decide) (by omega)).mp q) (by omega), fun _ => ?_⟩
      refine inner t _ _ (by omega) (fun I4 J4 hT4 hV4 => ?_) (sc 0 1) 0 I3 J3 (by omega) hT3 ?_
      · have hih := ih (t + 1) I4 J4 (by omega) hT4 hV4
        rw [if_neg (by omega)] at hih
        have hc : (mI (trL sc L s m t).2 < nI (dwt sc L s m t)) ↔ ¬ dwt sc L s m t + 1 ≤ (trL sc L s m t).2 := by
          rw [Int32.lt_iff_toInt_lt, t_mI (by omega), nI_toInt (by omega)]
          omega
        rw [hc, nI_1]
        refine ⟨fun z => ?_, fun z => ?_⟩
        · simp only [trL, if_neg z, mI_s] at hih
          exact hih
        · have z' : dwt sc L s m t + 1 ≤ (trL sc L s m t).2 := Classical.not_not.mp z
          simp only [trL, if_pos z'] at hih
          have t0 : t ≠ 0 := fun y => by subst y; simp [trL] at z'
          rw [if_neg t0]
          exact hih
      · have : lftN s t 0 = s := by funext a k; simp [lftN]
        rw [this]; exact hV3
  refine m_putsAside (fun I1 hT h1 => ?_)
  exact outer 10 0 I1 J (by omega) hT (hM.back hT (fun k _ => h1 k))
end MB

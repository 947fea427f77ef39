/-! the class's face: more that only asks -/
section SP
variable {d : Nat} {I : Ii} {J : Jj} {sc s t g : Sx} {L : Nat → List Nat} {ps : Nat → Sx}
def r_fact (sc s : Sx) (v w : Int32) : Int32 := if isin v (sc 0 0) = true then (if w = 0 then nI (sc 2 (idx v)) else if w = 1 then nI (pc8 (who s 1 (idx v))) else if w = 2 then nI (pc8 (who s 2 (idx v))) else -1) else -1
theorem x_fact {v w : Int32} {K : KI} (hX : EnX I sc L s ps g) (h : K (r_fact sc s v w) I J) : CalI wX (d + 3) mX12_fact [.ref 0, .int v, .int w] I J K := by
  obtain ⟨hC, hS, -⟩ := hX.1
  have hF := hC.1.2
  refine Cal.of (by decide) (Nat.le_of_ble_eq_true rfl) (bX12_fact_0 (s_isFact hC ⟨fun q => ?_, fun q => ?_⟩))
  · by_cases hv : isin v (sc 0 0) = true
    · obtain ⟨ev, h8⟩ := isin_t hv
      rw [r_fact, if_pos hv] at h
      generalize hj : idx v = j at *
      subst ev
      rw [nI_clamp (by omega), (hC.2.2.2.2.2.1 j h8).2.2.1]
      refine ⟨fun e => ⟨vp_in_nI (by omega) (by omega), ?_⟩, fun e => ?_, fun e => ?_, fun e0 e1 e2 => ?_⟩
      · subst e; exact h
      · subst e; exact s_whoHas (s := s) (i := 1) arX_21 hS.2.1 (by omega) (s_bitCount (who_lt _ _ _) h)
      · subst e; exact s_whoHas (s := s) (i := 2) arX_22 hS.2.2.1 (by omega) (s_bitCount (who_lt _ _ _) h)
      · simp only [e0, e1, e2, if_false] at h; exact h
    · rw [Bool.not_eq_true] at hv; rw [hv] at q; exact absurd rfl q
  · by_cases hv : isin v (sc 0 0) = true
    · rw [hv] at q; exact absurd q (by decide)
    · rw [r_fact, if_neg hv] at h; exact h
def r_person (sc s : Sx) (v w : Int32) : Int32 := if isin v (sc 0 1) = true then (if w = 0 then nI (sc 4 (idx v)) else if w = 1 then mI (s 0 (idx v)) else if w = 2 then nI (msk (fun k => s 0 k = idx v + 1) 8) else if w = 3 then nI (s 1 (idx v)) else if w = 4 then nI (s 2 (idx v)) else if w = 5 then nI (s 3 (idx v)) else if w = 6 then nI (bq (s 4 1) (idx v)) else if w = 7 then nI (bq (s 4 2) (idx v)) else -1) else -1
theorem x_person {v w : Int32} {K : KI} (hX : EnX I sc L s ps g) (h : K (r_person sc s v w) I J) : CalI wX (d + 3) mX12_person [.ref 0, .int v, .int w] I J K := by
  obtain ⟨hC, hS, -⟩ := hX.1
  have hP := hC.2.1.2
  refine Cal.of (by decide) (Nat.le_of_ble_eq_true rfl) (bX12_person_0 (s_isPerson hC ⟨fun q => ?_, fun q => ?_⟩))
  · by_cases hv : isin v (sc 0 1) = true
    · obtain ⟨ev, h8⟩ := isin_t hv
      rw [r_person, if_pos hv] at h
      generalize hj : idx v = j at *
      subst ev
      rw [nI_clamp (by omega), (hC.2.2.2.2.2.2.1 j h8).2.2.1, (hS.1 j (by omega)).1, (hS.2.1 j (by omega)).1, (hS.2.2.1 j (by omega)).1, (hS.2.2.2.1 j (by omega)).1, hS.2.2.2.2.2.1.1, hS.2.2.2.2.2.2.1.1]
      have vin : vp_in (nI j) 8 := vp_in_nI (by omega) (by omega)
      refine ⟨fun e => ⟨vin, ?_⟩, fun e => ⟨vin, ?_⟩, fun e => ?_, fun e => ⟨vin, ?_⟩, fun e => ⟨vin, ?_⟩, fun e => ⟨vin, ?_⟩, fun e => ?_, fun e => ?_, fun e0 e1 e2 e3 e4 e5 e6 e7 => ?_⟩
      · subst e; exact h
      · subst e; exact h
      · subst e; exact s_pupilsOf obX_19 hS (by omega) h
      · subst e; exact h
      · subst e; exact h
      · subst e; exact h
      · subst e
        refine s_hasBit hS.2.2.2.2.2.1.2 (by omega) ?_
        simp only [show ¬ (6 : Int32) = 0 by decide, show ¬ (6 : Int32) = 1 by decide, show ¬ (6 : Int32) = 2 by decide, show ¬ (6 : Int32) = 3 by decide, show ¬ (6 : Int32) = 4 by decide, show ¬ (6 : Int32) = 5 by decide, if_false, if_true] at h
        rcases bq01 (s 4 1) j with e | e
        · rw [e] at h ⊢; exact ⟨fun _ => h, fun z => absurd rfl z⟩
        · rw [e] at h ⊢; exact ⟨fun z => absurd z (by decide), fun _ => h⟩
      · subst e
        refine s_hasBit hS.2.2.2.2.2.2.1.2 (by omega) ?_
        simp only [show ¬ (7 : Int32) = 0 by decide, show ¬ (7 : Int32) = 1 by decide, show ¬ (7 : Int32) = 2 by decide, show ¬ (7 : Int32) = 3 by decide, show ¬ (7 : Int32) = 4 by decide, show ¬ (7 : Int32) = 5 by decide, show ¬ (7 : Int32) = 6 by decide, if_false, if_true] at h
        rcases bq01 (s 4 2) j with e | e
        · rw [e] at h ⊢; exact ⟨fun _ => h, fun z => absurd rfl z⟩
        · rw [e] at h ⊢; exact ⟨fun z => absurd z (by decide), fun _ => h⟩
      · simp only [e0, e1, e2, e3, e4, e5, e6, e7, if_false] at h; exact h
    · rw [Bool.not_eq_true] at hv; rw [hv] at q; exact absurd rfl q
  · by_cases hv : isin v (sc 0 1) = true
    · rw [hv] at q; exact absurd q (by decide)
    · rw [r_person, if_neg hv] at h; exact h
/-- a call that begins with isPerson -/
theorem b01_0 {b : Bool} : (b01 b = 0) ↔ b = false := by cases b <;> simp [b01]
theorem b01_n {b : Bool} : (¬ b01 b = 0) ↔ b = true := by cases b <;> simp [b01]
theorem iI_l {z : Int} (h : sm z) : (iI z).toInt64 = lI z := by
  apply i64_ext
  rw [Int32.toInt_toInt64, sm_t h, lI_t (by unfold sm at h; omega) (by unfold sm at h; omega)]
def r_marks (sc s : Sx) (v : Int32) : Int64 := if isin v (sc 0 1) = true then lI (mrk sc s (idx v)) else -1000000000000000
theorem mrk_sm (hC : EnC I 3 sc L) (p : Nat) : sm (mrk sc s p) := by
  have hb := mrkN_b (sc := sc) (s := s) (p := p) (n := sc 0 0) (fun j hj => (hC.2.2.2.2.2.1 j hj).2.2.2)
  have := hC.1.2
  unfold mrk sm; omega
theorem x_marks {v : Int32} {K : KL} (hX : EnX I sc L s ps g) (h : K (r_marks sc s v) I J) : CalL wX (d + 3) mX12_marks [.ref 0, .int v] I J K := by
  obtain ⟨hC, hS, -⟩ := hX.1
  have hP := hC.2.1.2
  refine Cal.of (by decide) (Nat.le_of_ble_eq_true rfl) (bX12_marks_0 (s_isPerson hC ⟨fun q => ?_, fun q => ?_⟩))
  · rw [b01_0] at q; rw [r_marks, if_neg (by simp [q])] at h; exact h
  · rw [b01_n] at q
    obtain ⟨ev, h8⟩ := isin_t q
    rw [r_marks, if_pos q] at h
    generalize hj : idx v = j at *
    subst ev
    refine s_marksIn obX_3 obX_19 hC hS (by omega) ?_
    rw [iI_l (mrk_sm hC j)]
    exact h
def r_next (sc : Sx) (L : Nat → List Nat) (s : Sx) (v : Int32) : Int32 := if isin v (sc 0 1) = true then mI (lsn sc L s (idx v)) else -1
theorem x_next {v : Int32} {K : KI} (hX : EnX I sc L s ps g) (h : ∀ I', EnX I' sc L s ps g → K (r_next sc L s v) I' J) : CalI wX (d + 4) mX12_next [.ref 0, .int v] I J K := by
  obtain ⟨hC, hS, hW, -⟩ := hX.1
  have hP := hC.2.1.2
  refine Cal.of (by decide) (Nat.le_of_ble_eq_true rfl) (bX12_next_0 (s_isPerson hC ⟨fun q => ?_, fun q => ?_⟩))
  · rw [b01_0] at q; rw [r_next, if_neg (by simp [q])] at h; exact h I hX
  · rw [b01_n] at q
    obtain ⟨ev, h8⟩ := isin_t q
    rw [r_next, if_pos q] at h
    generalize hj : idx v = j at *
    subst ev
    exact s_lessonOf obX_19 hC hS h8 (hW.m hP j h8) (fun I' hf => h I' (hX.fr hf.X))
theorem n_rem (a d : Nat) : nI a - nI (a / d) * nI d = nI (a % d) := by
  rw [pk_mul, nI_sub (Nat.div_mul_le_self a d), Nat.mod_def, Nat.mul_comm]
def r_kept (s : Sx) (v w : Int32) : Int32 := if isin v (s 4 3) = true then (if w = 0 then nI (s 5 (idx v) / 4 / 8) else if w = 1 then nI (s 5 (idx v) / 4 % 8) else if w = 2 then nI (s 5 (idx v) % 4) else -1) else -1
theorem x_kept {v w : Int32} {K : KI} (hX : EnX I sc L s ps g) (h : K (r_kept s v w) I J) : CalI wX d mX12_kept [.ref 0, .int v, .int w] I J K := by
  obtain ⟨hC, hS, -⟩ := hX.1
  have hn := hS.2.2.2.2.2.2.2.1
  refine Cal.of (by decide) (Nat.le_of_ble_eq_true rfl) (bX12_kept_0 ?_)
  rw [hn.1]
  rcases i32_cases v with hv | ⟨j, hj, rfl⟩
  · rw [r_kept, isin_neg hv] at h
    exact ⟨fun _ => h, fun q => absurd hv q⟩
  · rw [r_kept, isin_nI hj, idx_nI hj] at h
    refine ⟨fun q => absurd q (nI_pos hj), fun _ => ⟨fun q => ?_, fun q => ⟨fun _ => ?_, fun q2 => ?_⟩⟩⟩
    · simp (disch := omega) only [Int32.le_iff_toInt_le, Int32.lt_iff_toInt_lt, ← Int32.toInt_inj, nI_toInt, t_bq, t_pc8, t_bel, t_mI, t_ite, t_dec, sm_t, Int32.reduceToInt, t_m1, t_0, t_1, t_2, t_3, t_8, Int.natCast_eq_zero, Int.ofNat_le, Int.ofNat_lt, Int.ofNat_inj, not_true_eq_false, not_false_eq_true, forall_const] at q
      rw [if_neg (by simp; omega)] at h; exact h
    · simp (disch := omega) only [Int32.le_iff_toInt_le, Int32.lt_iff_toInt_lt, ← Int32.toInt_inj, nI_toInt, t_bq, t_pc8, t_bel, t_mI, t_ite, t_dec, sm_t, Int32.reduceToInt, t_m1, t_0, t_1, t_2, t_3, t_8, Int.natCast_eq_zero, Int.ofNat_le, Int.ofNat_lt, Int.ofNat_inj, not_true_eq_false, not_false_eq_true, forall_const] at q
      have hr := hS.2.2.2.2.2.2.2.2 j (by omega)
      rw [if_pos (by simp; omega)] at h
      rw [nI_clamp hj, hr.1, show (4 : Int32) = nI 4 from rfl, show (8 : Int32) = nI 8 from rfl, pk_div (by omega) (by omega) (by omega), pk_div (by omega) (by omega) (by omega), n_rem, n_rem]
      have vin : vp_in (nI j) 30 := vp_in_nI (by omega) (by omega)
      refine ⟨fun e => ⟨vin, ?_⟩, fun e => ⟨vin, ?_⟩, fun e => ⟨vin, ?_⟩, fun e0 e1 e2 => ?_⟩
      · subst e; exact h
      · subst e; exact h
      · subst e; exact h
      · simp only [e0, e1, e2, if_false] at h; exact h
    · simp (disch := omega) only [Int32.le_iff_toInt_le, Int32.lt_iff_toInt_lt, ← Int32.toInt_inj, nI_toInt, t_bq, t_pc8, t_bel, t_mI, t_ite, t_dec, sm_t, Int32.reduceToInt, t_m1, t_0, t_1, t_2, t_3, t_8, Int.natCast_eq_zero, Int.ofNat_le, Int.ofNat_lt, Int.ofNat_inj, not_true_eq_false, not_false_eq_true, forall_const] at q
      exact absurd (nI_lt (b := 30) (by omega) (by decide)) q2
def r_later (sc : Sx) (L : Nat → List Nat) (s : Sx) (v w : Int32) : Int32 := if rch s 40 v = true then (if w = 0 then nI (yrs sc L s (idx v) 4 1) else if w = 1 then nI (yrs sc L s (idx v) 4 2) else if w = 2 then nI (cnt (yrs sc L s (idx v)) 2 8) else if w = 3 then nI (cnt (yrs sc L s (idx v)) 1 8) else -1) else -1
theorem rch_t {m : Nat} {v : Int32} (h : rch s m v = true) : v = nI (idx v) ∧ idx v ≤ m ∧ s 4 0 + idx v ≤ 999 := by
  simp only [rch, Bool.and_eq_true, decide_eq_true_eq] at h
  have := isin_t h.1
  exact ⟨this.1, by omega, h.2⟩
theorem x_later {v w : Int32} {K : KI} (hX : EnX I sc L s ps g) (h : ∀ I', EnX I' sc L s ps g → K (r_later sc L s v w) I' J) : CalI wX (d + 6) mX12_later [.ref 0, .int v, .int w] I J K := by
  refine Cal.of (by decide) (Nat.le_of_ble_eq_true rfl) (bX12_later_0 (s_reachesV (m := 40) hX.1.2.1 (by omega) ⟨fun q => ?_, fun q => ?_⟩))
  · rw [b01_n] at q
    obtain ⟨ev, -, hy⟩ := rch_t q
    rw [r_later, if_pos q] at h
    generalize hj : idx v = j at *
    subst ev
    refine s_after hX.1 hy (fun I' hS hf => ⟨rfl, ?_⟩)
    have hX' := hX.fr hf.X
    rw [hS.2.2.2.2.2.1.1, hS.2.2.2.2.2.2.1.1]
    refine ⟨fun e => ?_, fun e => ?_, fun e => ?_, fun e => ?_, fun e0 e1 e2 e3 => ?_⟩
    · subst e; exact h I' hX'
    · subst e; exact h I' hX'
    · subst e; exact s_countBits (s := yrs sc L s j) (i := 2) arX_40 hS.2.2.1 (h I' hX')
    · subst e; exact s_countBits (s := yrs sc L s j) (i := 1) arX_39 hS.2.1 (h I' hX')
    · simp only [e0, e1, e2, e3, if_false] at h; exact h I' hX'
  · rw [b01_0] at q; rw [r_later, if_neg (by simp [q])] at h; exact h I hX
def r_doctor (sc : Sx) (L : Nat → List Nat) (s : Sx) (v : Int32) : Int32 := if isin v (sc 0 1) = true then mI (fyr sc L (fun t => decide (bq (t 4 2) (idx v) = 1)) (hzn s) s 0) else -1
theorem x_doctor {v : Int32} {K : KI} (hX : EnX I sc L s ps g) (h : ∀ I', EnX I' sc L s ps g → K (r_doctor sc L s v) I' J) : CalI wX (d + 7) mX12_doctor [.ref 0, .int v] I J K := by
  have hP := hX.1.1.2.1.2
  refine Cal.of (by decide) (Nat.le_of_ble_eq_true rfl) (bX12_doctor_0 (s_isPerson hX.1.1 ⟨fun q => ?_, fun q => ?_⟩))
  · rw [b01_0] at q; rw [r_doctor, if_neg (by simp [q])] at h; exact h I hX
  · rw [b01_n] at q
    obtain ⟨ev, h8⟩ := isin_t q
    rw [r_doctor, if_pos q] at h
    generalize hj : idx v = j at *
    subst ev
    exact s_yearsToDoctor hX.1 (by omega) (fun I' hf => h I' (hX.fr hf.X))
def r_lost (sc : Sx) (L : Nat → List Nat) (s : Sx) (v : Int32) : Int32 := if isin v (sc 0 0) = true then mI (if sc 0 1 = 0 then 0 else fyr sc L (fun t => decide (who t 2 (idx v) = 2 ^ sc 0 1 - 1)) (hzn s) s 0) else -1
theorem x_lost {v : Int32} {K : KI} (hX : EnX I sc L s ps g) (h : ∀ I', EnX I' sc L s ps g → K (r_lost sc L s v) I' J) : CalI wX (d + 7) mX12_lost [.ref 0, .int v] I J K := by
  have hP := hX.1.1.1.2
  refine Cal.of (by decide) (Nat.le_of_ble_eq_true rfl) (bX12_lost_0 (s_isFact hX.1.1 ⟨fun q => ?_, fun q => ?_⟩))
  · rw [b01_0] at q; rw [r_lost, if_neg (by simp [q])] at h; exact h I hX
  · rw [b01_n] at q
    obtain ⟨ev, h8⟩ := isin_t q
    rw [r_lost, if_pos q] at h
    generalize hj : idx v = j at *
    subst ev
    exact s_yearsToLoss hX.1 (by omega) (fun I' hf => h I' (hX.fr hf.X))
def pp2 (w : Int32) (a b : Int32) : Int32 := if w = 0 then a else b
def r_master (sc : Sx) (L : Nat → List Nat) (s : Sx) (v w : Int32) : Int32 := if isin v (sc 0 1) = true ∧ (w = 0 ∨ w = 1) then pp2 w (mI (fmL sc L s (idx v) (sc 0 1)).2.1) (mI (fmL sc L s (idx v) (sc 0 1)).2.2) else -1
theorem x_master {v w : Int32} {K : KI} (hX : EnX I sc L s ps g) (h : ∀ I', EnX I' sc L s ps g → K (r_master sc L s v w) I' J) : CalI wX (d + 7) mX12_master [.ref 0, .int v, .int w] I J K := by
  have hP := hX.1.1.2.1.2
  refine Cal.of (by decide) (Nat.le_of_ble_eq_true rfl) (bX12_master_0 (s_isPerson hX.1.1 ⟨fun q => ?_, fun q => s_isPairPart ⟨fun q2 => ?_, fun q2 => ?_⟩⟩))
  · rw [b01_0] at q; rw [r_master, if_neg (by simp [q])] at h; exact h I hX
  · rw [b01_n] at q q2
    rw [decide_eq_true_eq] at q2
    obtain ⟨ev, h8⟩ := isin_t q
    rw [r_master, if_pos ⟨q, q2⟩] at h
    generalize hj : idx v = j at *
    subst ev
    refine s_findMaster hX.1 h8 (fun I' hf ha hb => ?_)
    have hK := h I' (hX.fr hf.X)
    rw [ha, hb]
    exact ⟨fun e => by rw [pp2, if_neg e] at hK; exact hK, fun e => by rw [pp2, if_pos e] at hK; exact hK⟩
  · rw [b01_0, decide_eq_false_iff_not] at q2; rw [r_master, if_neg (fun z => q2 z.2)] at h; exact h I hX
def r_gift (sc : Sx) (L : Nat → List Nat) (s : Sx) (v n w : Int32) : Int32 := if isin v (sc 0 1) = true ∧ (w = 0 ∨ w = 1) ∧ rch s 20 n = true then pp2 w (mI (gft sc L s (idx v) (idx n)).1) (mI (gft sc L s (idx v) (idx n)).2.1) else -1
theorem x_gift {v n w : Int32} {K : KI} (hX : EnX I sc L s ps g) (h : ∀ I', EnX I' sc L s ps g → K (r_gift sc L s v n w) I' J) : CalI wX (d + 7) mX12_gift [.ref 0, .int v, .int n, .int w] I J K := by
  have hP := hX.1.1.2.1.2
  refine Cal.of (by decide) (Nat.le_of_ble_eq_true rfl) (bX12_gift_0 (s_isPerson hX.1.1 ⟨fun q => ?_, fun q => s_isPairPart ⟨fun q2 => ?_, fun q2 => s_reachesV (m := 20) hX.1.2.1 (by omega) ⟨fun q3 => ?_, fun q3 => ?_⟩⟩⟩))
  · rw [b01_0] at q; rw [r_gift, if_neg (by simp [q])] at h; exact h I hX
  · rw [b01_0, decide_eq_false_iff_not] at q2; rw [r_gift, if_neg (fun z => q2 z.2.1)] at h; exact h I hX
  · rw [b01_n] at q q2 q3
    rw [decide_eq_true_eq] at q2
    obtain ⟨ev, h8⟩ := isin_t q
    obtain ⟨en, -, hy⟩ := rch_t q3
    rw [r_gift, if_pos ⟨q, q2, q3⟩] at h
    generalize hj : idx v = j at *
    generalize hi : idx n = i at *
    subst ev
    subst en
    refine s_findGift hX.1 h8 hy (fun I' hf ha hb => ?_)
    have hK := h I' (hX.fr hf.X)
    rw [ha, hb]
    exact ⟨fun e => by rw [pp2, if_neg e] at hK; exact hK, fun e => by rw [pp2, if_pos e] at hK; exact hK⟩
  · rw [b01_0] at q3; rw [r_gift, if_neg (by simp [q3])] at h; exact h I hX
def r_law (sc : Sx) (L : Nat → List Nat) (s : Sx) (n w : Int32) : Int32 := if (w = 0 ∨ w = 1) ∧ rch s 20 n = true then pp2 w (mI (trL sc L s (idx n) 10).1) (mI (trL sc L s (idx n) 10).2) else -1
theorem x_law {n w : Int32} {K : KI} (hX : EnX I sc L s ps g) (h : ∀ I', EnX I' sc L s ps g → K (r_law sc L s n w) I' J) : CalI wX (d + 7) mX12_law [.ref 0, .int n, .int w] I J K := by
  refine Cal.of (by decide) (Nat.le_of_ble_eq_true rfl) (bX12_law_0 (s_isPairPart ⟨fun q2 => ?_, fun q2 => s_reachesV (m := 20) hX.1.2.1 (by omega) ⟨fun q3 => ?_, fun q3 => ?_⟩⟩))
  · rw [b01_0, decide_eq_false_iff_not] at q2; rw [r_law, if_neg (fun z => q2 z.1)] at h; exact h I hX
  · rw [b01_n] at q2 q3
    rw [decide_eq_true_eq] at q2
    obtain ⟨en, -, hy⟩ := rch_t q3
    rw [r_law, if_pos ⟨q2, q3⟩] at h
    generalize hi : idx n = i at *
    subst en
    refine s_findTries hX.1 hy (fun I' hf ha hb => ?_)
    have hK := h I' (hX.fr hf.X)
    rw [ha, hb]
    exact ⟨fun e => by rw [pp2, if_neg e] at hK; exact hK, fun e => by rw [pp2, if_pos e] at hK; exact hK⟩
  · rw [b01_0] at q3; rw [r_law, if_neg (by simp [q3])] at h; exact h I hX
def r_sources (sc : Sx) (L : Nat → List Nat) (s g : Sx) (v n : Int32) : Int32 := if isin v (sc 0 0) = true ∧ rch s 20 n = true then nI (srs sc L s g (idx v) (idx n)) else -1
theorem x_sources {v n : Int32} {K : KI} (hX : EnX I sc L s ps g) (h : ∀ I', EnX I' sc L s ps g → K (r_sources sc L s g v n) I' J) : CalI wX (d + 7) mX12_sources [.ref 0, .int v, .int n] I J K := by
  have hF := hX.1.1.1.2
  refine Cal.of (by decide) (Nat.le_of_ble_eq_true rfl) (bX12_sources_0 (s_isFact hX.1.1 ⟨fun q => ?_, fun q => s_reachesV (m := 20) hX.1.2.1 (by omega) ⟨fun q3 => ?_, fun q3 => ?_⟩⟩))
  · rw [b01_0] at q; rw [r_sources, if_neg (by simp [q])] at h; exact h I hX
  · rw [b01_n] at q q3
    obtain ⟨ev, h8⟩ := isin_t q
    obtain ⟨en, -, hy⟩ := rch_t q3
    rw [r_sources, if_pos ⟨q, q3⟩] at h
    generalize hj : idx v = j at *
    generalize hi : idx n = i at *
    subst ev
    subst en
    exact s_findSources hX.1 hX.2.2.2.1 h8 hy (fun I' hf _ => h I' (hX.fr hf.X))
  · rw [b01_0] at q3; rw [r_sources, if_neg (by simp [q3])] at h; exact h I hX
def r_probe (sc : Sx) (L : Nat → List Nat) (s g : Sx) (v n w : Int32) : Int32 := if isin v (sc 0 0) = true ∧ (w = 0 ∨ w = 1) ∧ rch s 20 n = true then
    (if srs sc L s g (idx v) (idx n) = 0 ∨ (prb sc L s (idx v) (idx n) (srs sc L s g (idx v) (idx n)) (sc 0 1)).1 = 0 then -1 else pp2 w (mI (prb sc L s (idx v) (idx n) (srs sc L s g (idx v) (idx n)) (sc 0 1)).1) (nI (prb sc L s (idx v) (idx n) (srs sc L s g (idx v) (idx n)) (sc 0 1)).2)) else -1
theorem srs_lt (hP : sc 0 1 ≤ 8) (f n : Nat) : srs sc L s g f n < 256 := Nat.lt_of_lt_of_le (msk_lt _ _) (p2_8 hP)
theorem x_probe {v n w : Int32} {K : KI} (hX : EnX I sc L s ps g) (h : ∀ I', EnX I' sc L s ps g → K (r_probe sc L s g v n w) I' J) : CalI wX (d + 7) mX12_probe [.ref 0, .int v, .int n, .int w] I J K := by
  have hF := hX.1.1.1.2
  have hP := hX.1.1.2.1.2
  refine Cal.of (by decide) (Nat.le_of_ble_eq_true rfl) (bX12_probe_0 (s_isFact hX.1.1 ⟨fun q => ?_, fun q => s_isPairPart ⟨fun q2 => ?_, fun q2 => s_reachesV (m := 20) hX.1.2.1 (by omega) ⟨fun q3 => ?_, fun q3 => ?_⟩⟩⟩))
  · rw [b01_0] at q; rw [r_probe, if_neg (by simp [q])] at h; exact h I hX
  · rw [b01_0, decide_eq_false_iff_not] at q2; rw [r_probe, if_neg (fun z => q2 z.2.1)] at h; exact h I hX
  · rw [b01_n] at q q2 q3
    rw [decide_eq_true_eq] at q2
    obtain ⟨ev, h8⟩ := isin_t q
    obtain ⟨en, -, hy⟩ := rch_t q3
    rw [r_probe, if_pos ⟨q, q2, q3⟩] at h
    generalize hj : idx v = j at *
    generalize hi : idx n = i at *
    subst ev
    subst en
    refine s_findSources hX.1 hX.2.2.2.1 h8 hy (fun I1 hf hh => ?_)
    have hX1 := hX.fr hf.X
    have hsl := srs_lt (L := L) (s := s) (g := g) hP j i
    refine s_findProbe (sc := sc) (L := L) (s := s) (f := j) (n := i) hX1.1.1 hsl hh (fun I2 h2 o2 ha hb => ?_)
    have hK := h I2 (hX1.fr ⟨fun a ha => h2 a (by omega), o2 6 (by omega)⟩)
    rw [ha, hb]
    generalize srs sc L s g j i = m at *
    by_cases em : m = 0
    · simp only [em, true_or, if_true] at hK ⊢
      exact ⟨fun _ => hK, fun _ => hK⟩
    · by_cases e1 : (prb sc L s j i m (sc 0 1)).1 = 0
      · simp only [e1, or_true, if_true, em, if_false, mI_0] at hK ⊢
        exact ⟨fun _ => hK, fun _ => hK⟩
      · simp only [e1, em, or_self, if_false] at hK ⊢
        exact ⟨fun e => by rw [pp2, if_neg e] at hK; exact hK, fun e => by rw [pp2, if_pos e] at hK; exact hK⟩
  · rw [b01_0] at q3; rw [r_probe, if_neg (by simp [q3])] at h; exact h I hX
def r_status (g : Sx) (v : Int32) : Int32 := if isin v 6 = true then nI (g 2 (idx v)) else -1
theorem x_status {v : Int32} {K : KI} (hX : EnX I sc L s ps g) (h : K (r_status g v) I J) : CalI wX d mX12_status [.ref 0, .int v] I J K := by
  have hr := hX.2.2.2.2.2.1
  refine Cal.of (by decide) (Nat.le_of_ble_eq_true rfl) (bX12_status_0 ?_)
  rcases i32_cases v with hv | ⟨j, hj, rfl⟩
  · rw [r_status, isin_neg hv] at h
    exact ⟨fun _ => h, fun q => absurd hv q⟩
  · rw [r_status, isin_nI hj, idx_nI hj] at h
    rw [nI_clamp hj, show (6 : Int32) = nI 6 from rfl]
    repeat' (first | (refine ⟨vp_in_nI (by omega) (by omega), ?_⟩) | (with_reducible refine And.intro ?_ ?_) | (with_reducible intro I9 e9; subst e9) | (with_reducible intro q9; try (simp (disch := omega) only [Int32.le_iff_toInt_le, Int32.lt_iff_toInt_lt, ← Int32.toInt_inj, nI_toInt, t_bq, t_pc8, t_bel, t_mI, t_ite, t_dec, sm_t, Int32.reduceToInt, t_m1, t_0, t_1, t_2, t_3, t_8, Int.natCast_eq_zero, Int.ofNat_le, Int.ofNat_lt, Int.ofNat_inj, not_true_eq_false, not_false_eq_true, forall_const] at q9); try (exfalso; omega)))
    · rw [if_neg (by simp; omega)] at h; exact h
    · rw [if_pos (by simp; omega)] at h; rw [hr j (by omega)]; exact h
def r_octet (g : Sx) (v : Int32) : Int32 := if isin v (g 0 4) = true then nI (g 3 (idx v)) else -1
theorem x_octet {v : Int32} {K : KI} (hX : EnX I sc L s ps g) (h : K (r_octet g v) I J) : CalI wX d mX12_octet [.ref 0, .int v] I J K := by
  have hr := hX.2.2.2.2.2.2.1
  refine Cal.of (by decide) (Nat.le_of_ble_eq_true rfl) (bX12_octet_0 ?_)
  rw [hr.1.1]
  rcases i32_cases v with hv | ⟨j, hj, rfl⟩
  · rw [r_octet, isin_neg hv] at h
    exact ⟨fun _ => h, fun q => absurd hv q⟩
  · rw [r_octet, isin_nI hj, idx_nI hj] at h
    have := hr.1.2
    rw [nI_clamp hj, show (43 : Int32) = nI 43 from rfl]
    repeat' (first | (refine ⟨vp_in_nI (by omega) (by omega), ?_⟩) | (with_reducible refine And.intro ?_ ?_) | (with_reducible intro I9 e9; subst e9) | (with_reducible intro q9; try (simp (disch := omega) only [Int32.le_iff_toInt_le, Int32.lt_iff_toInt_lt, ← Int32.toInt_inj, nI_toInt, t_bq, t_pc8, t_bel, t_mI, t_ite, t_dec, sm_t, Int32.reduceToInt, t_m1, t_0, t_1, t_2, t_3, t_8, Int.natCast_eq_zero, Int.ofNat_le, Int.ofNat_lt, Int.ofNat_inj, not_true_eq_false, not_false_eq_true, forall_const] at q9); try (exfalso; omega)))
    · rw [if_neg (by simp; omega)] at h; exact h
    · rw [if_pos (by simp; omega)] at h; rw [hr.2 j (by omega)]; exact h
end SP

/-! the class's face: teach, tell, undo, years, chance, hear -/
def FrN (I I' : Ii) : Prop := (∀ a, (a ≤ 11 ∨ a = 30 ∨ a = 50 ∨ a = 51 ∨ a = 69 ∨ 78 ≤ a) → I' a = I a) ∧ I' 43 6 = I 43 6
theorem FrN.trans {I I1 I2 : Ii} (h1 : FrN I I1) (h2 : FrN I1 I2) : FrN I I2 := ⟨fun a ha => (h2.1 a ha).trans (h1.1 a ha), h2.2.trans h1.2⟩
theorem FrN.refl (I : Ii) : FrN I I := ⟨fun _ _ => rfl, rfl⟩
theorem FrY.N {I I' : Ii} (h : FrY 19 I I') : FrN I I' := ⟨fun a ha => h a (by omega) (by omega) (by omega) (by omega) (by omega), by rw [h 43 (by omega) (by omega) (by omega) (by omega) (by omega)]⟩
theorem FrS.N {I I' : Ii} (h : FrS 19 I I') : FrN I I' := ⟨fun a ha => h a (by omega), by rw [h 43 (by omega)]⟩
theorem EnX.now {I I' : Ii} {sc : Sx} {L : Nat → List Nat} {s s' : Sx} {ps : Nat → Sx} {g : Sx} (h : EnX I sc L s ps g) (hk : FrN I I') (hs : EnS I' 19 s') (ho : okS sc s') : EnX I' sc L s' ps g := by
  have e0 := hk.1 0 (by omega)
  have e1 := hk.1 1 (by omega)
  have e2 := hk.1 2 (by omega)
  obtain ⟨h1, h2, h3, h4, h5, h6, h7, h8, h9⟩ := h
  refine ⟨⟨h1.1.kept (fun a h1 h2 => hk.1 a (by omega)), hs, ho.1, ho.2.1⟩, ho.2.2, ?_, ?_, by rw [e1]; exact h5, by rw [hk.1 79 (by omega)]; exact h6, by rw [e0, hk.1 80 (by omega)]; exact h7, by rw [e0]; exact h8, h9.fr (by rw [e0]; exact ⟨rfl, rfl⟩) (fun a ha => hk.1 a (by omega))⟩
  · unfold EnT; rw [e1, e2]; exact h3
  · unfold EnR; rw [hk.2, hk.1 50 (by omega), hk.1 51 (by omega)]; exact h4
section SP
variable {d : Nat} {I : Ii} {J : Jj} {sc s t g : Sx} {L : Nat → List Nat} {ps : Nat → Sx}
theorem EnX.ok (h : EnX I sc L s ps g) : okS sc s := ⟨h.1.2.2.1, h.1.2.2.2, h.2.1⟩
/-- may one be taught so? -/
def tcq (sc s : Sx) (v w : Int32) : Bool := isin v (sc 0 1) && (decide (w = -1) || isin w (sc 0 1)) && decide (w ≠ mI (s 0 (idx v))) && (decide (w = -1) || (decide (idx w ≠ idx v) && !(anc s (idx v) 8 (s 0 (idx w)))))
def tcc (w : Int32) : Nat := if w = -1 then 0 else idx w + 1
def s_tc (sc s : Sx) (v w : Int32) : Sx := if tcq sc s v w then up s 0 (idx v) (tcc w) else s
def ps_tc (sc s : Sx) (ps : Nat → Sx) (g : Sx) (v w : Int32) : Nat → Sx := if tcq sc s v w then ps_r s ps g else ps
def g_tc (sc s g : Sx) (v w : Int32) : Sx := if tcq sc s v w then g_r g else rf g 2
theorem s_isAbove_m1 {o : Nat} {v : Int32} {K : KI} (ho : z_Ob wX o 9) (h : K 0 I J) : CalI wX (d + 2) mX9_isAbove [.ref o, .int v, .int (-1)] I J K :=
  Cal.of (by decide) (Nat.le_of_ble_eq_true rfl) (bX9_isAbove_0 ho (s_masterOf_m1 ho (bX9_isAbove_9 ho ⟨fun _ => h, fun _ => ⟨fun _ => h, fun q => absurd rfl q⟩⟩)))
theorem EnS.put0 {o : Nat} {I : Ii} {s : Sx} (hs : EnS I o s) {p c : Nat} (hp : p < 8) (hc : c ≤ 8) : EnS (u2 I (o + 1) p (mI c)) o (up s 0 p c) := by
  refine ⟨fun k hk => ?_, fun j hj => ?_, fun j hj => ?_, fun j hj => ?_, ?_, ?_, ?_, ?_, fun j hj => ?_⟩
  · by_cases e : k = p
    · subst e; rw [u2_at]; simp [up, hc]
    · rw [u2_k e]; simpa [up, e] using hs.1 k hk
  · rw [u2_o (by omega)]; simpa [up] using hs.2.1 j hj
  · rw [u2_o (by omega)]; simpa [up] using hs.2.2.1 j hj
  · rw [u2_o (by omega)]; simpa [up] using hs.2.2.2.1 j hj
  · rw [u2_o (by omega)]; simpa [up] using hs.2.2.2.2.1
  · rw [u2_o (by omega)]; simpa [up] using hs.2.2.2.2.2.1
  · rw [u2_o (by omega)]; simpa [up] using hs.2.2.2.2.2.2.1
  · rw [u2_o (by omega)]; simpa [up] using hs.2.2.2.2.2.2.2.1
  · rw [u2_o (by omega)]; simpa [up] using hs.2.2.2.2.2.2.2.2 j hj
theorem x_teach {v w : Int32} {K : KI} (hX : EnX I sc L s ps g) (h : ∀ I', EnX I' sc L (s_tc sc s v w) (ps_tc sc s ps g v w) (g_tc sc s g v w) → K (b01 (tcq sc s v w)) I' J) : CalI wX (d + 3) mX12_teach [.ref 0, .int v, .int w] I J K := by
  have hC := hX.1.1
  have hP := hC.2.1.2
  have hS := hX.1.2.1
  have no : tcq sc s v w = false → CalI wX (d + 2) mX12_deny [.ref 0, .int 2] I J (fun x I' J' => ((x = 0 ∨ x = 1) ∧ K x I' J')) := by
    intro e
    rw [s_tc, ps_tc, g_tc, e] at h
    exact s_deny (k := 2) hX (by omega) (fun I' h' => ⟨Or.inl rfl, h I' h'⟩)
  have yes : ∀ p, p < sc 0 1 → v = nI p → tcq sc s v w = true → w = mI (tcc w) → tcc w ≤ sc 0 1 → (tcc w = 0 ∨ (tcc w ≠ p + 1 ∧ anc s p 8 (s 0 (tcc w - 1)) = false)) → CalV wX (d + 2) mX12_remember [.ref 0] I J (fun I25 J26 => K 1 (u2 I25 20 p w) J26) := by
    intro p hp ev e ew hw8 hac
    have ei : idx v = p := by rw [ev]; exact idx_nI (by omega)
    rw [s_tc, ps_tc, g_tc, e, if_pos rfl, if_pos rfl, if_pos rfl, ei] at h
    refine s_remember hX (fun I1 h1 => h _ ?_)
    rw [ew]
    refine h1.now ⟨fun a ha => u2_row (by omega), by rw [u2_row (by omega)]⟩ ?_ ⟨up0_WFS hX.1.2.2.1 hp ?_, ?_, acy_up hX.2.1 (by omega) ?_ ?_⟩
    · have := h1.1.2.1.put0 (o := 19) (p := p) (c := tcc w) (by omega) (by omega)
      rw [← ew] at this ⊢
      exact this
    · rw [← ew]; exact hw8
    · have := hX.1.2.2.2; simpa [up] using this
    · rw [← ew]; omega
    · rw [← ew]; exact hac
  refine Cal.of (by decide) (Nat.le_of_ble_eq_true rfl) (bX12_teach_0 (s_isPerson hC ⟨fun q => ?_, fun q => ?_⟩))
  · rw [b01_0] at q
    exact no (by simp [tcq, q])
  · rw [b01_n] at q
    obtain ⟨ev, h8⟩ := isin_t q
    generalize hj : idx v = p at *
    have hm8 := hS.1 p (by omega)
    refine ⟨fun q2 => ?_, fun q2 => s_isPerson hC ⟨fun q3 => ?_, fun q3 => ?_⟩⟩
    · rw [ev, q2, nI_clamp (by omega), hm8.1]
      rw [q2] at no yes
      rw [ev] at no yes
      refine ⟨vp_in_nI (by omega) (by omega), fun q3 => ?_, fun q3 => ⟨fun q4 => ?_, fun q4 => s_isAbove_m1 obX_19 ⟨fun _ => ?_, fun z => absurd rfl z⟩⟩⟩
      · exact no (by simp [tcq, idx_nI (show p < 2 ^ 31 by omega), q3])
      · exact absurd q4.symm (nI_ne_m1 (by omega))
      · refine yes p h8 rfl ?_ rfl (by simp [tcc]) (Or.inl (by simp [tcc]))
        rw [ev] at q
        simp [tcq, q, idx_nI (show p < 2 ^ 31 by omega), q3]
    · rw [b01_n] at q3
      obtain ⟨ew, w8⟩ := isin_t q3
      have ht : tcc w = idx w + 1 := by rw [tcc, if_neg q2]
      generalize hi : idx w = m at *
      rw [ev, ew, nI_clamp (by omega), hm8.1]
      have q' := q
      rw [ev] at no yes q'
      refine ⟨vp_in_nI (by omega) (by omega), fun q4 => ?_, fun q4 => ⟨fun q5 => ?_, fun q5 => s_isAbove obX_19 hS (by omega) (by omega) ?_⟩⟩
      · exact no (by rw [ew]; simp [tcq, idx_nI (show p < 2 ^ 31 by omega), q4])
      · have : m = p := (nI_eq (by omega) (by omega)).mp q5
        refine no (by rw [ew, this]; simp [tcq, idx_nI (show p < 2 ^ 31 by omega), nI_ne_m1 (show p < 2 ^ 31 by omega)])
      · have hmp : ¬ m = p := fun z => q5 (by rw [z])
        by_cases ea : anc s p 8 (s 0 m) = true
        · rw [if_pos ea]
          refine ⟨fun z => absurd z (by decide), fun _ => no ?_⟩
          rw [ew]; simp [tcq, idx_nI (show p < 2 ^ 31 by omega), idx_nI (show m < 2 ^ 31 by omega), nI_ne_m1 (show m < 2 ^ 31 by omega), ea]
        · rw [if_neg ea]
          rw [Bool.not_eq_true] at ea
          refine ⟨fun _ => ?_, fun z => absurd rfl z⟩
          have := yes p h8 rfl (by rw [ew]; rw [ew] at q3; simp [tcq, q', q3, idx_nI (show p < 2 ^ 31 by omega), idx_nI (show m < 2 ^ 31 by omega), q4, hmp, ea]) (by rw [ht, mI_s]; exact ew) (by omega) (Or.inr ⟨by omega, by rw [ht]; exact ea⟩)
          rw [← ew]
          exact this
    · rw [b01_0] at q3
      exact no (by simp [tcq, q2, q3])
def tlq (sc s : Sx) (v w : Int32) : Bool := isin v (sc 0 1) && isin w (sc 0 0) && decide (bq (s 1 (idx v)) (idx w) = 0)
def s_tl (sc s : Sx) (v w : Int32) : Sx := if tlq sc s v w then blv s (idx v) (idx w) 1 else s
def ps_tl (sc s : Sx) (ps : Nat → Sx) (g : Sx) (v w : Int32) : Nat → Sx := if tlq sc s v w then ps_r s ps g else ps
def g_tl (sc s g : Sx) (v w : Int32) : Sx := if tlq sc s v w then g_r g else rf g 2
theorem acy_cong {s s' : Sx} (h : s 0 = s' 0) (ha : acy s) : acy s' := fun k hk => by rw [← anc_cong h, ← h]; exact ha k hk
theorem x_tell {v w : Int32} {K : KI} (hX : EnX I sc L s ps g) (h : ∀ I', EnX I' sc L (s_tl sc s v w) (ps_tl sc s ps g v w) (g_tl sc s g v w) → K (b01 (tlq sc s v w)) I' J) : CalI wX (d + 3) mX12_tell [.ref 0, .int v, .int w] I J K := by
  have hC := hX.1.1
  have hP := hC.2.1.2
  have hF := hC.1.2
  have hS := hX.1.2.1
  have no : tlq sc s v w = false → CalI wX (d + 2) mX12_deny [.ref 0, .int 2] I J (fun x I' J' => ((x = 0 ∨ x = 1) ∧ K x I' J')) := by
    intro e
    rw [s_tl, ps_tl, g_tl, e] at h
    exact s_deny (k := 2) hX (by omega) (fun I' h' => ⟨Or.inl rfl, h I' h'⟩)
  refine Cal.of (by decide) (Nat.le_of_ble_eq_true rfl) (bX12_tell_0 (s_isPerson hC ⟨fun q => ?_, fun q => s_isFact hC ⟨fun q2 => ?_, fun q2 => ?_⟩⟩))
  · rw [b01_0] at q
    exact no (by simp [tlq, q])
  · rw [b01_0] at q2
    exact no (by simp [tlq, q2])
  · rw [b01_n] at q q2
    obtain ⟨ev, h8⟩ := isin_t q
    obtain ⟨ew, w8⟩ := isin_t q2
    have e1 : s_tl sc s v w = if tlq sc s v w then blv s (idx v) (idx w) 1 else s := rfl
    have e2 : tlq sc s v w = decide (bq (s 1 (idx v)) (idx w) = 0) := by simp [tlq, q, q2]
    generalize hj : idx v = p at *
    generalize hi : idx w = f at *
    have hr := hS.2.1 p (by omega)
    rw [ev, ew, nI_clamp (by omega), hr.1]
    refine ⟨vp_in_nI (by omega) (by omega), s_hasBit hr.2 (by omega) ⟨fun q3 => ?_, fun q3 => ?_⟩⟩
    · simp (disch := omega) only [Int32.le_iff_toInt_le, Int32.lt_iff_toInt_lt, ← Int32.toInt_inj, nI_toInt, t_bq, t_pc8, t_bel, t_mI, t_ite, t_dec, sm_t, Int32.reduceToInt, t_m1, t_0, t_1, t_2, t_3, t_8, Int.natCast_eq_zero, Int.ofNat_le, Int.ofNat_lt, Int.ofNat_inj, not_true_eq_false, not_false_eq_true, forall_const] at q3
      have e3 : tlq sc s v w = true := by rw [e2, decide_eq_true_eq]; omega
      rw [e1, ps_tl, g_tl, e3, if_pos rfl, if_pos rfl, if_pos rfl] at h
      refine s_remember hX (fun I1 h1 => s_believe (b := 1) obX_19 h1.1.2.1 (by omega) (by omega) (by omega) (fun I2 h2 f2 => h I2 ?_))
      exact h1.now f2.N h2 ⟨blv_WFS hF hP hX.1.2.2.1 h8 w8, by rw [blv_m _ _ _ _ _ (by omega) (by omega)]; exact hX.1.2.2.2, acy_cong (blv_m _ _ _ _ _ (by omega) (by omega)).symm hX.2.1⟩
    · simp (disch := omega) only [Int32.le_iff_toInt_le, Int32.lt_iff_toInt_lt, ← Int32.toInt_inj, nI_toInt, t_bq, t_pc8, t_bel, t_mI, t_ite, t_dec, sm_t, Int32.reduceToInt, t_m1, t_0, t_1, t_2, t_3, t_8, Int.natCast_eq_zero, Int.ofNat_le, Int.ofNat_lt, Int.ofNat_inj, not_true_eq_false, not_false_eq_true, forall_const] at q3
      refine no ?_
      rw [e2, decide_eq_false_iff_not]; omega
def s_un (s : Sx) (ps : Nat → Sx) (g : Sx) : Sx := if g 0 6 = 0 then s else ps (g 0 6 - 1)
def g_un (g : Sx) : Sx := if g 0 6 = 0 then rf g 4 else up g 0 6 (g 0 6 - 1)
theorem x_undo {K : KI} (hX : EnX I sc L s ps g) (h : ∀ I', EnX I' sc L (s_un s ps g) ps (g_un g) → K (b01 (decide (g 0 6 ≠ 0))) I' J) : CalI wX (d + 2) mX12_undo [.ref 0] I J K := by
  have hX' := hX
  obtain ⟨hB, hA, hT, hR, hf, hr, hi, hd, ⟨hc, f, hf20, hf0, hps⟩⟩ := hX
  refine Cal.of (by decide) (Nat.le_of_ble_eq_true rfl) (bX12_undo_0 ⟨fun q => ?_, fun q => ?_⟩)
  · rw [hc.1] at q
    have q0 : g 0 6 ≠ 0 := fun z => q (by rw [z]; rfl)
    rw [s_un, g_un, if_neg q0, if_neg q0, decide_eq_true q0] at h
    rintro _ rfl
    rw [u2_k (by omega), u2_at, hc.1, hf0, show (1 : Int32) = nI 1 from rfl, nI_sub (by omega), nI_add, show (20 : Int32) = nI 20 from rfl, pk_rem (by omega) (by omega) (by omega), nI_clamp (by omega)]
    have hm : (f + (g 0 6 - 1)) % 20 < 20 := Nat.mod_lt _ (by omega)
    refine ⟨vp_in_nI hm (by omega), _, past_o _ hm, past_ob hm, ?_⟩
    have hp := hps (g 0 6 - 1) (by omega)
    have h1 : EnX (u2 I 0 6 (nI (g 0 6 - 1))) sc L s ps (up g 0 6 (g 0 6 - 1)) := by
      refine hX'.re (fun a ha => u2_row (by omega)) ?_ ?_ ?_ (fun k hk => ?_) ?_ ?_ ⟨?_, f, hf20, by rw [u2_k (by omega)]; exact hf0, fun i hi => ?_⟩
      · unfold EnT; rw [u2_row (by omega), u2_row (by omega)]; simpa [up, EnT] using hT
      · unfold EnR; rw [u2_row (by omega), u2_row (by omega), u2_row (by omega)]; simpa [up, EnR] using hR
      · rw [u2_row (by omega)]; simpa [up] using hf
      · rw [u2_row (by omega)]; simpa [up] using hr k hk
      · rw [u2_k (by omega), u2_row (by omega)]; simpa [up] using hi
      · rw [u2_k (by omega)]; simpa [up] using hd
      · rw [u2_at, u2_row (by omega), u2_row (by omega), u2_row (by omega)]; simp only [up, and_self, if_true]; exact ⟨trivial, by omega, hc.2.2⟩
      · simp only [up, and_self, if_true] at hi
        have := hps i (by omega)
        exact ⟨this.1.kept (fun a h2 h3 => u2_row (by omega)), this.2⟩
    refine s_copyFrom obX_19 (past_ob hm) (hp.1.kept (fun a h2 h3 => u2_row (by omega))) (by omega) (fun I1 h2 f2 => h I1 ?_)
    exact h1.now f2.N h2 hp.2
  · rw [hc.1] at q
    have q0 : g 0 6 = 0 := by
      rw [show (0 : Int32) = nI 0 from rfl] at q
      exact (nI_eq (by omega) (by omega)).mp q
    rw [s_un, g_un, if_pos q0, if_pos q0, decide_eq_false (by omega)] at h
    exact s_deny (k := 4) hX' (by omega) (fun I' h' => ⟨Or.inl rfl, h I' h'⟩)
def crq (s : Sx) (v : Int32) : Bool := isin v 101 && decide (1 ≤ idx v) && decide (s 4 0 + idx v ≤ 999)
theorem s_canRun {v : Int32} {K : KI} (hs : EnS I 19 s) (h : K (b01 (crq s v)) I J) : CalI wX d mX12_canRun [.ref 0, .int v] I J K := by
  have hy := hs.2.2.2.2.1
  refine Cal.of (by decide) (Nat.le_of_ble_eq_true rfl) (bX12_canRun_0 ?_)
  rw [hy.1, show (1 : Int32) = nI 1 from rfl, show (100 : Int32) = nI 100 from rfl, show (999 : Int32) = nI 999 from rfl]
  rcases i32_cases v with hv | ⟨j, hj, rfl⟩
  · rw [crq, isin_neg hv] at h
    refine ⟨fun _ => h, fun q => absurd ?_ q⟩
    simp (disch := omega) only [Int32.le_iff_toInt_le, Int32.lt_iff_toInt_lt, ← Int32.toInt_inj, nI_toInt, t_bq, t_pc8, t_bel, t_mI, t_ite, t_dec, sm_t, Int32.reduceToInt, t_m1, t_0, t_1, t_2, t_3, t_8, Int.natCast_eq_zero, Int.ofNat_le, Int.ofNat_lt, Int.ofNat_inj, not_true_eq_false, not_false_eq_true, forall_const] at hv
    rw [Int32.lt_iff_toInt_lt, nI_toInt (by omega)]; omega
  · rw [crq, isin_nI hj, idx_nI hj] at h
    refine ⟨fun q => ?_, fun q => ⟨fun q2 => ?_, fun q2 => ?_⟩⟩
    · simp (disch := omega) only [Int32.le_iff_toInt_le, Int32.lt_iff_toInt_lt, ← Int32.toInt_inj, nI_toInt, t_bq, t_pc8, t_bel, t_mI, t_ite, t_dec, sm_t, Int32.reduceToInt, t_m1, t_0, t_1, t_2, t_3, t_8, Int.natCast_eq_zero, Int.ofNat_le, Int.ofNat_lt, Int.ofNat_inj, not_true_eq_false, not_false_eq_true, forall_const] at q
      rw [decide_eq_false (show ¬ 1 ≤ j by omega)] at h; simpa [b01] using h
    · simp (disch := omega) only [Int32.le_iff_toInt_le, Int32.lt_iff_toInt_lt, ← Int32.toInt_inj, nI_toInt, t_bq, t_pc8, t_bel, t_mI, t_ite, t_dec, sm_t, Int32.reduceToInt, t_m1, t_0, t_1, t_2, t_3, t_8, Int.natCast_eq_zero, Int.ofNat_le, Int.ofNat_lt, Int.ofNat_inj, not_true_eq_false, not_false_eq_true, forall_const] at q2
      rw [decide_eq_false (show ¬ j < 101 by omega)] at h; simpa [b01] using h
    · simp (disch := omega) only [Int32.le_iff_toInt_le, Int32.lt_iff_toInt_lt, ← Int32.toInt_inj, nI_toInt, t_bq, t_pc8, t_bel, t_mI, t_ite, t_dec, sm_t, Int32.reduceToInt, t_m1, t_0, t_1, t_2, t_3, t_8, Int.natCast_eq_zero, Int.ofNat_le, Int.ofNat_lt, Int.ofNat_inj, not_true_eq_false, not_false_eq_true, forall_const] at q
      simp (disch := omega) only [Int32.le_iff_toInt_le, Int32.lt_iff_toInt_lt, ← Int32.toInt_inj, nI_toInt, t_bq, t_pc8, t_bel, t_mI, t_ite, t_dec, sm_t, Int32.reduceToInt, t_m1, t_0, t_1, t_2, t_3, t_8, Int.natCast_eq_zero, Int.ofNat_le, Int.ofNat_lt, Int.ofNat_inj, not_true_eq_false, not_false_eq_true, forall_const] at q2
      rw [nI_add]
      repeat' (first | (refine ⟨vp_in_nI (by omega) (by omega), ?_⟩) | (with_reducible refine And.intro ?_ ?_) | (with_reducible intro I9 e9; subst e9) | (with_reducible intro q9; try (simp (disch := omega) only [Int32.le_iff_toInt_le, Int32.lt_iff_toInt_lt, ← Int32.toInt_inj, nI_toInt, t_bq, t_pc8, t_bel, t_mI, t_ite, t_dec, sm_t, Int32.reduceToInt, t_m1, t_0, t_1, t_2, t_3, t_8, Int.natCast_eq_zero, Int.ofNat_le, Int.ofNat_lt, Int.ofNat_inj, not_true_eq_false, not_false_eq_true, forall_const] at q9); try (exfalso; omega)))
      · rw [decide_eq_false (show ¬ s 4 0 + j ≤ 999 by omega)] at h; simpa [b01] using h
      · rw [decide_eq_true (show s 4 0 + j ≤ 999 by omega), decide_eq_true (show 1 ≤ j by omega), decide_eq_true (show j < 101 by omega)] at h; exact h
theorem crq_t {v : Int32} (h : crq s v = true) : v = nI (idx v) ∧ idx v ≤ 100 ∧ 1 ≤ idx v ∧ s 4 0 + idx v ≤ 999 := by
  simp only [crq, Bool.and_eq_true, decide_eq_true_eq] at h
  have := isin_t h.1.1
  exact ⟨this.1, by omega, h.1.2, h.2⟩
/-- how many passed in n years -/
def ypn (sc : Sx) (L : Nat → List Nat) (s : Sx) : Nat → Nat
  | 0 => 0
  | n + 1 => ypn sc L s n + yrn sc L (yrs sc L s n) 0
theorem yrs_ok (hF : sc 0 0 ≤ 8) (hP : sc 0 1 ≤ 8) (h : okS sc s) {n : Nat} (hn : s 4 0 + n ≤ 999) : okS sc (yrs sc L s n) :=
  ⟨yrs_WFS hF hP h.1 n, by rw [(yrs_m n).2]; exact hn, acy_cong (yrs_m n).1.symm h.2.2⟩
def r_years (sc : Sx) (L : Nat → List Nat) (s : Sx) (v : Int32) : Int32 := if crq s v then nI (ypn sc L s (idx v)) else -1
def s_ye (sc : Sx) (L : Nat → List Nat) (s : Sx) (v : Int32) : Sx := if crq s v then yrs sc L s (idx v) else s
def ps_ye (s : Sx) (ps : Nat → Sx) (g : Sx) (v : Int32) : Nat → Sx := if crq s v then ps_r s ps g else ps
def g_ye (s g : Sx) (v : Int32) : Sx := if crq s v then g_r g else rf g 3
theorem x_years {v : Int32} {K : KI} (hX : EnX I sc L s ps g) (h : ∀ I', EnX I' sc L (s_ye sc L s v) (ps_ye s ps g v) (g_ye s g v) → K (r_years sc L s v) I' J) : CalI wX (d + 5) mX12_years [.ref 0, .int v] I J K := by
  have hP := hX.1.1.2.1.2
  have hF := hX.1.1.1.2
  refine Cal.of (by decide) (Nat.le_of_ble_eq_true rfl) (bX12_years_0 (s_canRun hX.1.2.1 ⟨fun q => ?_, fun q => ?_⟩))
  · rw [b01_n] at q
    obtain ⟨ev, -, -, hy⟩ := crq_t q
    rw [r_years, s_ye, ps_ye, g_ye, q, if_pos rfl, if_pos rfl, if_pos rfl, if_pos rfl] at h
    generalize hj : idx v = n at *
    subst ev
    refine s_remember hX (fun I1 h1 => ?_)
    have key : ∀ r k I1, k + r = n → EnX I1 sc L (yrs sc L s k) (ps_r s ps g) (g_r g) → GoI wX (d + 4 + 1) mX12_years 22 [(0, .ref 0), (1, .int (nI n)), (2, .int (nI (ypn sc L s k))), (3, .int (nI k))] [] I1 J K := by
      intro r
      induction r with
      | zero =>
        intro k I1 hk h1
        obtain rfl : k = n := by omega
        refine bX12_years_22 ?_
        repeat' (first | (refine ⟨vp_in_nI (by omega) (by omega), ?_⟩) | (with_reducible refine And.intro ?_ ?_) | (with_reducible intro I9 e9; subst e9) | (with_reducible intro q9; try (simp (disch := omega) only [Int32.le_iff_toInt_le, Int32.lt_iff_toInt_lt, ← Int32.toInt_inj, nI_toInt, t_bq, t_pc8, t_bel, t_mI, t_ite, t_dec, sm_t, Int32.reduceToInt, t_m1, t_0, t_1, t_2, t_3, t_8, Int.natCast_eq_zero, Int.ofNat_le, Int.ofNat_lt, Int.ofNat_inj, not_true_eq_false, not_false_eq_true, forall_const] at q9); try (exfalso; omega)))
        exact h I1 h1
      | succ r ih =>
        intro k I1 hk h1
        have hy := (yrs_m (sc := sc) (s := s) (L := L) k).2
        refine bX12_years_22 ?_
        rw [nI_1]
        repeat' (first | (refine ⟨vp_in_nI (by omega) (by omega), ?_⟩) | (with_reducible refine And.intro ?_ ?_) | (with_reducible intro I9 e9; subst e9) | (with_reducible intro q9; try (simp (disch := omega) only [Int32.le_iff_toInt_le, Int32.lt_iff_toInt_lt, ← Int32.toInt_inj, nI_toInt, t_bq, t_pc8, t_bel, t_mI, t_ite, t_dec, sm_t, Int32.reduceToInt, t_m1, t_0, t_1, t_2, t_3, t_8, Int.natCast_eq_zero, Int.ofNat_le, Int.ofNat_lt, Int.ofNat_inj, not_true_eq_false, not_false_eq_true, forall_const] at q9); try (exfalso; omega)))
        refine s_runYear (aw := 0) obX_19 h1.1.1 h1.1.2.1 (by omega) (by omega) (h1.1.2.2.1.m hP) (fun I2 h2 f2 => ?_)
        rw [nI_add]
        exact ih (k + 1) I2 (by omega) (h1.now f2.N h2 (yrs_ok (n := k + 1) hF hP hX.ok (by omega)))
    exact key n 0 I1 (by omega) h1
  · rw [b01_0] at q
    rw [r_years, s_ye, ps_ye, g_ye, q] at h
    exact s_refuse (k := 3) hX (by omega) h
def nx (x : Nat) : Nat := (1103515245 * x + 12345) % 2147483648
def sd (x : Nat) : Nat → Nat
  | 0 => x
  | n + 1 => nx (sd x n)
theorem sd_lt {x : Nat} (h : x < 2 ^ 31) : ∀ n, sd x n < 2 ^ 31
  | 0 => h
  | n + 1 => Nat.mod_lt _ (by omega)
def ilm (sc : Sx) (x : Nat) : Nat := msk (fun k => decide (sd x (k + 1) / 64 % 100 < sc 0 4)) (sc 0 1)
theorem ilm_lt (hP : sc 0 1 ≤ 8) (x : Nat) : ilm sc x < 256 := Nat.lt_of_lt_of_le (msk_lt _ _) (p2_8 hP)
theorem lN_and (a b : Nat) : lN a &&& lN b = lN (a &&& b) := by
  apply Int64.toBitVec_inj.mp
  simp [lN, BitVec.ofNat_and]
theorem nx_eq {x : Nat} (h : x < 2 ^ 31) : (((1103515245 * ((nI x).toInt64)) + 12345) &&& 2147483647).toInt32 = nI (nx x) := by
  rw [nI_l h, show (1103515245 : Int64) = lN 1103515245 from rfl, show (12345 : Int64) = lN 12345 from rfl, show (2147483647 : Int64) = lN (2 ^ 31 - 1) from rfl, lN_mul, lN_add, lN_and, Nat.and_two_pow_sub_one_eq_mod, lN_i]
  rfl
theorem EnX.draw {x : Nat} (hX : EnX I sc L s ps g) (hx : x < 2 ^ 31) : EnX (u2 I 0 15 (nI x)) sc L s ps (up g 0 5 x) := by
  obtain ⟨hB, hA, hT, hR, hf, hr, hi, hd, hP⟩ := hX
  refine EnX.re (g := g) ⟨hB, hA, hT, hR, hf, hr, hi, hd, hP⟩ (fun a ha => u2_row (by omega)) ?_ ?_ ?_ (fun k hk => ?_) ?_ ?_ ?_
  · unfold EnT; rw [u2_row (by omega), u2_row (by omega)]; simpa [up, EnT] using hT
  · unfold EnR; rw [u2_row (by omega), u2_row (by omega), u2_row (by omega)]; simpa [up, EnR] using hR
  · rw [u2_row (by omega)]; simpa [up] using hf
  · rw [u2_row (by omega)]; simpa [up] using hr k hk
  · rw [u2_k (by omega), u2_row (by omega)]; simpa [up] using hi
  · rw [u2_at]; simp [up]; omega
  · exact (hP.fr (by rw [u2_k (by omega), u2_k (by omega)]; exact ⟨rfl, rfl⟩) (fun a ha => u2_row (by omega))).put (by omega)
theorem up_up (g : Sx) (i k v w : Nat) : up (up g i k v) i k w = up g i k w := by
  funext a j
  simp only [up]
  by_cases e : a = i ∧ j = k <;> simp [e]
theorem up_same (g : Sx) (i k : Nat) : up g i k (g i k) = g := by
  funext a j
  simp only [up]
  by_cases e : a = i ∧ j = k
  · simp [e]
  · simp [e]
theorem s_drawIll {K : KI} (hX : EnX I sc L s ps g) (h : ∀ I', EnX I' sc L s ps (up g 0 5 (sd (g 0 5) (sc 0 1))) → K (nI (ilm sc (g 0 5))) I' J) : CalI wX d mX12_drawIll [.ref 0] I J K := by
  have hP := hX.1.1.2.1.2
  have hx := hX.2.2.2.2.2.2.2.1.2
  refine Cal.of (by decide) (Nat.le_of_ble_eq_true rfl) (bX12_drawIll_0 ?_)
  have key : ∀ r k I1, k + r = sc 0 1 → EnX I1 sc L s ps (up g 0 5 (sd (g 0 5) k)) → GoI wX d mX12_drawIll 4 [(0, .ref 0), (1, .int (nI (msk (fun k => decide (sd (g 0 5) (k + 1) / 64 % 100 < sc 0 4)) k))), (2, .int (nI k))] [] I1 J K := by
    intro r
    induction r with
    | zero =>
      intro k I1 hk h1
      obtain rfl : k = sc 0 1 := by omega
      refine bX12_drawIll_4 ?_
      rw [h1.1.1.2.1.1]
      repeat' (first | (refine ⟨vp_in_nI (by omega) (by omega), ?_⟩) | (with_reducible refine And.intro ?_ ?_) | (with_reducible intro I9 e9; subst e9) | (with_reducible intro q9; try (simp (disch := omega) only [Int32.le_iff_toInt_le, Int32.lt_iff_toInt_lt, ← Int32.toInt_inj, nI_toInt, t_bq, t_pc8, t_bel, t_mI, t_ite, t_dec, sm_t, Int32.reduceToInt, t_m1, t_0, t_1, t_2, t_3, t_8, Int.natCast_eq_zero, Int.ofNat_le, Int.ofNat_lt, Int.ofNat_inj, not_true_eq_false, not_false_eq_true, forall_const] at q9); try (exfalso; omega)))
      exact h I1 h1
    | succ r ih =>
      intro k I1 hk h1
      have hd := h1.2.2.2.2.2.2.2.1
      have e5 : up g 0 5 (sd (g 0 5) k) 0 5 = sd (g 0 5) k := by simp [up]
      rw [e5] at hd
      have hl := sd_lt hx (k + 1)
      refine bX12_drawIll_4 ?_
      rw [h1.1.1.2.1.1, nI_1]
      refine ⟨fun q => ?_, fun _ => ?_⟩
      · simp (disch := omega) only [Int32.le_iff_toInt_le, Int32.lt_iff_toInt_lt, ← Int32.toInt_inj, nI_toInt, t_bq, t_pc8, t_bel, t_mI, t_ite, t_dec, sm_t, Int32.reduceToInt, t_m1, t_0, t_1, t_2, t_3, t_8, Int.natCast_eq_zero, Int.ofNat_le, Int.ofNat_lt, Int.ofNat_inj, not_true_eq_false, not_false_eq_true, forall_const] at q
        exfalso; omega
      rw [hd.1, nx_eq hd.2]
      rintro _ rfl
      have h2 := h1.draw hl
      rw [up_up] at h2
      rw [u2_at, u2_row (by omega), h1.1.1.2.2.2.2.1.1]
      have h4 := h1.1.1.2.2.2.2.1.2
      show ((nI (sc 0 4) ≤ nI (sd (g 0 5) (k + 1)) / 64 - nI (sd (g 0 5) (k + 1)) / 64 / 100 * 100 → _) ∧ (¬ nI (sc 0 4) ≤ nI (sd (g 0 5) (k + 1)) / 64 - nI (sd (g 0 5) (k + 1)) / 64 / 100 * 100 → _))
      rw [show (64 : Int32) = nI 64 from rfl, show (100 : Int32) = nI 100 from rfl, pk_div (by omega) (by omega) (by omega), pk_rem (by omega) (by omega) (by omega)]
      repeat' (first | (refine ⟨vp_in_nI (by omega) (by omega), ?_⟩) | (with_reducible refine And.intro ?_ ?_) | (with_reducible intro I9 e9; subst e9) | (with_reducible intro q9; try (simp (disch := omega) only [Int32.le_iff_toInt_le, Int32.lt_iff_toInt_lt, ← Int32.toInt_inj, nI_toInt, t_bq, t_pc8, t_bel, t_mI, t_ite, t_dec, sm_t, Int32.reduceToInt, t_m1, t_0, t_1, t_2, t_3, t_8, Int.natCast_eq_zero, Int.ofNat_le, Int.ofNat_lt, Int.ofNat_inj, not_true_eq_false, not_false_eq_true, forall_const] at q9); try (exfalso; omega)))
      · rw [msk_no _ (by simp; omega)]
        exact ih (k + 1) _ (by omega) h2
      · rw [msk_or _ (by omega) (by simp; omega)]
        exact ih (k + 1) _ (by omega) h2
  exact key (sc 0 1) 0 I (by omega) (by rw [show sd (g 0 5) 0 = g 0 5 from rfl, up_same]; exact hX)
/-- n years of chance: the state, what is drawn, how often one is ill -/
def chs (sc : Sx) (L : Nat → List Nat) (s : Sx) (x : Nat) : Nat → Sx × Nat × Nat
  | 0 => (s, x, 0)
  | n + 1 => (yr sc L (chs sc L s x n).1 (ilm sc (chs sc L s x n).2.1), sd (chs sc L s x n).2.1 (sc 0 1), (chs sc L s x n).2.2 + pc8 (ilm sc (chs sc L s x n).2.1))
theorem chs_ok (hF : sc 0 0 ≤ 8) (hP : sc 0 1 ≤ 8) (h : okS sc s) {x : Nat} : ∀ n, s 4 0 + n ≤ 999 → okS sc (chs sc L s x n).1 ∧ (chs sc L s x n).1 4 0 = s 4 0 + n
  | 0, _ => ⟨h, rfl⟩
  | n + 1, hn => by
    have ih := chs_ok hF hP h (x := x) n (by omega)
    have hm := yr_m (sc := sc) (s := (chs sc L s x n).1) (L := L) (aw := ilm sc (chs sc L s x n).2.1)
    refine ⟨⟨yr_WFS hF hP ih.1.1, ?_, acy_cong hm.1.symm ih.1.2.2⟩, ?_⟩
    · show yr sc L (chs sc L s x n).1 (ilm sc (chs sc L s x n).2.1) 4 0 ≤ 999
      rw [hm.2, ih.2]; omega
    · show yr sc L (chs sc L s x n).1 (ilm sc (chs sc L s x n).2.1) 4 0 = _
      rw [hm.2, ih.2]; omega
def r_chance (sc : Sx) (L : Nat → List Nat) (s g : Sx) (v : Int32) : Int32 := if crq s v then nI (chs sc L s (g 0 5) (idx v)).2.2 else -1
def s_ch (sc : Sx) (L : Nat → List Nat) (s g : Sx) (v : Int32) : Sx := if crq s v then (chs sc L s (g 0 5) (idx v)).1 else s
def g_ch (sc : Sx) (L : Nat → List Nat) (s g : Sx) (v : Int32) : Sx := if crq s v then up (g_r g) 0 5 (chs sc L s (g 0 5) (idx v)).2.1 else rf g 3
theorem g_r_5 (g : Sx) : g_r g 0 5 = g 0 5 := by
  unfold g_r
  split
  · simp [up]
  · rfl
theorem x_chance {v : Int32} {K : KI} (hX : EnX I sc L s ps g) (h : ∀ I', EnX I' sc L (s_ch sc L s g v) (ps_ye s ps g v) (g_ch sc L s g v) → K (r_chance sc L s g v) I' J) : CalI wX (d + 5) mX12_chance [.ref 0, .int v] I J K := by
  have hP := hX.1.1.2.1.2
  have hF := hX.1.1.1.2
  refine Cal.of (by decide) (Nat.le_of_ble_eq_true rfl) (bX12_chance_0 (s_canRun hX.1.2.1 ⟨fun q => ?_, fun q => ?_⟩))
  · rw [b01_n] at q
    obtain ⟨ev, -, -, hy⟩ := crq_t q
    rw [r_chance, s_ch, ps_ye, g_ch, q, if_pos rfl, if_pos rfl, if_pos rfl, if_pos rfl] at h
    generalize hj : idx v = n at *
    subst ev
    refine s_remember hX (fun I1 h1 => ?_)
    have key : ∀ r k I1, k + r = n → EnX I1 sc L (chs sc L s (g 0 5) k).1 (ps_r s ps g) (up (g_r g) 0 5 (chs sc L s (g 0 5) k).2.1) → GoI wX (d + 4 + 1) mX12_chance 22 [(0, .ref 0), (1, .int (nI n)), (2, .int (nI (chs sc L s (g 0 5) k).2.2)), (3, .int (nI k))] [] I1 J K := by
      intro r
      induction r with
      | zero =>
        intro k I1 hk h1
        obtain rfl : k = n := by omega
        refine bX12_chance_22 ?_
        repeat' (first | (refine ⟨vp_in_nI (by omega) (by omega), ?_⟩) | (with_reducible refine And.intro ?_ ?_) | (with_reducible intro I9 e9; subst e9) | (with_reducible intro q9; try (simp (disch := omega) only [Int32.le_iff_toInt_le, Int32.lt_iff_toInt_lt, ← Int32.toInt_inj, nI_toInt, t_bq, t_pc8, t_bel, t_mI, t_ite, t_dec, sm_t, Int32.reduceToInt, t_m1, t_0, t_1, t_2, t_3, t_8, Int.natCast_eq_zero, Int.ofNat_le, Int.ofNat_lt, Int.ofNat_inj, not_true_eq_false, not_false_eq_true, forall_const] at q9); try (exfalso; omega)))
        exact h I1 h1
      | succ r ih =>
        intro k I1 hk h1
        have hy := chs_ok (L := L) hF hP hX.ok (x := g 0 5) k (by omega)
        refine bX12_chance_22 ?_
        rw [nI_1]
        repeat' (first | (refine ⟨vp_in_nI (by omega) (by omega), ?_⟩) | (with_reducible refine And.intro ?_ ?_) | (with_reducible intro I9 e9; subst e9) | (with_reducible intro q9; try (simp (disch := omega) only [Int32.le_iff_toInt_le, Int32.lt_iff_toInt_lt, ← Int32.toInt_inj, nI_toInt, t_bq, t_pc8, t_bel, t_mI, t_ite, t_dec, sm_t, Int32.reduceToInt, t_m1, t_0, t_1, t_2, t_3, t_8, Int.natCast_eq_zero, Int.ofNat_le, Int.ofNat_lt, Int.ofNat_inj, not_true_eq_false, not_false_eq_true, forall_const] at q9); try (exfalso; omega)))
        have e5 : up (g_r g) 0 5 (chs sc L s (g 0 5) k).2.1 0 5 = (chs sc L s (g 0 5) k).2.1 := by simp [up]
        refine s_drawIll h1 (fun I2 h2 => ?_)
        rw [e5, up_up] at h2
        rw [e5]
        refine s_bitCount (ilm_lt hP _) ?_
        refine s_runYear obX_19 h2.1.1 h2.1.2.1 (ilm_lt hP _) (by omega) (h2.1.2.2.1.m hP) (fun I3 h3 f3 => ?_)
        rw [nI_add]
        exact ih (k + 1) I3 (by omega) (h2.now f3.N h3 (chs_ok hF hP hX.ok (x := g 0 5) (k + 1) (by omega)).1)
    refine key n 0 I1 (by omega) ?_
    show EnX I1 sc L s (ps_r s ps g) (up (g_r g) 0 5 (g 0 5))
    rw [← g_r_5 g, up_same]
    exact h1
  · rw [b01_0] at q
    rw [r_chance, s_ch, ps_ye, g_ch, q] at h
    exact s_refuse (k := 3) hX (by omega) h
def r_hear (sc g : Sx) : Int32 := if hrk sc g then nI (g 0 0 / 2) else -1
def g_hear (sc g : Sx) : Sx := if hrk sc g then up (hrg g) 0 0 0 else rf (up g 0 0 0) 1
theorem x_hear {K : KI} (hX : EnX I sc L s ps g) (h : ∀ I', EnX I' sc L s ps (g_hear sc g) → K (r_hear sc g) I' J) : CalI wX (d + 2) mX12_hear [.ref 0] I J K := by
  refine Cal.of (by decide) (Nat.le_of_ble_eq_true rfl) (bX12_hear_0 (s_take hX.2.2.1 hX.1.1 (fun hh I1 hR1 f1 => ?_) (fun hh => ?_)))
  · rw [r_hear, g_hear, hh, if_pos rfl, if_pos rfl] at h
    rintro _ rfl
    refine ⟨fun q => absurd q (by decide), fun _ => ?_⟩
    obtain ⟨hB, hA, hT, hR, hf, hr, hi, hd, hP⟩ := hX
    rw [u2_o (by omega), hR1.1.1, show hrg g 0 3 = g 0 0 / 2 by simp [hrg]]
    refine h _ (EnX.re (g := g) ⟨hB, hA, hT, hR, hf, hr, hi, hd, hP⟩ (fun a ha => by rw [u2_row (by omega)]; exact f1 a (by omega) (by omega) (by omega)) ?_ ?_ ?_ (fun k hk => ?_) ?_ ?_ ?_)
    · exact ⟨⟨by rw [u2_at]; simp [up]; rfl, by simp [up]⟩, fun k hk => absurd hk (by simp [up])⟩
    · unfold EnR; rw [u2_row (by omega), u2_row (by omega), u2_row (by omega)]; simpa [up, EnR] using hR1
    · rw [u2_k (by omega), u2_k (by omega), f1 1 (by omega) (by omega) (by omega)]; simpa [up, hrg] using hf
    · rw [u2_row (by omega), f1 79 (by omega) (by omega) (by omega)]; simpa [up, hrg] using hr k hk
    · rw [u2_row (by omega), u2_row (by omega), f1 80 (by omega) (by omega) (by omega), f1 0 (by omega) (by omega) (by omega)]; simpa [up, hrg] using hi
    · rw [u2_row (by omega), f1 0 (by omega) (by omega) (by omega)]; simpa [up, hrg] using hd
    · refine (EnP.fr (I := I) (g := hrg g) ?_ ?_ (fun a ha => ?_)).put (by omega)
      · simpa [EnP, hrg] using hP
      · rw [u2_row (by omega), f1 0 (by omega) (by omega) (by omega)]; exact ⟨rfl, rfl⟩
      · rw [u2_row (by omega)]; exact f1 a (by omega) (by omega) (by omega)
  · rw [r_hear, g_hear, hh] at h
    rintro _ rfl
    refine ⟨fun _ => s_refuse (k := 1) (hX.cut (n := 0) (by omega)) (by omega) h, fun q => absurd rfl q⟩
end SP

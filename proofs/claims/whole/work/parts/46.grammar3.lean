/-! the class's Grammar: claims, all levels -/
section GR
variable {d : Nat} {I I1 : Ii} {J : Jj} {g : Sx} {o f sco z q : Nat} {r : Res} {b : Int32} {cs : List Nat} {rs rp rc rt : Nat → Res} {m : Nat}
theorem c_claim (hg : GO o f) (hm : m ≤ 6) (hs : Sp g o f sco (d + 1) mX4_readSum (nI (6 - m)) rs) (hc : m ≠ 0 → Sp g o f sco (d + 1) mX4_readClaim (nI (7 - m)) rc) (ht : m ≠ 0 → Sp g o f sco (d + 1) mX4_readTest (nI (7 - m)) rt) (hGs : Gd g rs) (hGc : Gd g rc) (hGt : Gd g rt) : Sp g o f sco (d + 2) mX4_readClaim (nI (6 - m)) (pClaimF g rt rc rs m) := by
  intro I J K z q hT hsc hk hz hzq hK
  have hf := hg.2.2.2.2.1
  have h16 := hT.1.2
  have htl := tk_le hT.lt q
  have hqn := hk.1.2
  have h0 := PO.start (f := f) hk hz
  refine Cal.of (by decide) (Nat.le_of_ble_eq_true rfl) (bX4_readClaim_0 hg.1 hg.2.1 hg.2.2.1 hg.2.2.2.1 (s_isWord (i := 12) hT hk (by omega) ⟨fun e1 => s_isWord (i := 13) hT hk (by omega) ⟨fun e2 => ?_, fun e2 => ?_⟩, fun e1 => ?_⟩))
  · rw [b01_0, decide_eq_false_iff_not] at e1 e2
    rw [hk.2.2.1, show (91 : Int32) = nI 91 from rfl, tkI_eq htl (by omega)]
    refine ⟨fun e3 => ?_, fun e3 => ?_⟩
    · -- a comparison
      have ep : pClaimF g rt rc rs m q = if (rs q).1 = 0 then (if opC g (rs q).2.1 = 0 then (1, (rs q).2.1, []) else xCd (opC g (rs q).2.1) (xTh (0, adv g (rs q).2.1, (rs q).2.2) rs)) else rs q := by rw [pClaimF, if_neg e1, if_neg e2, if_neg e3]
      rw [ep] at hK
      refine hs I J _ z q hT hsc hk hz hzq (fun b2 I2 h2 => ⟨fun y => ?_, fun y => ?_⟩)
      case refine_2 =>
        subst y
        have n2 := h2.b0.mp rfl
        rw [if_neg n2] at hK
        exact hK 0 I2 h2
      obtain ⟨eb, q2, cs2, e2'⟩ := h2.is y
      subst eb
      have hG2 := hGs q hqn
      rw [e2'] at h2 hK hG2
      have w2 := hG2 rfl
      simp only at w2
      simp only [if_true] at hK
      have htl2 := tk_le hT.lt q2
      have hT2 := hT.P h2.1 hf
      rw [h2.T.2.2.1, show (60 : Int32) = nI 60 from rfl, show (61 : Int32) = nI 61 from rfl, show (62 : Int32) = nI 62 from rfl, tkI_eq htl2 (by omega), tkI_eq htl2 (by omega), tkI_eq htl2 (by omega)]
      have ha := adv_le (g := g) (q := q2) w2.2
      have go : ∀ I3 v, opC g q2 ≠ 0 → v = iI (trc (opC g q2)) → FrA I2 I3 → TokAt I3 g (adv g q2) → CalI wX (d + 1) mX4_readSum [.ref (o), .int (nI (6 - m))] I3 J (fun x19 I17 J18 => (CalV wX (d + 1) mX3_add [.ref (f), .int v] I17 J18 (fun I21 J22 => (((x19) = 0 ∨ (x19) = 1) ∧ K (x19) I21 J22)))) := by
        intro I3 v eo ev fA hT3
        have hlt := ha.2.2 (opC_lt eo)
        rw [if_neg eo] at hK
        have g1 : Gk g q 1 (0, adv g q2, cs2) := fun _ => ⟨by simp only; omega, ha.1⟩
        have g2 := Gk_th g1 hGs
        refine hs.run hg (h2.adv hf fA hT3) hT hsc (by omega) (fun b4 I4 h4 => ?_)
        exact s_add (c := opC g q2) hg.2.2.2.1 hf h4 ev (fun e4 => by have := g2 e4; omega) (fun I5 h5 => ⟨h4.b01, hK b4 I5 h5⟩)
      refine ⟨fun e4 => ?_, fun e4 => ⟨fun e5 => ?_, fun e5 => ⟨fun e6 => ?_, fun e6 => ?_⟩⟩⟩
      · have eo : opC g q2 = 7 := by rw [opC, if_pos e4]
        refine s_adv hT2 h2.T (fun I3 fA hT3 => (go I3 (-26) (by omega) (by rw [eo]; rfl) fA hT3).mono (fun x I4 J4 hx => ⟨fun _ => hx, fun y => absurd y (by omega)⟩))
      · have eo : opC g q2 = 8 := by rw [opC, if_neg e4, if_pos e5]
        refine s_adv hT2 h2.T (fun I3 fA hT3 => (go I3 (-27) (by omega) (by rw [eo]; rfl) fA hT3).mono (fun x I4 J4 hx => ⟨fun _ => hx, fun y => absurd y (by omega)⟩))
      · have eo : opC g q2 = 9 := by rw [opC, if_neg e4, if_neg e5, if_pos e6]
        exact s_adv hT2 h2.T (fun I3 fA hT3 => go I3 (-28) (by omega) (by rw [eo]; rfl) fA hT3)
      · have eo : opC g q2 = 0 := by rw [opC, if_neg e4, if_neg e5, if_neg e6]
        rw [if_pos eo] at hK
        exact s_failHere h2.T (fun I3 fB hF => ⟨Or.inl rfl, hK 0 I3 (h2.flt hf (by omega) (by omega) fB hF)⟩)
    · -- a bracket
      have hlt := tk_lt (g := g) (q := q) (by omega)
      have ep : pClaimF g rt rc rs m q = xSg g 93 (xTh (xOp g m q) rt) := by rw [pClaimF, if_neg e1, if_neg e2, if_pos e3]
      rw [ep] at hK
      have g1 : Gk g q 1 (xOp g m q) := Gk_op hlt
      have g2 := Gk_th g1 hGt
      refine s_opens hg hm h0 hT (by omega) (fun b2 I2 h2 => ⟨fun y => ?_, fun y => ?_⟩)
      · subst y
        have n2 := h2.b0.mp rfl
        refine hK 0 I2 ?_
        rw [xTh_f n2, xSg_f n2]; exact h2
      obtain ⟨-, q2, cs2, e2'⟩ := h2.is y
      have hm0 : m ≠ 0 := fun z => by rw [xOp, if_pos z] at e2'; simp at e2'
      rw [e2'] at h2 g1 g2 hK
      have w1 := g1 rfl
      simp only at w1
      rw [nI_1, show 6 - m + 1 = 7 - m by omega]
      refine (ht hm0).run hg h2 hT hsc (by omega) (fun b3 I3 h3 => ⟨fun y => ?_, fun y => ?_⟩)
      · subst y
        refine hK 0 I3 ?_
        rw [xSg_f (h3.b0.mp rfl)]; exact h3
      obtain ⟨-, q3, cs3, e3⟩ := h3.is y
      rw [e3] at h3 g2 hK
      have w2 := g2 rfl
      simp only at w2
      refine s_expectSignP (c := 93) hg h3 hT (by omega) (by omega) (fun b4 I4 h4 => ⟨fun y => ?_, fun y => ?_⟩)
      · subst y; exact hK 0 I4 h4
      · obtain ⟨eb, -⟩ := h4.is y
        subst eb
        exact hK 1 I4 h4
  · -- all
    rw [b01_0, decide_eq_false_iff_not] at e1
    rw [b01_n, decide_eq_true_eq] at e2
    have hlt := wd_lt e2 (by omega)
    refine s_adv hT hk (fun I1 fA hT1 => s_add (c := 13) hg.2.2.2.1 hf (h0.adv hf fA hT1) rfl (fun _ => by simp; omega) (fun I2 h2 => hK 1 I2 ?_))
    rw [pClaimF, if_neg e1, if_pos e2]
    simpa [xCd] using h2
  · -- not
    rw [b01_n, decide_eq_true_eq] at e1
    have hlt := wd_lt e1 (by omega)
    have ep : pClaimF g rt rc rs m q = xCd 12 (xTh (xOp g m q) rc) := by rw [pClaimF, if_pos e1]
    rw [ep] at hK
    have g1 : Gk g q 1 (xOp g m q) := Gk_op hlt
    have g2 := Gk_th g1 hGc
    refine s_opens hg hm h0 hT (by omega) (fun b2 I2 h2 => ⟨fun y => ?_, fun y => ?_⟩)
    · subst y
      have n2 := h2.b0.mp rfl
      refine s_add (c := 12) hg.2.2.2.1 hf h2 rfl (fun e3 => absurd e3 n2) (fun I6 h6 => hK 0 I6 ?_)
      rw [xTh_f n2]; exact h6
    obtain ⟨-, q2, cs2, e2'⟩ := h2.is y
    have hm0 : m ≠ 0 := fun z => by rw [xOp, if_pos z] at e2'; simp at e2'
    rw [e2'] at h2 g1 g2 hK
    have w1 := g1 rfl
    simp only at w1
    rw [nI_1, show 6 - m + 1 = 7 - m by omega]
    refine (hc hm0).run hg h2 hT hsc (by omega) (fun b3 I3 h3 => ⟨fun y => ?_, fun y => ?_⟩)
    · subst y
      exact s_add (c := 12) hg.2.2.2.1 hf h3 rfl (fun e3 => absurd e3 (h3.b0.mp rfl)) (fun I6 h6 => hK 0 I6 h6)
    · obtain ⟨eb, -⟩ := h3.is y
      subst eb
      exact s_add (c := 12) hg.2.2.2.1 hf h3 rfl (fun e3 => by have := g2 e3; omega) (fun I6 h6 => hK 1 I6 h6)
theorem c_parts (hg : GO o f) (hsc4 : sco = 1 ∨ sco = 2 ∨ sco = 4) : ∀ m, m ≤ 6 → ∀ d, Sp g o f sco (d + 3 + 4 * m) mX4_readPart (nI (6 - m)) (pPart g sco m)
  | 0, hm, d => c_part hg hm hsc4 (fun e => absurd rfl e) (fun e => absurd rfl e) (fun e => absurd rfl e) Gd_no Gd_no
  | m + 1, hm, d => by
    have ih := c_parts hg hsc4 m (by omega)
    have e7 : 7 - (m + 1) = 6 - m := by omega
    have sum : ∀ d, Sp g o f sco (d + 3 + 4 * m + 1 + 1) mX4_readSum (nI (6 - m)) (pSumL g (pPart g sco m)) := fun d =>
      c_sum hg (c_product hg (ih d) (Gd_part m)) (Gd_rLp (Gd_part m) (fun _ => opP_lt))
    have := c_part (d := d + 4 * m + 4) hg hm hsc4 (rs := pSumL g (pPart g sco m)) (rp := pPart g sco m) (fun _ => by rw [e7]; exact (by have := sum d; rwa [show d + 3 + 4 * m + 1 + 1 = d + 4 * m + 4 + 1 by omega] at this)) (fun _ => by rw [e7]; exact (by have := sum (d + 1); rwa [show d + 1 + 3 + 4 * m + 1 + 1 = d + 4 * m + 4 + 2 by omega] at this)) (fun _ => by rw [e7]; exact (by have := ih (d + 3); rwa [show d + 3 + 3 + 4 * m = d + 4 * m + 4 + 2 by omega] at this)) (Gd_sumL (Gd_part m)) (Gd_part m)
    rw [show d + 4 * m + 4 + 3 = d + 3 + 4 * (m + 1) by omega] at this
    exact this
theorem c_sums (hg : GO o f) (hsc4 : sco = 1 ∨ sco = 2 ∨ sco = 4) (m : Nat) (hm : m ≤ 6) (d : Nat) : Sp g o f sco (d + 5 + 4 * m) mX4_readSum (nI (6 - m)) (pSum g sco m) := by
  have := c_sum hg (c_product hg (c_parts (g := g) hg hsc4 m hm d) (Gd_part m)) (Gd_rLp (Gd_part m) (fun _ => opP_lt))
  rw [show d + 3 + 4 * m + 1 + 1 = d + 5 + 4 * m by omega] at this
  exact this
theorem c_claims (hg : GO o f) (hsc4 : sco = 1 ∨ sco = 2 ∨ sco = 4) : ∀ m, m ≤ 6 → ∀ d, Sp g o f sco (d + 6 + 4 * m) mX4_readClaim (nI (6 - m)) (pClaim g sco m)
  | 0, hm, d => c_claim (d := d + 4) hg hm (c_sums hg hsc4 0 hm d) (fun e => absurd rfl e) (fun e => absurd rfl e) Gd_sum Gd_no Gd_no
  | m + 1, hm, d => by
    have ih := c_claims hg hsc4 m (by omega)
    have e7 : 7 - (m + 1) = 6 - m := by omega
    have tst : ∀ d, Sp g o f sco (d + 6 + 4 * m + 1 + 1) mX4_readTest (nI (6 - m)) (pTestL g (pClaim g sco m)) := fun d =>
      c_test hg (c_both hg (ih d) (Gd_claim m)) (Gd_rLp (Gd_claim m) (fun _ => opA_lt))
    have := c_claim (d := d + 4 * m + 8) hg hm (rs := pSum g sco (m + 1)) (rc := pClaim g sco m) (rt := pTestL g (pClaim g sco m)) (by have := c_sums (g := g) hg hsc4 (m + 1) hm d; rwa [show d + 5 + 4 * (m + 1) = d + 4 * m + 8 + 1 by omega] at this) (fun _ => by rw [e7]; exact (by have := ih (d + 3); rwa [show d + 3 + 6 + 4 * m = d + 4 * m + 8 + 1 by omega] at this)) (fun _ => by rw [e7]; exact (by have := tst (d + 1); rwa [show d + 1 + 6 + 4 * m + 1 + 1 = d + 4 * m + 8 + 1 by omega] at this)) Gd_sum (Gd_claim m) (Gd_testL (Gd_claim m))
    rw [show d + 4 * m + 8 + 2 = d + 6 + 4 * (m + 1) by omega] at this
    exact this
theorem c_tests (hg : GO o f) (hsc4 : sco = 1 ∨ sco = 2 ∨ sco = 4) (m : Nat) (hm : m ≤ 6) (d : Nat) : Sp g o f sco (d + 8 + 4 * m) mX4_readTest (nI (6 - m)) (pTest g sco m) := by
  have := c_test hg (c_both hg (c_claims (g := g) hg hsc4 m hm d) (Gd_claim m)) (Gd_rLp (Gd_claim m) (fun _ => opA_lt))
  rw [show d + 6 + 4 * m + 1 + 1 = d + 8 + 4 * m by omega] at this
  exact this
end GR
theorem GO_s : GO 70 59 := ⟨obX_70, rfl, rfl, obX_59, by omega, by omega, by omega, by omega⟩
theorem GO_q : GO 78 72 := ⟨obX_78, rfl, rfl, obX_72, by omega, by omega, by omega, by omega⟩

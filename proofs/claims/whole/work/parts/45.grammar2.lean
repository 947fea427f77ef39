/-! the class's Grammar: parts, claims -/
theorem xTh_f {r : Res} {p : Nat → Res} (h : r.1 ≠ 0) : xTh r p = r := by rw [xTh, if_neg h]
theorem xSg_f {g : Sx} {c : Nat} {r : Res} (h : r.1 ≠ 0) : xSg g c r = r := by rw [xSg, if_neg h]
theorem xCd_1 (c : Nat) (r : Res) : (xCd c r).1 = r.1 := rfl
section GR
variable {d : Nat} {I I1 : Ii} {J : Jj} {g : Sx} {o f sco z q : Nat} {r : Res} {b : Int32} {cs : List Nat} {rs rp rc rt : Nat → Res} {m : Nat}
theorem PO.is (h : PO g f z I r b I1) (hb : ¬ b = 0) : b = 1 ∧ ∃ q cs, r = (0, q, cs) := by
  have e : r.1 = 0 := by
    by_cases e : r.1 = 0
    · exact e
    · exact absurd (h.b0.mpr e) hb
  obtain ⟨k, q, cs⟩ := r
  simp only at e
  subst e
  exact ⟨(h.2.1 rfl).1, q, cs, rfl⟩
theorem c_pair {c : Nat} {v : Int32} {q0 : Nat} {K : KI} (hg : GO o f) (hm : m ≤ 6) (hs : m ≠ 0 → Sp g o f sco (d + 1) mX4_readSum (nI (7 - m)) rs) (hGs : Gd g rs) (h : PO g f z I (0, q, []) b I1) (hT : EnT I g) (hsc : I o 2 = nI sco) (hz : z ≤ q0) (hq : q0 ≤ q) (hv : v = iI (trc c)) (hK : ∀ b2 I2, PO g f z I (pPair g rs m c q) b2 I2 → K b2 I2 J) : CalI wX (d + 2) mX4_readPair [.ref o, .int v, .int (nI (6 - m))] I1 J K := by
  have hf := hg.2.2.2.2.1
  have h16 := hT.1.2
  have htl := tk_le hT.lt q
  have hqn := h.T.1.2
  refine Cal.of (by decide) (Nat.le_of_ble_eq_true rfl) (bX4_readPair_0 hg.1 hg.2.1 hg.2.2.1 hg.2.2.2.1 ?_)
  rw [h.T.2.2.1, show (40 : Int32) = nI 40 from rfl, tkI_eq htl (by omega)]
  refine ⟨fun e => ?_, fun e => ?_⟩
  case refine_2 =>
    refine s_failHere h.T (fun I2 fB hF => ⟨Or.inl rfl, hK 0 I2 ?_⟩)
    rw [pPair, if_neg e]
    exact h.flt hf (by omega) (by simp; omega) fB hF
  have hlt := tk_lt (g := g) (q := q) (by omega)
  have ep : pPair g rs m c q = xCd c (xSg g 41 (xTh (xSg g 44 (xTh (xOp g m q) rs)) rs)) := by rw [pPair, if_pos e]
  rw [ep] at hK
  have g1 : Gk g q 1 (xOp g m q) := Gk_op hlt
  have g2 := Gk_th g1 hGs
  have g3 := Gk_sg (c := 44) g2
  have g4 := Gk_th g3 hGs
  have g5 := Gk_sg (c := 41) g4
  have lim : ∀ {r : Res}, Gk g q 1 r → r.1 = 0 → z + r.2.2.length < 1600 := fun hk hr => by have := hk hr; omega
  have bad : ∀ {r : Res} {I2 : Ii}, PO g f z I r 0 I2 → xCd c r = xCd c (xSg g 41 (xTh (xSg g 44 (xTh (xOp g m q) rs)) rs)) → CalV wX (d + 1) mX3_add [.ref f, .int v] I2 J (fun I6 J7 => K 0 I6 J7) := by
    intro r I2 h2 e2
    refine s_add (c := c) hg.2.2.2.1 hf h2 hv (fun e3 => absurd e3 (h2.b0.mp rfl)) (fun I6 h6 => hK 0 I6 ?_)
    rw [← e2]; exact h6
  refine s_opens hg hm h hT (by omega) (fun b2 I2 h2 => ⟨fun y => ?_, fun y => ?_⟩)
  · subst y
    have n2 := h2.b0.mp rfl
    exact bad h2 (by rw [xTh_f n2, xSg_f n2, xTh_f n2, xSg_f n2])
  obtain ⟨-, q2, cs2, e2⟩ := h2.is y
  have hm0 : m ≠ 0 := fun z => by rw [xOp, if_pos z] at e2; simp at e2
  rw [e2] at h2 g1 g2 g3 g4 g5 hK bad
  have w1 := g1 rfl
  simp only at w1
  rw [nI_1, show 6 - m + 1 = 7 - m by omega]
  refine (hs hm0).run hg h2 hT hsc (by omega) (fun b3 I3 h3 => ⟨fun y => ?_, fun y => ?_⟩)
  · subst y
    have n3 := h3.b0.mp rfl
    exact bad h3 (by rw [xSg_f n3, xTh_f n3, xSg_f n3])
  obtain ⟨-, q3, cs3, e3⟩ := h3.is y
  rw [e3] at h3 g2 g3 g4 g5 hK bad
  have w2 := g2 rfl
  simp only at w2
  refine s_expectSignP (c := 44) hg h3 hT (by omega) (by omega) (fun b4 I4 h4 => ⟨fun y => ?_, fun y => ?_⟩)
  · subst y
    have n4 := h4.b0.mp rfl
    exact bad h4 (by rw [xTh_f n4, xSg_f n4])
  obtain ⟨-, q4, cs4, e4⟩ := h4.is y
  rw [e4] at h4 g3 g4 g5 hK bad
  have w3 := g3 rfl
  simp only at w3
  refine (hs hm0).run hg h4 hT hsc (by omega) (fun b5 I5 h5 => ⟨fun y => ?_, fun y => ?_⟩)
  · subst y
    have n5 := h5.b0.mp rfl
    exact bad h5 (by rw [xSg_f n5])
  obtain ⟨-, q5, cs5, e5⟩ := h5.is y
  rw [e5] at h5 g4 g5 hK bad
  have w4 := g4 rfl
  simp only at w4
  refine s_expectSignP (c := 41) hg h5 hT (by omega) (by omega) (fun b6 I6 h6 => ⟨fun y => ?_, fun y => ?_⟩)
  · subst y
    exact bad h6 rfl
  obtain ⟨eb, q6, cs6, e6⟩ := h6.is y
  subst eb
  refine s_add (c := c) hg.2.2.2.1 hf h6 hv (lim g5) (fun I7 h7 => hK 1 I7 h7)
theorem sc_wv : ∀ i, i < 34 → ∀ s, s < 5 → (s = 1 ∨ s = 2 ∨ s = 4) → (z_wv 4 (10000 + i) &&& nI s = 0 ↔ alw s i = false) := by decide +kernel
theorem sl_wv : ∀ i, i < 34 → 16 ≤ i → i < 28 → (-1 : Int32) - z_wv 3 (10000 + i) = iI (trc (24 + i)) := by decide +kernel
theorem trc_n {v : Nat} (h : v ≤ 9999) : nI v = iI (trc (1000 + v)) := by
  rw [trc, if_pos (by omega), ← iI_n]
  congr 1
  omega
theorem c_part (hg : GO o f) (hm : m ≤ 6) (hsc4 : sco = 1 ∨ sco = 2 ∨ sco = 4) (hs : m ≠ 0 → Sp g o f sco (d + 1) mX4_readSum (nI (7 - m)) rs) (hs2 : m ≠ 0 → Sp g o f sco (d + 2) mX4_readSum (nI (7 - m)) rs) (hp : m ≠ 0 → Sp g o f sco (d + 2) mX4_readPart (nI (7 - m)) rp) (hGs : Gd g rs) (hGp : Gd g rp) : Sp g o f sco (d + 3) mX4_readPart (nI (6 - m)) (pPartF g sco rs rp m) := by
  intro I J K z q hT hsc hk hz hzq hK
  have hf := hg.2.2.2.2.1
  have h16 := hT.1.2
  have htl := tk_le hT.lt q
  have hqn := hk.1.2
  have h0 := PO.start (f := f) hk hz
  have hvl := tvl_lt (g := g) q
  refine Cal.of (by decide) (Nat.le_of_ble_eq_true rfl) (bX4_readPart_0 hg.1 hg.2.1 hg.2.2.1 hg.2.2.2.1 ?_)
  rw [hk.2.2.1, show (257 : Int32) = nI 257 from rfl, show (40 : Int32) = nI 40 from rfl, tkI_eq htl (by omega), tkI_eq htl (by omega)]
  refine ⟨fun e1 => ⟨fun e2 => s_knownWord hT hk ?_, fun e2 => ?_⟩, fun e1 => ?_⟩
  · -- a word
    have hwl := wd_le g q
    have zk : z_wk (wop (wd g q)) := by
      unfold wop
      split
      · exact z_wkS (by omega)
      · intro k e; cases e
    have wi : ∀ i, i < 34 → (wop (wd g q) = some (10000 + i) ↔ wd g q = i) := by
      intro i hi
      unfold wop
      split
      · simp
      · simp; omega
    have w14 := wi 14 (by omega)
    have w15 := wi 15 (by omega)
    have w3 := wi 3 (by omega)
    refine ⟨zk, fun e3 => ?_, fun e3 => ⟨fun e4 => ?_, fun e4 => ?_⟩⟩
    · rw [w14] at e3
      refine s_adv hT hk (fun I1 fA hT1 => c_pair (c := 5) (q0 := q) hg hm hs hGs (h0.adv hf fA hT1) hT hsc hzq (adv_le hqn).2.1 rfl (fun b2 I2 h2 => ⟨h2.b01, hK b2 I2 ?_⟩))
      rw [pPartF, if_neg e1, if_neg e2, if_pos e3]; exact h2
    · rw [w14] at e3
      rw [w15] at e4
      have unk : (alw sco (wd g q) = false ∨ wd g q = 34) → ¬ (wd g q = 3 ∧ sco = 4) → ∀ I2, FrB I I2 → Flt I2 1 q → PO g f z I (pPartF g sco rs rp m q) 0 I2 := by
        intro ha hb I2 fB hF
        have hno : alw sco (wd g q) = false := by
          rcases ha with ha | ha
          · exact ha
          · simp [alw, ha]
        rw [pPartF, if_neg e1, if_neg e2, if_neg e3, if_neg e4, if_neg hb, if_neg (by simp [hno])]
        exact h0.flt hf (by omega) (by simp; omega) fB hF
      have slot : alw sco (wd g q) = true → ¬ (wd g q = 3 ∧ sco = 4) → ∀ y22, wop (wd g q) = some y22 → CalV wX (d + 2) mX10_advance [.ref 1] I J (fun I24 J25 => (∃ y26, wop (wd g q) = some y26 ∧ (10000 ≤ y26 ∧ y26 < 10034) ∧ (CalV wX (d + 2) mX3_addSlot [.ref (f), .int (z_wv 3 y26)] I24 J25 (fun I27 J28 => (K (1) I27 J28))))) := by
        intro ha hb y22 ey
        have hw : 16 ≤ wd g q ∧ wd g q < 28 := by simp only [alw, decide_eq_true_eq] at ha; omega
        refine s_adv hT hk (fun I1 fA hT1 => ⟨10000 + wd g q, by rw [wop, if_pos (by omega)], by omega, ?_⟩)
        refine Cal.of (by decide) (Nat.le_of_ble_eq_true rfl) (bX3_addSlot_0 hg.2.2.2.1 ?_)
        rw [sl_wv _ (by omega) hw.1 hw.2]
        have hlt := wd_lt (g := g) (q := q) rfl (by omega)
        refine s_add (c := 24 + wd g q) hg.2.2.2.1 hf (h0.adv hf fA hT1) rfl (fun _ => by simp; omega) (fun I2 h2 => hK 1 I2 ?_)
        rw [pPartF, if_neg e1, if_neg e2, if_neg e3, if_neg e4, if_neg hb, if_pos ha]
        simpa [xCd] using h2
      have word : ¬ (wd g q = 3 ∧ sco = 4) → (((wop (wd g q)) = none → (CalI wX (d + 2) mX10_failHere [.ref (1)] I J (fun x20 I18 J19 => (((x20) = 0 ∨ (x20) = 1) ∧ K (x20) I18 J19)))) ∧ (∀ y17, (wop (wd g q)) = some y17 → (∃ y22, (wop (wd g q)) = some y22 ∧ (10000 ≤ y22 ∧ y22 < 10034) ∧ (((¬ ((z_wv 4 y22) &&& (I o 2)) = 0) → (CalV wX (d + 2) mX10_advance [.ref (1)] I J (fun I24 J25 => (∃ y26, (wop (wd g q)) = some y26 ∧ (10000 ≤ y26 ∧ y26 < 10034) ∧ (CalV wX (d + 2) mX3_addSlot [.ref (f), .int (z_wv 3 y26)] I24 J25 (fun I27 J28 => (K (1) I27 J28))))))) ∧ ((((z_wv 4 y22) &&& (I o 2)) = 0) → (CalI wX (d + 2) mX10_failHere [.ref (1)] I J (fun x33 I31 J32 => (((x33) = 0 ∨ (x33) = 1) ∧ K (x33) I31 J32)))))))) := by
        intro hb
        refine ⟨fun e5 => ?_, fun y e5 => ?_⟩
        · have : wd g q = 34 := by
            unfold wop at e5
            split at e5
            · cases e5
            · omega
          exact s_failHere hk (fun I2 fB hF => ⟨Or.inl rfl, hK 0 I2 (unk (Or.inr this) hb I2 fB hF)⟩)
        · have hw : wd g q < 34 := by
            unfold wop at e5
            split at e5
            · assumption
            · cases e5
          have ey : wop (wd g q) = some (10000 + wd g q) := by rw [wop, if_pos hw]
          refine ⟨10000 + wd g q, ey, by omega, ?_⟩
          rw [hsc, sc_wv _ hw sco (by omega) hsc4]
          refine ⟨fun e6 => slot (by simpa using e6) hb _ ey, fun e6 => s_failHere hk (fun I2 fB hF => ⟨Or.inl rfl, hK 0 I2 (unk (Or.inl e6) hb I2 fB hF)⟩)⟩
      refine ⟨fun e5 => ?_, fun e5 => ?_⟩
      · rw [w3] at e5
        exact word (fun y => e5 y.1)
      · rw [w3] at e5
        rw [hsc, show (4 : Int32) = nI 4 from rfl, nI_eq (by omega) (by omega)]
        refine ⟨fun e6 => ?_, fun e6 => ?_⟩
        · have := word (fun y => e6 y.2)
          rw [hsc] at this
          exact this
        · have hlt := wd_lt e5 (by omega)
          have ep : pPartF g sco rs rp m q = xCd 60 (xTh (xOp g m q) rp) := by rw [pPartF, if_neg e1, if_neg e2, if_neg e3, if_neg e4, if_pos ⟨e5, e6⟩]
          rw [ep] at hK
          have g1 : Gk g q 1 (xOp g m q) := Gk_op hlt
          have g2 := Gk_th g1 hGp
          refine s_opens hg hm h0 hT (by omega) (fun b2 I2 h2 => ⟨fun y => ?_, fun y => ?_⟩)
          · subst y
            have n2 := h2.b0.mp rfl
            refine s_add (c := 60) hg.2.2.2.1 hf h2 rfl (fun e3 => absurd e3 n2) (fun I6 h6 => hK 0 I6 ?_)
            rw [xTh_f n2]; exact h6
          obtain ⟨-, q2, cs2, e2'⟩ := h2.is y
          have hm0 : m ≠ 0 := fun z => by rw [xOp, if_pos z] at e2'; simp at e2'
          rw [e2'] at h2 g1 g2 hK
          have w1 := g1 rfl
          simp only at w1
          rw [nI_1, show 6 - m + 1 = 7 - m by omega]
          refine (hp hm0).run hg h2 hT hsc (by omega) (fun b3 I3 h3 => ⟨fun y => ?_, fun y => ?_⟩)
          · subst y
            exact s_add (c := 60) hg.2.2.2.1 hf h3 rfl (fun e3 => absurd e3 (h3.b0.mp rfl)) (fun I6 h6 => hK 0 I6 h6)
          · obtain ⟨eb, -⟩ := h3.is y
            subst eb
            exact s_add (c := 60) hg.2.2.2.1 hf h3 rfl (fun e3 => by have := g2 e3; omega) (fun I6 h6 => hK 1 I6 h6)
    · rw [w14] at e3
      rw [w15] at e4
      refine s_adv hT hk (fun I1 fA hT1 => c_pair (c := 6) (q0 := q) hg hm hs hGs (h0.adv hf fA hT1) hT hsc hzq (adv_le hqn).2.1 rfl (fun b2 I2 h2 => ⟨h2.b01, hK b2 I2 ?_⟩))
      rw [pPartF, if_neg e1, if_neg e2, if_neg e3, if_pos e4]; exact h2
  · -- a bracket
    have hlt := tk_lt (g := g) (q := q) (by omega)
    have ep : pPartF g sco rs rp m q = xSg g 41 (xTh (xOp g m q) rs) := by rw [pPartF, if_neg e1, if_pos e2]
    rw [ep] at hK
    have g1 : Gk g q 1 (xOp g m q) := Gk_op hlt
    have g2 := Gk_th g1 hGs
    refine s_opens hg hm h0 hT (by omega) (fun b2 I2 h2 => ⟨fun y => ?_, fun y => ?_⟩)
    · subst y
      have n2 := h2.b0.mp rfl
      refine hK 0 I2 ?_
      rw [xTh_f n2, xSg_f n2]; exact h2
    obtain ⟨-, q2, cs2, e2'⟩ := h2.is y
    have hm0 : m ≠ 0 := fun z => by rw [xOp, if_pos z] at e2'; simp at e2'
    rw [e2'] at h2 g1 g2 hK
    have w1 := g1 rfl
    simp only at w1
    rw [nI_1, show 6 - m + 1 = 7 - m by omega]
    refine (hs2 hm0).run hg h2 hT hsc (by omega) (fun b3 I3 h3 => ⟨fun y => ?_, fun y => ?_⟩)
    · subst y
      refine hK 0 I3 ?_
      rw [xSg_f (h3.b0.mp rfl)]; exact h3
    obtain ⟨-, q3, cs3, e3⟩ := h3.is y
    rw [e3] at h3 g2 hK
    have w2 := g2 rfl
    simp only at w2
    refine s_expectSignP (c := 41) hg h3 hT (by omega) (by omega) (fun b4 I4 h4 => ⟨fun y => ?_, fun y => ?_⟩)
    · subst y; exact hK 0 I4 h4
    · obtain ⟨eb, -⟩ := h4.is y
      subst eb
      exact hK 1 I4 h4
  · -- a number
    have hlt := tk_lt (g := g) (q := q) (by omega)
    refine s_takeNumber (a := 0) (b := 9999) hT hk (by omega) (by omega) (fun en I1 fA hT1 => ?_) (fun en I1 fB hF => ?_)
    · have e4 : tsp g q - q ≤ 4 := by
        by_cases e4 : tsp g q - q ≤ 4
        · exact e4
        · rw [nmf, if_pos e1, if_neg e4] at en; simp at en
      refine s_add (c := 1000 + tvl g q) hg.2.2.2.1 hf (h0.adv hf fA hT1) (trc_n hvl) (fun _ => by simp; omega) (fun I2 h2 => ⟨fun y => absurd y (nI_ne_m1 (by omega)), fun _ => hK 1 I2 ?_⟩)
      rw [pPartF, if_pos e1, if_pos e4]
      simpa [xCd] using h2
    · have e4 : ¬ tsp g q - q ≤ 4 := by
        intro e4
        rw [nmf, if_pos e1, if_pos e4, if_pos (by omega)] at en; simp at en
      have ef : nmf g 0 9999 q = (1, q + 4) := by rw [nmf, if_pos e1, if_neg e4]
      rw [ef] at hF
      refine s_add (c := 40) (r := (1, q + 4, [])) (b := 0) (z := z) (I := I) (g := g) hg.2.2.2.1 hf (h0.flt hf (by omega) (by simp; omega) fB hF) (by decide) (fun e3 => absurd e3 (by simp)) (fun I2 h2 => ⟨fun _ => hK 0 I2 ?_, fun y => absurd rfl y⟩)
      rw [pPartF, if_pos e1, if_neg e4]
      exact h2.cong (by simp [xCd]) rfl rfl
end GR

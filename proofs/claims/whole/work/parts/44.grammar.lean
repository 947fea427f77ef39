/-! the class's Grammar -/
def Sp (g : Sx) (o f sco d : Nat) (M : Mt) (v : Int32) (p : Nat → Res) : Prop := ∀ (I : Ii) (J : Jj) (K : KI) (z q : Nat), EnT I g → I o 2 = nI sco → TokAt I g q → I f 4 = nI z → z ≤ q → (∀ b I', PO g f z I (p q) b I' → K b I' J) → CalI wX d M [.ref o, .int v] I J K
section GR
variable {d : Nat} {I I1 : Ii} {J : Jj} {g : Sx} {o f sco z q : Nat} {r : Res} {b : Int32} {cs : List Nat}
/-- the objects stand as they should -/
def GO (o f : Nat) : Prop := z_Ob wX o 4 ∧ wX.2.2 o 0 = some 1 ∧ wX.2.2 o 1 = some f ∧ z_Ob wX f 3 ∧ 2 < f ∧ 2 < o ∧ o ≠ f ∧ o ≠ f + 1
theorem FrP.sc (h : FrP f I I1) (hg : GO o f) (hs : I o 2 = nI sco) : I1 o 2 = nI sco := by rw [h.1 o (by have := hg.2.2.2.2.2.1; omega) hg.2.2.2.2.2.2.1 hg.2.2.2.2.2.2.2]; exact hs
theorem PO.T (h : PO g f z I (0, q, cs) b I1) : TokAt I1 g q := (h.2.1 rfl).2.1
theorem PO.sz (h : PO g f z I (0, q, cs) b I1) : I1 f 4 = nI (z + cs.length) := (h.2.1 rfl).2.2.1
theorem Sp.run {M : Mt} {v : Int32} {p : Nat → Res} {K : KI} (hS : Sp g o f sco d M v p) (hg : GO o f) (h : PO g f z I (0, q, cs) b I1) (hT : EnT I g) (hs : I o 2 = nI sco) (hz : z + cs.length ≤ q) (hK : ∀ b2 I2, PO g f z I (xTh (0, q, cs) p) b2 I2 → K b2 I2 J) : CalI wX d M [.ref o, .int v] I1 J K := by
  refine hS I1 J K (z + cs.length) q (hT.P h.1 hg.2.2.2.2.1) (h.1.sc hg hs) h.T h.sz hz (fun b2 I2 h2 => hK b2 I2 ?_)
  have := h.seq h2
  simpa [xTh] using this
theorem s_expectSignP {c : Nat} {K : KI} (hg : GO o f) (h : PO g f z I (0, q, cs) b I1) (hT : EnT I g) (hc : c < 300) (hz : z + cs.length ≤ 1600) (hK : ∀ b2 I2, PO g f z I (xSg g c (0, q, cs)) b2 I2 → K b2 I2 J) : CalI wX (d + 1) mX10_expectSign [.ref 1, .int (nI c)] I1 J K := by
  have hf := hg.2.2.2.2.1
  refine s_expectSign (hT.P h.1 hf) h.T hc (fun e I2 fA hT2 => hK 1 I2 ?_) (fun e I2 fB hF => hK 0 I2 ?_)
  · rw [xSg, if_pos rfl, if_pos e]; exact h.adv hf fA hT2
  · rw [xSg, if_pos rfl, if_neg e]; exact h.flt hf (by omega) hz fB hF
theorem s_opens {m : Nat} {K : KI} (hg : GO o f) (hm : m ≤ 6) (h : PO g f z I (0, q, []) b I1) (hT : EnT I g) (hz : z ≤ 1600) (hK : ∀ b2 I2, PO g f z I (xOp g m q) b2 I2 → K b2 I2 J) : CalI wX (d + 1) mX4_opens [.ref o, .int (nI (6 - m))] I1 J K := by
  have hf := hg.2.2.2.2.1
  refine Cal.of (by decide) (Nat.le_of_ble_eq_true rfl) (bX4_opens_0 hg.1 hg.2.1 hg.2.2.1 hg.2.2.2.1 ?_)
  rw [show (6 : Int32) = nI 6 from rfl, nI_ltI (by omega) (by omega)]
  refine ⟨fun e => s_adv (hT.P h.1 hf) h.T (fun I2 fA hT2 => hK 1 I2 ?_), fun e => ?_⟩
  · rw [xOp, if_neg (by omega)]; exact h.adv hf fA hT2
  · rw [(h.2.1 rfl).2.1.1.1]
    refine s_fail (k := 4) (fun I2 fB hF => ⟨Or.inl rfl, hK 0 I2 ?_⟩)
    rw [xOp, if_pos (by omega)]; exact h.flt hf (by omega) (by simpa using hz) fB hF
theorem c_product {n : Nat} {p : Nat → Res} (hg : GO o f) (hS : Sp g o f sco d mX4_readPart (nI n) p) (hp : Gd g p) : Sp g o f sco (d + 1) mX4_readProduct (nI n) (rLp g p (opP g)) := by
  intro I J K z q hT hs hk hz hzq hK
  have hf := hg.2.2.2.2.1
  have h16 := hT.1.2
  have key : ∀ fu k (r : Res) b I1, k + fu = 1600 → PO g f z I r b I1 → Gd1 g q r → (∀ b' I', PO g f z I (pLoop g p (opP g) fu r) b' I' → K b' I' J) → GoI wX (d + 1) mX4_readProduct 8 [(0, .ref o), (1, .int (nI n)), (2, .int b), (3, .int (nI k))] [] I1 J K := by
    intro fu
    induction fu with
    | zero =>
      intro k r b I1 hk hP hG hK
      refine bX4_readProduct_8 hg.1 hg.2.1 hg.2.2.1 hg.2.2.2.1 ⟨fun _ => ⟨hP.b01, hK b I1 hP⟩, fun y => absurd (nI_le (a := 1600) (by omega) (by omega)) y⟩
    | succ fu ih =>
      intro k r b I1 hk hP hG hK
      refine bX4_readProduct_8 hg.1 hg.2.1 hg.2.2.1 hg.2.2.2.1 ⟨fun y => absurd ((nI_leI (a := 1600) (by decide) (by omega)).mp y) (by omega), fun _ => ⟨fun y => ⟨hP.b01, hK b I1 ?_⟩, fun y => ?_⟩⟩
      · rw [pLoop_f (hP.b0.mp y)]; exact hP
      · have e : r.1 = 0 := by
          by_cases e : r.1 = 0
          · exact e
          · exact absurd (hP.b0.mpr e) y
        obtain ⟨r1, q1, cs⟩ := r
        simp only at e
        subst e
        have hG1 := hG rfl
        simp only at hG1
        have ha := adv_le (g := g) (q := q1) hG1.2
        have stop : opP g q1 = 0 → K b I1 J := fun e => hK b I1 (by rw [pLoop, if_neg (fun y => y.2 e)]; exact hP)
        have go : ∀ I2 v, opP g q1 ≠ 0 → v = iI (trc (opP g q1)) → FrA I1 I2 → TokAt I2 g (adv g q1) → CalI wX d mX4_readPart [.ref o, .int (nI n)] I2 J (fun x11 I9 J10 => (CalV wX d mX3_add [.ref (f), .int v] I9 J10 (fun I12 J13 => (GoI wX (d + 1) mX4_readProduct 8 [(0, .ref (o)), (1, .int (nI n)), (2, .int (x11)), (3, .int (nI (k + 1)))] [] I12 J13 K)))) := by
          intro I2 v eo ev fA hT2
          have hlt := ha.2.2 (opP_lt eo)
          refine hS.run hg (hP.adv hf fA hT2) hT hs (by omega) (fun b2 I3 h3 => ?_)
          have hgx : Gd1 g q (xCd (opP g q1) (xTh (0, adv g q1, cs) p)) := Gk_0.mp (Gk_cd (Gk_th (k := 1) (fun _ => ⟨by simp only; omega, ha.1⟩) hp))
          refine s_add (c := opP g q1) hg.2.2.2.1 hf h3 ev (fun e3 => ?_) (fun I4 h4 => ?_)
          · have := Gk_th (k := 1) (g := g) (q := q) (r := (0, adv g q1, cs)) (fun _ => ⟨by simp only; omega, ha.1⟩) hp e3
            omega
          · refine ih (k + 1) _ b2 I4 (by omega) h4 hgx (fun b' I' h' => hK b' I' ?_)
            rw [pLoop, if_pos ⟨rfl, eo⟩]
            simpa [xCd, xTh] using h'
        have htl := tk_le hT.lt q1
        rw [(hP.2.1 rfl).2.1.2.2.1, show (42 : Int32) = nI 42 from rfl, show (47 : Int32) = nI 47 from rfl, tkI_eq htl (by omega), tkI_eq htl (by omega), nI_1]
        refine ⟨fun y => s_adv (hT.P hP.1 hf) hP.T (fun I2 fA hT2 => ?_), fun y => ⟨fun y2 => ⟨hP.b01, stop ?_⟩, fun y2 => s_adv (hT.P hP.1 hf) hP.T (fun I2 fA hT2 => ?_)⟩⟩
        · have eo : opP g q1 = 3 := by rw [opP, if_pos y]
          exact go I2 (-22) (by omega) (by rw [eo]; rfl) fA hT2
        · rw [opP, if_neg y, if_neg y2]
        · have eo : opP g q1 = 4 := by rw [opP, if_neg y, if_pos y2]
          exact go I2 (-23) (by omega) (by rw [eo]; rfl) fA hT2
  refine Cal.of (by decide) (Nat.le_of_ble_eq_true rfl) (bX4_readProduct_0 hg.1 hg.2.1 hg.2.2.1 hg.2.2.2.1 (hS I J _ z q hT hs hk hz hzq (fun b I' h => ?_)))
  exact key 1600 0 (p q) b I' (by omega) h (hp q hk.1.2) hK
theorem c_sum {n : Nat} {p : Nat → Res} (hg : GO o f) (hS : Sp g o f sco d mX4_readProduct (nI n) p) (hp : Gd g p) : Sp g o f sco (d + 1) mX4_readSum (nI n) (rLp g p (opS g)) := by
  intro I J K z q hT hs hk hz hzq hK
  have hf := hg.2.2.2.2.1
  have h16 := hT.1.2
  have key : ∀ fu k (r : Res) b I1, k + fu = 1600 → PO g f z I r b I1 → Gd1 g q r → (∀ b' I', PO g f z I (pLoop g p (opS g) fu r) b' I' → K b' I' J) → GoI wX (d + 1) mX4_readSum 8 [(0, .ref o), (1, .int (nI n)), (2, .int b), (3, .int (nI k))] [] I1 J K := by
    intro fu
    induction fu with
    | zero =>
      intro k r b I1 hk hP hG hK
      refine bX4_readSum_8 hg.1 hg.2.1 hg.2.2.1 hg.2.2.2.1 ⟨fun _ => ⟨hP.b01, hK b I1 hP⟩, fun y => absurd (nI_le (a := 1600) (by omega) (by omega)) y⟩
    | succ fu ih =>
      intro k r b I1 hk hP hG hK
      refine bX4_readSum_8 hg.1 hg.2.1 hg.2.2.1 hg.2.2.2.1 ⟨fun y => absurd ((nI_leI (a := 1600) (by decide) (by omega)).mp y) (by omega), fun _ => ⟨fun y => ⟨hP.b01, hK b I1 ?_⟩, fun y => ?_⟩⟩
      · rw [pLoop_f (hP.b0.mp y)]; exact hP
      · have e : r.1 = 0 := by
          by_cases e : r.1 = 0
          · exact e
          · exact absurd (hP.b0.mpr e) y
        obtain ⟨r1, q1, cs⟩ := r
        simp only at e
        subst e
        have hG1 := hG rfl
        simp only at hG1
        have ha := adv_le (g := g) (q := q1) hG1.2
        have stop : opS g q1 = 0 → K b I1 J := fun e => hK b I1 (by rw [pLoop, if_neg (fun y => y.2 e)]; exact hP)
        have go : ∀ I2 v, opS g q1 ≠ 0 → v = iI (trc (opS g q1)) → FrA I1 I2 → TokAt I2 g (adv g q1) → CalI wX d mX4_readProduct [.ref o, .int (nI n)] I2 J (fun x11 I9 J10 => (CalV wX d mX3_add [.ref (f), .int v] I9 J10 (fun I12 J13 => (GoI wX (d + 1) mX4_readSum 8 [(0, .ref (o)), (1, .int (nI n)), (2, .int (x11)), (3, .int (nI (k + 1)))] [] I12 J13 K)))) := by
          intro I2 v eo ev fA hT2
          have hlt := ha.2.2 (opS_lt eo)
          refine hS.run hg (hP.adv hf fA hT2) hT hs (by omega) (fun b2 I3 h3 => ?_)
          have hgx : Gd1 g q (xCd (opS g q1) (xTh (0, adv g q1, cs) p)) := Gk_0.mp (Gk_cd (Gk_th (k := 1) (fun _ => ⟨by simp only; omega, ha.1⟩) hp))
          refine s_add (c := opS g q1) hg.2.2.2.1 hf h3 ev (fun e3 => ?_) (fun I4 h4 => ?_)
          · have := Gk_th (k := 1) (g := g) (q := q) (r := (0, adv g q1, cs)) (fun _ => ⟨by simp only; omega, ha.1⟩) hp e3
            omega
          · refine ih (k + 1) _ b2 I4 (by omega) h4 hgx (fun b' I' h' => hK b' I' ?_)
            rw [pLoop, if_pos ⟨rfl, eo⟩]
            simpa [xCd, xTh] using h'
        have htl := tk_le hT.lt q1
        rw [(hP.2.1 rfl).2.1.2.2.1, show (43 : Int32) = nI 43 from rfl, show (45 : Int32) = nI 45 from rfl, tkI_eq htl (by omega), tkI_eq htl (by omega), nI_1]
        refine ⟨fun y => s_adv (hT.P hP.1 hf) hP.T (fun I2 fA hT2 => ?_), fun y => ⟨fun y2 => ⟨hP.b01, stop ?_⟩, fun y2 => s_adv (hT.P hP.1 hf) hP.T (fun I2 fA hT2 => ?_)⟩⟩
        · have eo : opS g q1 = 1 := by rw [opS, if_pos y]
          exact go I2 (-20) (by omega) (by rw [eo]; rfl) fA hT2
        · rw [opS, if_neg y, if_neg y2]
        · have eo : opS g q1 = 2 := by rw [opS, if_neg y, if_pos y2]
          exact go I2 (-21) (by omega) (by rw [eo]; rfl) fA hT2
  refine Cal.of (by decide) (Nat.le_of_ble_eq_true rfl) (bX4_readSum_0 hg.1 hg.2.1 hg.2.2.1 hg.2.2.2.1 (hS I J _ z q hT hs hk hz hzq (fun b I' h => ?_)))
  exact key 1600 0 (p q) b I' (by omega) h (hp q hk.1.2) hK
theorem c_both {n : Nat} {p : Nat → Res} (hg : GO o f) (hS : Sp g o f sco d mX4_readClaim (nI n) p) (hp : Gd g p) : Sp g o f sco (d + 1) mX4_readBoth (nI n) (rLp g p (opA g)) := by
  intro I J K z q hT hs hk hz hzq hK
  have hf := hg.2.2.2.2.1
  have h16 := hT.1.2
  have key : ∀ fu k (r : Res) b I1, k + fu = 1600 → PO g f z I r b I1 → Gd1 g q r → (∀ b' I', PO g f z I (pLoop g p (opA g) fu r) b' I' → K b' I' J) → GoI wX (d + 1) mX4_readBoth 8 [(0, .ref o), (1, .int (nI n)), (2, .int b), (3, .int (nI k))] [] I1 J K := by
    intro fu
    induction fu with
    | zero =>
      intro k r b I1 hk hP hG hK
      refine bX4_readBoth_8 hg.1 hg.2.1 hg.2.2.1 hg.2.2.2.1 ⟨fun _ => ⟨hP.b01, hK b I1 hP⟩, fun y => absurd (nI_le (a := 1600) (by omega) (by omega)) y⟩
    | succ fu ih =>
      intro k r b I1 hk hP hG hK
      refine bX4_readBoth_8 hg.1 hg.2.1 hg.2.2.1 hg.2.2.2.1 ⟨fun y => absurd ((nI_leI (a := 1600) (by decide) (by omega)).mp y) (by omega), fun _ => ⟨fun y => ⟨hP.b01, hK b I1 ?_⟩, fun y => ?_⟩⟩
      · rw [pLoop_f (hP.b0.mp y)]; exact hP
      · have e : r.1 = 0 := by
          by_cases e : r.1 = 0
          · exact e
          · exact absurd (hP.b0.mpr e) y
        obtain ⟨r1, q1, cs⟩ := r
        simp only at e
        subst e
        have hG1 := hG rfl
        simp only at hG1
        have ha := adv_le (g := g) (q := q1) hG1.2
        have stop : opA g q1 = 0 → K b I1 J := fun e => hK b I1 (by rw [pLoop, if_neg (fun y => y.2 e)]; exact hP)
        have go : ∀ I2 v, opA g q1 ≠ 0 → v = iI (trc (opA g q1)) → FrA I1 I2 → TokAt I2 g (adv g q1) → CalI wX d mX4_readClaim [.ref o, .int (nI n)] I2 J (fun x11 I9 J10 => (CalV wX d mX3_add [.ref (f), .int v] I9 J10 (fun I12 J13 => (GoI wX (d + 1) mX4_readBoth 8 [(0, .ref (o)), (1, .int (nI n)), (2, .int (x11)), (3, .int (nI (k + 1)))] [] I12 J13 K)))) := by
          intro I2 v eo ev fA hT2
          have hlt := ha.2.2 (opA_lt eo)
          refine hS.run hg (hP.adv hf fA hT2) hT hs (by omega) (fun b2 I3 h3 => ?_)
          have hgx : Gd1 g q (xCd (opA g q1) (xTh (0, adv g q1, cs) p)) := Gk_0.mp (Gk_cd (Gk_th (k := 1) (fun _ => ⟨by simp only; omega, ha.1⟩) hp))
          refine s_add (c := opA g q1) hg.2.2.2.1 hf h3 ev (fun e3 => ?_) (fun I4 h4 => ?_)
          · have := Gk_th (k := 1) (g := g) (q := q) (r := (0, adv g q1, cs)) (fun _ => ⟨by simp only; omega, ha.1⟩) hp e3
            omega
          · refine ih (k + 1) _ b2 I4 (by omega) h4 hgx (fun b' I' h' => hK b' I' ?_)
            rw [pLoop, if_pos ⟨rfl, eo⟩]
            simpa [xCd, xTh] using h'
        refine s_isWord (i := 11) (hT.P hP.1 hf) hP.T (by omega) ⟨fun y => ⟨hP.b01, stop ?_⟩, fun y => s_adv (hT.P hP.1 hf) hP.T (fun I2 fA hT2 => ?_)⟩
        · rw [b01_0, decide_eq_false_iff_not] at y; rw [opA, if_neg y]
        · rw [b01_n, decide_eq_true_eq] at y
          have eo : opA g q1 = 10 := by rw [opA, if_pos y]
          rw [nI_1]
          exact go I2 (-29) (by omega) (by rw [eo]; rfl) fA hT2
  refine Cal.of (by decide) (Nat.le_of_ble_eq_true rfl) (bX4_readBoth_0 hg.1 hg.2.1 hg.2.2.1 hg.2.2.2.1 (hS I J _ z q hT hs hk hz hzq (fun b I' h => ?_)))
  exact key 1600 0 (p q) b I' (by omega) h (hp q hk.1.2) hK
theorem c_test {n : Nat} {p : Nat → Res} (hg : GO o f) (hS : Sp g o f sco d mX4_readBoth (nI n) p) (hp : Gd g p) : Sp g o f sco (d + 1) mX4_readTest (nI n) (rLp g p (opO g)) := by
  intro I J K z q hT hs hk hz hzq hK
  have hf := hg.2.2.2.2.1
  have h16 := hT.1.2
  have key : ∀ fu k (r : Res) b I1, k + fu = 1600 → PO g f z I r b I1 → Gd1 g q r → (∀ b' I', PO g f z I (pLoop g p (opO g) fu r) b' I' → K b' I' J) → GoI wX (d + 1) mX4_readTest 8 [(0, .ref o), (1, .int (nI n)), (2, .int b), (3, .int (nI k))] [] I1 J K := by
    intro fu
    induction fu with
    | zero =>
      intro k r b I1 hk hP hG hK
      refine bX4_readTest_8 hg.1 hg.2.1 hg.2.2.1 hg.2.2.2.1 ⟨fun _ => ⟨hP.b01, hK b I1 hP⟩, fun y => absurd (nI_le (a := 1600) (by omega) (by omega)) y⟩
    | succ fu ih =>
      intro k r b I1 hk hP hG hK
      refine bX4_readTest_8 hg.1 hg.2.1 hg.2.2.1 hg.2.2.2.1 ⟨fun y => absurd ((nI_leI (a := 1600) (by decide) (by omega)).mp y) (by omega), fun _ => ⟨fun y => ⟨hP.b01, hK b I1 ?_⟩, fun y => ?_⟩⟩
      · rw [pLoop_f (hP.b0.mp y)]; exact hP
      · have e : r.1 = 0 := by
          by_cases e : r.1 = 0
          · exact e
          · exact absurd (hP.b0.mpr e) y
        obtain ⟨r1, q1, cs⟩ := r
        simp only at e
        subst e
        have hG1 := hG rfl
        simp only at hG1
        have ha := adv_le (g := g) (q := q1) hG1.2
        have stop : opO g q1 = 0 → K b I1 J := fun e => hK b I1 (by rw [pLoop, if_neg (fun y => y.2 e)]; exact hP)
        have go : ∀ I2 v, opO g q1 ≠ 0 → v = iI (trc (opO g q1)) → FrA I1 I2 → TokAt I2 g (adv g q1) → CalI wX d mX4_readBoth [.ref o, .int (nI n)] I2 J (fun x11 I9 J10 => (CalV wX d mX3_add [.ref (f), .int v] I9 J10 (fun I12 J13 => (GoI wX (d + 1) mX4_readTest 8 [(0, .ref (o)), (1, .int (nI n)), (2, .int (x11)), (3, .int (nI (k + 1)))] [] I12 J13 K)))) := by
          intro I2 v eo ev fA hT2
          have hlt := ha.2.2 (opO_lt eo)
          refine hS.run hg (hP.adv hf fA hT2) hT hs (by omega) (fun b2 I3 h3 => ?_)
          have hgx : Gd1 g q (xCd (opO g q1) (xTh (0, adv g q1, cs) p)) := Gk_0.mp (Gk_cd (Gk_th (k := 1) (fun _ => ⟨by simp only; omega, ha.1⟩) hp))
          refine s_add (c := opO g q1) hg.2.2.2.1 hf h3 ev (fun e3 => ?_) (fun I4 h4 => ?_)
          · have := Gk_th (k := 1) (g := g) (q := q) (r := (0, adv g q1, cs)) (fun _ => ⟨by simp only; omega, ha.1⟩) hp e3
            omega
          · refine ih (k + 1) _ b2 I4 (by omega) h4 hgx (fun b' I' h' => hK b' I' ?_)
            rw [pLoop, if_pos ⟨rfl, eo⟩]
            simpa [xCd, xTh] using h'
        refine s_isWord (i := 10) (hT.P hP.1 hf) hP.T (by omega) ⟨fun y => ⟨hP.b01, stop ?_⟩, fun y => s_adv (hT.P hP.1 hf) hP.T (fun I2 fA hT2 => ?_)⟩
        · rw [b01_0, decide_eq_false_iff_not] at y; rw [opO, if_neg y]
        · rw [b01_n, decide_eq_true_eq] at y
          have eo : opO g q1 = 11 := by rw [opO, if_pos y]
          rw [nI_1]
          exact go I2 (-30) (by omega) (by rw [eo]; rfl) fA hT2
  refine Cal.of (by decide) (Nat.le_of_ble_eq_true rfl) (bX4_readTest_0 hg.1 hg.2.1 hg.2.2.1 hg.2.2.2.1 (hS I J _ z q hT hs hk hz hzq (fun b I' h => ?_)))
  exact key 1600 0 (p q) b I' (by omega) h (hp q hk.1.2) hK
end GR

/-! the reference: school -/
theorem EnMC.sl {I I' : Ii} {J J' : Jj} {sc : Sx} {L : Nat → List Nat} (h : EnMC I J sc L) (hs : ∀ a k, (a = 31 ∧ 2 ≤ k) ∨ ((a = 33 ∨ a = 34) ∧ 8 ≤ k) ∨ ((a = 38 ∨ a = 39 ∨ a = 40) ∧ 3 ≤ k) ∨ (a = 41 ∧ 1600 ≤ k) → I' a k = I a k) (hj : ∀ k, 16 ≤ k → J' 32 k = J 32 k) : EnMC I' J' sc L := by
  obtain ⟨h1, h2, h3, h4, h5, h6, h7, h8, h9⟩ := h
  refine ⟨by rw [hs 31 2 (by omega)]; exact h1, by rw [hs 31 3 (by omega)]; exact h2, by rw [hs 38 3 (by omega)]; exact h3, by rw [hs 38 4 (by omega)]; exact h4, by rw [hs 38 5 (by omega)]; exact h5, fun f hf => ?_, fun p hp => ?_, fun w hw => ?_, h9⟩
  · rw [hj (16 + f) (by omega), hs 33 (8 + f) (by omega)]; exact h6 f hf
  · rw [hj (24 + p) (by omega), hs 34 (8 + p) (by omega)]; exact h7 p hp
  · rcases h8 w hw with ⟨y1, y2⟩ | ⟨y1, f, y2, y3, y4, y5⟩
    · exact Or.inl ⟨y1, by rw [hs 39 (3 + w) (by omega)]; exact y2⟩
    · exact Or.inr ⟨y1, f, by rw [hs 39 (3 + w) (by omega)]; exact y2, by rw [hs 40 (3 + w) (by omega)]; exact y3, y4, fun i hi => by rw [hs 41 (1600 + f + i) (by omega)]; exact y5 i hi⟩
section MDD
variable {d : Nat} {I : Ii} {J : Jj} {sc s g : Sx} {L : Nat → List Nat} {ps : Nat → Sx} {q z c : Nat} {D : Dr}
theorem sLp_f : ∀ n c D q, (sLp g n c D q).1 < 10 := by
  intro n
  have hst : ∀ D q, (sSt g D q).1 < 10 := by
    intro D q
    have hN : ∀ i wo a b, (sNew g i wo a b D q).1 < 10 := fun i wo a b => by
      unfold sNew
      split
      · simp
      · split
        · exact nwn_f
        · split
          · simp
          · split
            · exact nmf_f
            · simp
    have hB : ∀ b, (sBel g b D q).1 < 10 := fun b => by
      unfold sBel
      split
      · exact kno_f
      · split
        · exact kno_f
        · split <;> simp
    have hT : (sTau g D q).1 < 10 := by
      unfold sTau
      split
      · exact kno_f
      · split
        · simp
        · split
          · simp
          · split
            · exact kno_f
            · split <;> simp
    have hL : ∀ w sco, (sLaw g w sco D q).1 < 10 := fun w sco => by
      unfold sLaw
      split
      · simp
      · split
        · exact pTest_f _
        · simp
    have hU : ∀ i a b, (sNum g i a b D q).1 < 10 := fun i a b => by
      unfold sNum
      split
      · exact nmf_f
      · simp
    unfold sSt
    repeat' split
    all_goals first | exact hN _ _ _ _ | exact hB _ | exact hT | exact hL _ _ | exact hU _ _ _ | simp
  induction n with
  | zero => intro c D q; simp only [sLp]; split <;> simp
  | succ n ih =>
    intro c D q
    simp only [sLp]
    split
    · simp
    · split
      · exact hst D q
      · split
        · exact ih _ _ _
        · simp
theorem y_school {K : KI} (hM : EnM I J sc L s ps g) (h : ∀ I' J', EnM I' J' (scS sc g) (LSc L g) (s_sch s g) ps (g_sch g) → K (r_sch g) I' J') : CalI wM (d + 12) mX13_school [.ref 0] I J K := by
  unfold scS LSc s_sch g_sch r_sch at h
  refine Cal.of (by decide) (Nat.le_of_ble_eq_true rfl) (bX13_school_0 ?_)
  -- the beginning
  rw [show ((0 : Int32).toNatClampNeg) = 0 from rfl, show ((1 : Int32).toNatClampNeg) = 1 from rfl]
  generalize hS : u2 (u2 (u2 (u2 (u2 (u2 (u2 (u2 I 0 3 (I 0 1)) 0 1 0) 0 2 0) 0 4 (-1)) 0 5 0) 0 6 (-1)) 0 51 0) 0 50 0 = S
  have hB : Beg I S := by
    subst hS
    refine ⟨fun a ha => by simp only [u2_row ha], fun k hk => ?_, ?_, ?_, ?_, ?_, ?_, ?_⟩
    · rcases hk with rfl | rfl | rfl | rfl | rfl <;> rfl
    all_goals rfl
  have s51 : S 0 51 = nI 0 := by subst hS; rw [u2_k (by omega), u2_at]; rfl
  have s50 : S 0 50 = nI 0 := by subst hS; rw [u2_at]; rfl
  obtain ⟨hG, hr⟩ := hB.T hM
  -- a fault at the end
  have bad : (sRd g).1 ≠ 0 → ∀ I1 J1, FrGn S J I1 J1 → Flm I1 (sRd g).1 (sRd g).2.1 → GoI wM (d + 12) mX13_school 134 [(0, .ref 0)] [] I1 J1 K := by
    intro e I1 J1 f1 l1
    have n5 := l1.b ⟨by omega, sLp_f 80 0 D0 (skp g 0)⟩
    simp only [if_neg e] at h
    refine bX13_school_134 ⟨fun _ => ?_, fun y => absurd y n5⟩
    rintro _ rfl _ rfl
    have e5 : u2 (u2 I1 0 7 (I1 0 5)) 0 8 (u2 I1 0 7 (I1 0 5) 0 6) 0 5 = I1 0 5 := by rw [u2_k (by omega), u2_k (by omega)]
    rw [e5]
    refine ⟨fun y => absurd y n5, fun _ => ?_⟩
    generalize hIE : u2 (u2 I1 0 7 (I1 0 5)) 0 8 (u2 I1 0 7 (I1 0 5) 0 6) = IE
    have rE : ∀ a, a ≠ 0 → IE a = I1 a := fun a ha => by subst hIE; rw [u2_row ha, u2_row ha]
    have kE : ∀ k, k ≠ 7 → k ≠ 8 → IE 0 k = I1 0 k := fun k h7 h8 => by subst hIE; rw [u2_k h8, u2_k h7]
    have e7 : IE 0 7 = nI (sRd g).1 := by subst hIE; rw [u2_k (by omega), u2_at]; exact l1.1
    have e8 : IE 0 8 = mI ((sRd g).2.1 + 1) := by subst hIE; rw [u2_at, u2_k (by omega), mI_s]; exact l1.2
    generalize (sRd g).1 = k at *
    generalize (sRd g).2.1 = p at *
    have rr : ∀ a, a ≠ 0 → (a < 31 ∨ a = 32 ∨ 41 < a) → a ≠ 75 → a ≠ 76 → IE a = I a := fun a b c v w => by rw [rE a b, f1.1 a b c v w]; exact hB.1 a b
    have fk : ∀ j, (j = 58 ∨ j = 60 ∨ j = 65 ∨ j = 66 ∨ j = 104) → IE 0 j = I 0 j := fun j hj => by rw [kE j (by omega) (by omega), f1.2.2.1 j (by omega)]; exact hB.2.1 j hj
    have key : EnM IE J1 sc L s ps (up (up (up g 0 0 0) 0 1 k) 0 2 (p + 1)) := by
      obtain ⟨x1, x2, x3, x4, x5, x6, x7, x8, x9, x10, x11, x12, x13⟩ := hM
      have hg : ∀ j, j ≠ 0 → j ≠ 1 → j ≠ 2 → up (up (up g 0 0 0) 0 1 k) 0 2 (p + 1) 0 j = g 0 j := fun j a b c => by simp [up, a, b, c]
      have hgr : ∀ a, a ≠ 0 → up (up (up g 0 0 0) 0 1 k) 0 2 (p + 1) a = g a := fun a ha => by funext j; simp [up, ha]
      have r0 : up (up (up g 0 0 0) 0 1 k) 0 2 (p + 1) 0 0 = 0 := by simp [up]
      have r1 : up (up (up g 0 0 0) 0 1 k) 0 2 (p + 1) 0 1 = k := by simp [up]
      have r2 : up (up (up g 0 0 0) 0 1 k) 0 2 (p + 1) 0 2 = p + 1 := by simp [up]
      refine ⟨x1.sl (fun a j hj => by rw [rE a (by omega), f1.2.1 a j hj, hB.1 a (by omega)]) (fun j hj => f1.2.2.2.2.2 j hj), x2.row (rr 42 (by omega) (by omega) (by omega) (by omega)), x3, by rw [rr 42 (by omega) (by omega) (by omega) (by omega)]; exact x4, by rw [fk 58 (by omega)]; exact x5, ⟨⟨by rw [r0, kE 1 (by omega) (by omega), f1.2.2.1 1 (by omega)]; exact hB.2.2.1, by omega⟩, fun j hj => absurd hj (by omega)⟩, ?_, ⟨by rw [r1]; exact e7, by rw [r2]; exact e8⟩, fun j hj => by rw [rr 2 (by omega) (by omega) (by omega) (by omega), hgr 2 (by omega)]; exact x9 j hj, ?_, by rw [f1.2.2.2.2.1 0 (by omega), hg 5 (by omega) (by omega) (by omega)]; exact x11, ?_, fun a ha j hj => by rw [rr a (by omega) (by omega) (by omega) (by omega)]; exact x13 a ha j hj⟩
      · unfold EnMR
        rw [fk 60 (by omega), rr 46 (by omega) (by omega) (by omega) (by omega), hg 3 (by omega) (by omega) (by omega), hgr 4 (by omega)]; exact x7
      · unfold EnMI
        rw [fk 104 (by omega), rr 78 (by omega) (by omega) (by omega) (by omega), hg 4 (by omega) (by omega) (by omega), hgr 3 (by omega)]; exact x10
      · unfold EnU
        rw [fk 65 (by omega), fk 66 (by omega), rr 49 (by omega) (by omega) (by omega) (by omega), hg 6 (by omega) (by omega) (by omega)]; exact x12
    exact h _ _ (key.rfu 1 (by omega))
  -- no fault
  have good : (sRd g).1 = 0 → ∀ I1 J1 z, FrGn S J I1 J1 → I1 0 5 = 0 → EnDm I1 J1 (sRd g).2.2 z → I1 0 51 = nI (sRd g).2.1 → ∀ I14 : Ii, I14 = u2 I1 0 7 (I1 0 5) → ∀ I15 : Ii, I15 = u2 I14 0 8 (I14 0 6) → (((I15 0 5) = 0) → (CalV wM (d + 11) mX13_stands [.ref (0)] I15 J1 (fun I17 J18 => (K (I17 0 51) I17 J18)))) ∧ ((¬ (I15 0 5) = 0) → (K ((-1)) (u2 I15 2 (1 : Int32).toNatClampNeg ((I15 2 (1 : Int32).toNatClampNeg) + 1)) J1)) := by
    intro e I1 J1 z f1 e5 hD h51
    simp only [if_pos e] at h
    rintro _ rfl _ rfl
    have e6 : I1 0 6 = -1 := by rw [(f1.2.2.2.1 e5).2]; exact hB.2.2.2.2.2.2.2
    have e5' : u2 (u2 I1 0 7 (I1 0 5)) 0 8 (u2 I1 0 7 (I1 0 5) 0 6) 0 5 = I1 0 5 := by rw [u2_k (by omega), u2_k (by omega)]
    rw [e5']
    refine ⟨fun _ => ?_, fun y => absurd e5 y⟩
    generalize hIE : u2 (u2 I1 0 7 (I1 0 5)) 0 8 (u2 I1 0 7 (I1 0 5) 0 6) = IE
    have rE : ∀ a, a ≠ 0 → IE a = I1 a := fun a ha => by subst hIE; rw [u2_row ha, u2_row ha]
    have kE : ∀ k, k ≠ 7 → k ≠ 8 → IE 0 k = I1 0 k := fun k h7 h8 => by subst hIE; rw [u2_k h8, u2_k h7]
    have e7 : IE 0 7 = 0 := by subst hIE; rw [u2_k (by omega), u2_at]; exact e5
    have e8 : IE 0 8 = -1 := by subst hIE; rw [u2_at, u2_k (by omega)]; exact e6
    have hDE : EnDm IE J1 (sRd g).2.2 z := ⟨hD.1.k (rE 31 (by omega)) (rE 33 (by omega)) (rE 34 (by omega)) rfl, hD.2.1.k (rE 38 (by omega)), hD.2.2.1.k (rE 39 (by omega)) (rE 40 (by omega)) (rE 41 (by omega)) (kE 50 (by omega) (by omega)), hD.2.2.2.k (rE 35 (by omega)) (rE 36 (by omega)) (rE 37 (by omega))⟩
    refine m_stands hDE (fun I2 J2 hC2 hN2 hK2 r2 k2 e60 e65 j2 => ?_)
    rw [k2 51 (by omega) (by omega), kE 51 (by omega) (by omega), h51]
    refine h I2 J2 ?_
    generalize (sRd g).2.2 = D at *
    have rr : ∀ a, a ≠ 0 → (a < 31 ∨ 42 < a) → a ≠ 75 → a ≠ 76 → I2 a = I a := fun a b c v w => by rw [r2 a b c, rE a b, f1.1 a b (by omega) v w]; exact hB.1 a b
    have fk : ∀ j, (j = 58 ∨ j = 66 ∨ j = 104) → I2 0 j = I 0 j := fun j hj => by rw [k2 j (by omega) (by omega), kE j (by omega) (by omega), f1.2.2.1 j (by omega)]; exact hB.2.1 j (by omega)
    have h9 := hD.2.1.2.1.2
    have hok' := lfQ_ok hD.2.2.2.2.1 h9 (D.1 0 1)
    obtain ⟨x1, x2, x3, x4, x5, x6, x7, x8, x9, x10, x11, x12, x13⟩ := hM
    have hg : ∀ j, j ≠ 0 → j ≠ 1 → j ≠ 2 → j ≠ 3 → j ≠ 6 → up (up (up (up (up g 0 0 0) 0 1 0) 0 2 0) 0 3 0) 0 6 0 0 j = g 0 j := fun j a b c v w => by simp [up, a, b, c, v, w]
    have hgr : ∀ a, a ≠ 0 → up (up (up (up (up g 0 0 0) 0 1 0) 0 2 0) 0 3 0) 0 6 0 a = g a := fun a ha => by funext j; simp [up, ha]
    have g0 : ∀ j, (j = 0 ∨ j = 1 ∨ j = 2 ∨ j = 3 ∨ j = 6) → up (up (up (up (up g 0 0 0) 0 1 0) 0 2 0) 0 3 0) 0 6 0 0 j = 0 := fun j hj => by rcases hj with rfl | rfl | rfl | rfl | rfl <;> simp [up]
    refine ⟨hC2, ⟨hN2, hok'.1, hD.1.2.1.2, hD.1.1.2, by have := hok'.2.1; omega⟩, ⟨hok'.2.1, hok'.2.2⟩, hK2, by rw [fk 58 (by omega)]; exact x5, ⟨⟨by rw [g0 0 (by omega), k2 1 (by omega) (by omega), kE 1 (by omega) (by omega), f1.2.2.1 1 (by omega)]; exact hB.2.2.1, by rw [g0 0 (by omega)]; omega⟩, fun j hj => by rw [g0 0 (by omega)] at hj; exact absurd hj (by omega)⟩, ⟨⟨by rw [g0 3 (by omega)]; exact e60, by rw [g0 3 (by omega)]; omega⟩, fun j hj => by rw [g0 3 (by omega)] at hj; exact absurd hj (by omega)⟩, ⟨by rw [g0 1 (by omega), k2 7 (by omega) (by omega)]; exact e7, by rw [g0 2 (by omega), k2 8 (by omega) (by omega)]; exact e8⟩, fun j hj => by rw [rr 2 (by omega) (by omega) (by omega) (by omega), hgr 2 (by omega)]; exact x9 j hj, ?_, by rw [j2 0 (by omega), f1.2.2.2.2.1 0 (by omega), hg 5 (by omega) (by omega) (by omega) (by omega) (by omega)]; exact x11, ?_, fun a ha j hj => by rw [rr a (by omega) (by omega) (by omega) (by omega)]; exact x13 a ha j hj⟩
    · unfold EnMI
      rw [fk 104 (by omega), rr 78 (by omega) (by omega) (by omega) (by omega), hg 4 (by omega) (by omega) (by omega) (by omega) (by omega), hgr 3 (by omega)]; exact x10
    · obtain ⟨nw, n1, n2, -⟩ := x12.2
      refine ⟨⟨by rw [g0 6 (by omega)]; exact e65, by rw [g0 6 (by omega)]; omega⟩, nw, n1, by rw [fk 66 (by omega)]; exact n2, fun i hi => by rw [g0 6 (by omega)] at hi; exact absurd hi (by omega)⟩
  -- the statements, one by one
  have loop : ∀ n c D q z I1 J1, n + c = 80 → FrGn S J I1 J1 → Rpr I1 g q → EnDm I1 J1 D z → z ≤ q → I1 0 51 = nI c → sRd g = sLp g n c D q → GoI wM (d + 12) mX13_school 134 [(0, .ref 0)] [] I1 J1 K := by
    intro n
    induction n with
    | zero =>
      intro c D q z I1 J1 hn f1 r1 hD hz h51 hs
      obtain rfl : c = 80 := by omega
      have hG1 := hG.N f1
      refine bX13_school_134 ⟨fun y => absurd r1.1 y, fun _ => m_look hG1 r1 (fun I2 f2 r2 => ?_)⟩
      rw [bat_end hG1 r1.le]
      have fn : FrGn S J I2 J1 := f1.trans f2.G.n
      refine ⟨fun y => ?_, fun y => ?_⟩
      · have es : sRd g = (0, 80, D) := by rw [hs]; simp only [sLp]; rw [if_pos y]
        exact good (by rw [es]) I2 J1 z fn r2.1 (by rw [es]; exact hD.K f2) (by rw [es, (f2.G (J := J1)).at (by omega)]; exact h51)
      · have es : sRd g = (5, q, D) := by rw [hs]; simp only [sLp]; rw [if_neg y]
        refine Cal.of (by decide) (Nat.le_of_ble_eq_true rfl) (bX13_statementTold_0 ?_)
        rw [(f2.G (J := J1)).at (k := 51) (by omega), h51, r2.a]
        refine ⟨fun v => absurd rfl v, fun _ => m_fail (k := 5) r2.1 (fun I3 f3 e5 e6 _ => bad (by rw [es]; simp) I3 J1 (fn.trans f3.G.n) (by rw [es]; exact ⟨e5, e6⟩))⟩
    | succ n ih =>
      intro c D q z I1 J1 hn f1 r1 hD hz h51 hs
      have hG1 := hG.N f1
      refine bX13_school_134 ⟨fun y => absurd r1.1 y, fun _ => m_look hG1 r1 (fun I2 f2 r2 => ?_)⟩
      rw [bat_end hG1 r1.le]
      have fn : FrGn S J I2 J1 := f1.trans f2.G.n
      refine ⟨fun y => ?_, fun y => ?_⟩
      · have es : sRd g = (0, c, D) := by rw [hs]; simp only [sLp]; rw [if_pos y]
        exact good (by rw [es]) I2 J1 z fn r2.1 (by rw [es]; exact hD.K f2) (by rw [es, (f2.G (J := J1)).at (by omega)]; exact h51)
      · simp only [sLp] at hs
        rw [if_neg y] at hs
        refine mz_st (d := d + 1) (c := c) (hG.N fn) r2 (hD.K f2) hz (by rw [(f2.G (J := J1)).at (by omega)]; exact h51) (by omega) (fun t0 t1 I3 J3 f3 r3 hD3 h513 => ?_) (fun k p ek he I3 J3 f3 hk l3 => ?_)
        · rw [if_neg (fun v => v t0), if_pos t1] at hs
          obtain ⟨z3, hD3, hz3⟩ := hD3
          exact ih (c + 1) _ _ z3 I3 J3 (by omega) (fn.trans f3) r3 hD3 hz3 h513 hs
        · refine bad ?_ I3 J3 (fn.trans f3) ?_
          · by_cases v : (sSt g D q).1 ≠ 0
            · rw [hs, if_pos v]; exact v
            · rw [hs, if_neg v, if_neg (he.resolve_left v)]; simp
          · by_cases v : (sSt g D q).1 ≠ 0
            · rw [if_pos v] at ek
              rw [hs, if_pos v]
              obtain ⟨rfl, rfl⟩ := Prod.mk.inj ek
              exact l3
            · rw [if_neg v] at ek
              rw [hs, if_neg v, if_neg (he.resolve_left v)]
              obtain ⟨rfl, rfl⟩ := Prod.mk.inj ek
              exact l3
  -- the draft is emptied
  have beg : ∀ (I1 : Ii), (∀ a, a ≠ 31 → a ≠ 35 → a ≠ 36 → a ≠ 37 → a ≠ 39 → I1 a = S a) → (I1 31 0 = 0 ∧ I1 31 1 = 0) → (∀ k, 2 ≤ k → I1 31 k = S 31 k) → (∀ k, 3 ≤ k → I1 39 k = S 39 k) → (∀ p, p < 8 → I1 35 p = 0 ∧ I1 36 p = 0 ∧ I1 37 p = -1) → (∀ w, w < 3 → I1 39 w = -1) → GoI wM (d + 12) mX13_school 134 [(0, .ref 0)] [] (u2 (u2 (u2 I1 38 0 10) 38 1 3) 38 2 0) J K := by
    intro I1 r1 e31 s31 s39 e35 e39
    generalize hI2 : u2 (u2 (u2 I1 38 0 10) 38 1 3) 38 2 0 = I2
    have r2 : ∀ a, a ≠ 38 → I2 a = I1 a := fun a ha => by subst hI2; rw [u2_row ha, u2_row ha, u2_row ha]
    have e0 : I2 0 = S 0 := by rw [r2 0 (by omega), r1 0 (by omega) (by omega) (by omega) (by omega) (by omega)]
    refine loop 80 0 D0 (skp g 0) 0 I2 J (by omega) ⟨fun a a0 ha _ _ => by rw [r2 a (by omega)]; exact r1 a (by omega) (by omega) (by omega) (by omega) (by omega), fun a k hk => ?_, fun k _ => by rw [e0], fun y => ⟨by rw [e0] at y; exact y, by rw [e0]⟩, fun _ _ => rfl, fun _ _ => rfl⟩ (hr.eq (by rw [e0]) (by rw [e0]) (by rw [e0])) ?_ (by omega) (by rw [e0]; exact s51) rfl
    · by_cases e31' : a = 31
      · subst e31'; rw [r2 31 (by omega)]; exact s31 k (by omega)
      · by_cases e39' : a = 39
        · subst e39'; rw [r2 39 (by omega)]; exact s39 k (by omega)
        · by_cases e38' : a = 38
          · subst e38'
            subst hI2
            rw [u2_k (by omega), u2_k (by omega), u2_k (by omega), r1 38 (by omega) (by omega) (by omega) (by omega) (by omega)]
          · rw [r2 a e38', r1 a (by omega) (by omega) (by omega) (by omega) (by omega)]
    · have d0 : D0.1 0 0 = 0 ∧ D0.1 0 1 = 0 ∧ D0.1 0 2 = 10 ∧ D0.1 0 3 = 3 ∧ D0.1 0 4 = 0 := by simp [D0]
      refine ⟨⟨?_, ?_, ?_, ?_⟩, ⟨?_, ?_, ?_⟩, ⟨fun w hw => Or.inl ⟨rfl, by rw [r2 39 (by omega)]; exact e39 w hw⟩, fun w hw => ⟨Or.inl rfl, fun c hc => by simp [D0] at hc⟩, by rw [e0]; exact s50, by omega⟩, ⟨fun p hp => ?_, okS_0, fun k => ⟨rfl, rfl⟩⟩⟩
      · rw [d0.1, r2 31 (by omega)]; exact ⟨e31.1, by omega⟩
      · rw [d0.2.1, r2 31 (by omega)]; exact ⟨e31.2, by omega⟩
      · intro f hf; rw [d0.1] at hf; exact absurd hf (by omega)
      · intro f hf; rw [d0.2.1] at hf; exact absurd hf (by omega)
      · rw [d0.2.2.1]; subst hI2; rw [u2_k (by omega), u2_k (by omega), u2_at]; exact ⟨rfl, by omega⟩
      · rw [d0.2.2.2.1]; subst hI2; rw [u2_k (by omega), u2_at]; exact ⟨rfl, by omega⟩
      · rw [d0.2.2.2.2]; subst hI2; rw [u2_at]; exact ⟨rfl, by omega⟩
      · rw [r2 35 (by omega), r2 36 (by omega), r2 37 (by omega)]; exact e35 p hp
  have l94 : ∀ n i (I1 : Ii), i + n = 3 → (∀ a, a ≠ 31 → a ≠ 35 → a ≠ 36 → a ≠ 37 → a ≠ 39 → I1 a = S a) → (I1 31 0 = 0 ∧ I1 31 1 = 0) → (∀ k, 2 ≤ k → I1 31 k = S 31 k) → (∀ k, 3 ≤ k → I1 39 k = S 39 k) → (∀ p, p < 8 → I1 35 p = 0 ∧ I1 36 p = 0 ∧ I1 37 p = -1) → (∀ w, w < i → I1 39 w = -1) → GoI wM (d + 12) mX13_school 94 [(0, .ref 0), (1, .int (nI i))] [] I1 J K := by
    intro n
    induction n with
    | zero =>
      intro i I1 hi h1 h2 h3 h4 h5 h6
      obtain rfl : i = 3 := by omega
      exact bX13_school_94 ⟨fun _ => beg I1 h1 h2 h3 h4 h5 h6, fun y => absurd (by decide) y⟩
    | succ n ih =>
      intro i I1 hi h1 h2 h3 h4 h5 h6
      refine bX13_school_94 ?_
      rw [show (3 : Int32) = nI 3 from rfl, nI_clamp (by omega), nI_1]
      refine ⟨fun y => absurd ((nI_leI (by omega) (by omega)).mp y) (by omega), fun _ => ⟨vp_in_nI (by omega) (by omega), ih (i + 1) _ (by omega) (fun a a1 a2 a3 a4 a5 => by rw [u2_row a5]; exact h1 a a1 a2 a3 a4 a5) (by rw [u2_row (by omega)]; exact h2) (by rw [u2_row (by omega)]; exact h3) (fun k hk => by rw [u2_k (by omega)]; exact h4 k hk) (by rw [u2_row (by omega), u2_row (by omega), u2_row (by omega)]; exact h5) (fun w hw => ?_)⟩⟩
      by_cases e : w = i
      · subst e; exact u2_at _ _ _ _
      · rw [u2_k e]; exact h6 w (by omega)
  have l59 : ∀ n i (I1 : Ii), i + n = 8 → (∀ a, a ≠ 31 → a ≠ 35 → a ≠ 36 → a ≠ 37 → I1 a = S a) → (I1 31 0 = 0 ∧ I1 31 1 = 0) → (∀ k, 2 ≤ k → I1 31 k = S 31 k) → (∀ p, p < i → I1 35 p = 0 ∧ I1 36 p = 0 ∧ I1 37 p = -1) → GoI wM (d + 12) mX13_school 59 [(0, .ref 0), (1, .int (nI i))] [] I1 J K := by
    intro n
    induction n with
    | zero =>
      intro i I1 hi h1 h2 h3 h5
      obtain rfl : i = 8 := by omega
      exact bX13_school_59 ⟨fun _ => l94 3 0 I1 (by omega) (fun a a1 a2 a3 a4 _ => h1 a a1 a2 a3 a4) h2 h3 (fun k _ => by rw [h1 39 (by omega) (by omega) (by omega) (by omega)]) h5 (fun w hw => absurd hw (by omega)), fun y => absurd (by decide) y⟩
    | succ n ih =>
      intro i I1 hi h1 h2 h3 h5
      refine bX13_school_59 ?_
      rw [show (8 : Int32) = nI 8 from rfl, nI_clamp (by omega), nI_1]
      refine ⟨fun y => absurd ((nI_leI (by omega) (by omega)).mp y) (by omega), fun _ => ⟨vp_in_nI (by omega) (by omega), ih (i + 1) _ (by omega) (fun a a1 a2 a3 a4 => by rw [u2_row a4, u2_row a3, u2_row a2]; exact h1 a a1 a2 a3 a4) (by rw [u2_row (by omega), u2_row (by omega), u2_row (by omega)]; exact h2) (by rw [u2_row (by omega), u2_row (by omega), u2_row (by omega)]; exact h3) (fun p hp => ?_)⟩⟩
      rw [u2_row (show 35 ≠ 37 by omega), u2_row (show 35 ≠ 36 by omega), u2_row (show 36 ≠ 37 by omega)]
      by_cases e : p = i
      · subst e; rw [u2_at, u2_at, u2_at]; exact ⟨rfl, rfl, rfl⟩
      · obtain ⟨x5, x6, x7⟩ := h5 p (by omega)
        exact ⟨by rw [u2_k e]; exact x5, by rw [u2_k e, u2_row (show 36 ≠ 35 by omega)]; exact x6, by rw [u2_k e, u2_row (show 37 ≠ 36 by omega), u2_row (show 37 ≠ 35 by omega)]; exact x7⟩
  refine l59 8 0 _ (by omega) (fun a a1 _ _ _ => by rw [u2_row a1, u2_row a1]) ⟨by rw [u2_k (by omega), u2_at], u2_at _ _ _ _⟩ (fun k hk => by rw [u2_k (by omega), u2_k (by omega)]) (fun p hp => absurd hp (by omega))
end MDD

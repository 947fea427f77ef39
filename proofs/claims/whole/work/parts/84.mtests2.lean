/-! the reference: how a test goes on; tests whole -/
theorem pA_n (x : Nat) (h : pA x = true) : x ≠ 25 ∧ x ≠ 12 := by unfold pA at h; simp only [decide_eq_true_eq] at h; omega
theorem pO_n (x : Nat) (h : pO x = true) : x ≠ 25 ∧ x ≠ 12 := by unfold pO at h; simp only [decide_eq_true_eq] at h; omega
section TS
variable {g : Sx} {sco e : Nat} {I0 : Ii} {J : Jj} {K : KV}
theorem T_87 {I : Ii} {q o : Nat} {C T : List Nat} (h16 : g 0 0 ≤ 1600) (hP : TLm g e I0 J K q (C ++ tw pA T) (10 :: dw pA T) o) (hf : FrQm I0 I) (hr : Rpr I g q) (hC : CS I C T o) (hl : C.length + T.length + 1 ≤ q) (ho : cq5 T ≤ o) (ho6 : o ≤ 6) (hv : ∀ x ∈ T, 5 ≤ x ∧ x ≤ 60) : GoI wM (e + 7) mX13_qGoesOnTest 87 [(0, .ref 0)] [] I J (kTG e K) := by
  have hle := hr.le
  obtain ⟨o1, o2, o3⟩ := c5_dw (T := T) pA_n
  have key : ∀ (T C : List Nat) (I1 : Ii), FrPm I I1 → CS I1 C T o → C.length + T.length + 1 ≤ q → (∀ x ∈ T, x ≤ 60) → (∀ I', FrPm I I' → CS I' (C ++ tw pA T) (10 :: dw pA T) o → kTG e K 1 I' J) → GoI wM (e + 7) mX13_qGoesOnTest 87 [(0, .ref 0)] [] I1 J (kTG e K) := by
    intro T
    have put : ∀ (R C : List Nat) (I1 : Ii), FrPm I I1 → CS I1 C R o → C.length + R.length + 1 ≤ q → (∀ x ∈ R, x ≤ 60) → ¬ R.head? = some 10 → (∀ I', FrPm I I' → CS I' C (10 :: R) o → kTG e K 1 I' J) → GoI wM (e + 7) mX13_qGoesOnTest 87 [(0, .ref 0)] [] I1 J (kTG e K) := by
      intro R C I1 f1 c1 l1 v1 n3 k
      refine bX13_qGoesOnTest_87 (m_qIsOn (y := 10) c1 (by omega) v1 (by omega) (here_if (fun z => absurd z n3) (fun _ => ?_)))
      rw [c1.2.1.1, nI_clamp (by omega)]
      refine ⟨vp_in_nI (by omega) (by omega), fun I2 e2 => ?_⟩
      subst e2
      rw [show u2 I1 76 R.length 10 0 96 = nI R.length by rw [u2_row (by omega)]; exact c1.2.1.1, nI_1]
      exact k _ (f1.trans ((FrPm.r (Or.inr rfl)).trans (FrPm.f (by omega)))) (c1.push (x := 10))
    induction T with
    | nil =>
      intro C I1 f1 c1 l1 v1 k
      exact put [] C I1 f1 c1 l1 v1 (by simp) (fun I' f' c' => k I' f' (by simpa [tw, dw] using c'))
    | cons y t ih =>
      intro C I1 f1 c1 l1 v1 k
      by_cases hy : y = 10
      · subst hy
        refine bX13_qGoesOnTest_87 (m_qIsOn (y := 10) c1 (by omega) v1 (by omega) (here_if (fun _ => ?_) (fun z => absurd rfl z)))
        simp only [List.length_cons] at l1
        refine m_qDrops c1 (by omega) (by omega) (fun I2 f2 c2 => ih (C ++ [10]) I2 (f1.trans f2) c2 (by simp; omega) (fun z hz => v1 z (by simp [hz])) (fun I' f' c' => k I' f' ?_))
        simp only [tw, dw, pA, decide_true, if_true]
        simpa [pA] using c'
      · refine put (y :: t) C I1 f1 c1 l1 v1 (fun z => hy (by simpa using z)) (fun I' f' c' => k I' f' ?_)
        simp only [tw, dw, pA, decide_eq_false hy, Bool.false_eq_true, if_false]
        simpa using c'
  refine key T C I (FrPm.refl I) hC hl (fun x hx => (hv x hx).2) (fun I' f' c' => kTG_1 hP ⟨hf.trans f'.Q, f'.pr hr, c', ?_, ?_, ho6, ?_⟩)
  · simp; omega
  · simp only [cq5]
    rw [if_neg (by omega), o1]; omega
  · intro y hy
    rcases List.mem_cons.mp hy with rfl | hy
    · omega
    · exact hv y (o3 y hy)
theorem T_137 {I : Ii} {q o : Nat} {C T : List Nat} (h16 : g 0 0 ≤ 1600) (hP : TLm g e I0 J K q (C ++ tw pO T) (11 :: dw pO T) o) (hf : FrQm I0 I) (hr : Rpr I g q) (hC : CS I C T o) (hl : C.length + T.length + 1 ≤ q) (ho : cq5 T ≤ o) (ho6 : o ≤ 6) (hv : ∀ x ∈ T, 5 ≤ x ∧ x ≤ 60) : GoI wM (e + 7) mX13_qGoesOnTest 137 [(0, .ref 0)] [] I J (kTG e K) := by
  have hle := hr.le
  obtain ⟨o1, o2, o3⟩ := c5_dw (T := T) pO_n
  have key : ∀ (T C : List Nat) (I1 : Ii), FrPm I I1 → CS I1 C T o → C.length + T.length + 1 ≤ q → (∀ x ∈ T, x ≤ 60) → (∀ I', FrPm I I' → CS I' (C ++ tw pO T) (11 :: dw pO T) o → kTG e K 1 I' J) → GoI wM (e + 7) mX13_qGoesOnTest 137 [(0, .ref 0)] [] I1 J (kTG e K) := by
    intro T
    have put : ∀ (R C : List Nat) (I1 : Ii), FrPm I I1 → CS I1 C R o → C.length + R.length + 1 ≤ q → (∀ x ∈ R, x ≤ 60) → ¬ R.head? = some 10 → ¬ R.head? = some 11 → (∀ I', FrPm I I' → CS I' C (11 :: R) o → kTG e K 1 I' J) → GoI wM (e + 7) mX13_qGoesOnTest 137 [(0, .ref 0)] [] I1 J (kTG e K) := by
      intro R C I1 f1 c1 l1 v1 n3 n4 k
      refine bX13_qGoesOnTest_137 (m_qIsOn (y := 10) c1 (by omega) v1 (by omega) (here_fi (fun z => absurd z n3) (fun _ => m_qIsOn (y := 11) c1 (by omega) v1 (by omega) (here_if (fun z => absurd z n4) (fun _ => ?_)))))
      rw [c1.2.1.1, nI_clamp (by omega)]
      refine ⟨vp_in_nI (by omega) (by omega), fun I2 e2 => ?_⟩
      subst e2
      rw [show u2 I1 76 R.length 11 0 96 = nI R.length by rw [u2_row (by omega)]; exact c1.2.1.1, nI_1]
      exact k _ (f1.trans ((FrPm.r (Or.inr rfl)).trans (FrPm.f (by omega)))) (c1.push (x := 11))
    induction T with
    | nil =>
      intro C I1 f1 c1 l1 v1 k
      exact put [] C I1 f1 c1 l1 v1 (by simp) (by simp) (fun I' f' c' => k I' f' (by simpa [tw, dw] using c'))
    | cons y t ih =>
      intro C I1 f1 c1 l1 v1 k
      by_cases hy : pO y = true
      · have hy' : y = 10 ∨ y = 11 := by unfold pO at hy; simpa using hy
        have go : ∀ {d' : Nat}, CalV wM (d' + 1) mX13_qDrops [.ref 0] I1 J (fun I5 J6 => GoI wM (e + 7) mX13_qGoesOnTest 137 [(0, .ref 0)] [] I5 J6 (kTG e K)) := fun {d'} => by
          simp only [List.length_cons] at l1
          refine m_qDrops c1 (by omega) (by omega) (fun I2 f2 c2 => ih (C ++ [y]) I2 (f1.trans f2) c2 (by simp; omega) (fun z hz => v1 z (by simp [hz])) (fun I' f' c' => k I' f' ?_))
          simp only [tw, dw, hy, if_true]
          simpa using c'
        refine bX13_qGoesOnTest_137 (m_qIsOn (y := 10) c1 (by omega) v1 (by omega) (here_fi (fun _ => go) (fun z3 => m_qIsOn (y := 11) c1 (by omega) v1 (by omega) (here_if (fun _ => go) (fun z4 => ?_)))))
        rcases hy' with rfl | rfl
        · exact absurd rfl z3
        · exact absurd rfl z4
      · have hyn : ¬ (y = 10 ∨ y = 11) := fun z => hy (by unfold pO; exact decide_eq_true z)
        refine put (y :: t) C I1 f1 c1 l1 v1 (fun z => hyn (Or.inl (by simpa using z))) (fun z => hyn (Or.inr (by simpa using z))) (fun I' f' c' => k I' f' ?_)
        have hyf : pO y = false := by simpa using hy
        simp only [tw, dw, hyf, Bool.false_eq_true, if_false]
        simpa using c'
  refine key T C I (FrPm.refl I) hC hl (fun x hx => (hv x hx).2) (fun I' f' c' => kTG_1 hP ⟨hf.trans f'.Q, f'.pr hr, c', ?_, ?_, ho6, ?_⟩)
  · simp; omega
  · simp only [cq5]
    rw [if_neg (by omega), o1]; omega
  · intro y hy
    rcases List.mem_cons.mp hy with rfl | hy
    · omega
    · exact hv y (o3 y hy)
theorem T_33 {I : Ii} {q o : Nat} {C T : List Nat} (h16 : g 0 0 ≤ 1600) (hh : hsq T = true) (hP : NE (TGm g e I0 J K) q (C ++ ab5 T) (bl5 T) (o - 1)) (hf : FrQm I0 I) (hr : Rpr I g q) (hC : CS I C T o) (hl : C.length + T.length ≤ q) (ho : cq5 T ≤ o) (ho6 : o ≤ 6) (hv : ∀ x ∈ T, 5 ≤ x ∧ x ≤ 60) : GoI wM (e + 7) mX13_qGoesOnTest 33 [(0, .ref 0)] [] I J (kTG e K) := by
  have hle := hr.le
  obtain ⟨o1, o2, o3⟩ := c5_bl hh
  obtain ⟨n1, n2, n3⟩ := c5_nt (T := bl5 T)
  have key : ∀ (T C : List Nat) (I1 : Ii), hsq T = true → FrPm I I1 → CS I1 C T o → C.length + T.length ≤ q → (∀ x ∈ T, x ≤ 60) → (∀ I', FrPm I I' → CS I' (C ++ ab5 T) (bl5 T) (o - 1) → CalV wM (e + 6) mX13_qDropsNots [.ref 0] I' J (fun I7 J8 => GoI wM (e + 7) mX13_qGoesOnTest 0 [(0, .ref 0)] [] I7 J8 (kTG e K))) → GoI wM (e + 7) mX13_qGoesOnTest 33 [(0, .ref 0)] [] I1 J (kTG e K) := by
    intro T
    induction T with
    | nil => intro C I1 hh; simp [hsq] at hh
    | cons y t ih =>
      intro C I1 hh f1 c1 l1 v1 k
      simp only [List.length_cons] at l1
      refine bX13_qGoesOnTest_33 (m_qIsOn (y := 25) c1 (by simp only [List.length_cons]; omega) v1 (by omega) (here_fi (fun z => ?_) (fun z => ?_)))
      · have z : y = 25 := by simpa using z
        subst z
        intro I5 e5
        rw [c1.2.1.1, List.length_cons, nI_p1 (by omega), Nat.add_sub_cancel] at e5
        have c5 : CS I5 C t o := by rw [e5]; exact c1.pop
        rw [c5.2.2, nI_p1 (by omega)]
        refine k _ (f1.trans (FrPm.trans (I1 := I5) (by rw [e5]; exact FrPm.f (by omega)) (FrPm.f (by omega)))) ?_
        simpa [ab5, bl5] using c5.o (o' := o - 1)
      · have z : y ≠ 25 := by simpa using z
        simp only [hsq, decide_eq_false z, Bool.false_or] at hh
        refine m_qDrops c1 (by omega) (by omega) (fun I2 f2 c2 => ih (C ++ [y]) I2 hh (f1.trans f2) c2 (by simp; omega) (fun w hw => v1 w (by simp [hw])) (fun I' f' c' => k I' f' ?_))
        simp only [ab5, bl5]
        rw [if_neg z, if_neg z]
        simpa using c'
  refine key T C I hh (FrPm.refl I) hC hl (fun x hx => (hv x hx).2) (fun I' f' c' => ?_)
  refine m_qDropsNots (by rw [f'.e5]; exact hr.1) c' (by simp; omega) (fun x hx => (hv x (o3 x hx)).2) (by omega) (fun I2 f2 c2 => hP I2 ⟨hf.trans (f'.trans f2).Q, (f'.trans f2).pr hr, c2, ?_, by omega, by omega, fun x hx => hv x (o3 x (n3 x hx))⟩)
  simp; omega
/-- and, or, or the end -/
theorem T_A {I : Ii} {q o : Nat} {C T : List Nat} (hG0 : TxG I0 g) (hP : if wd g q = 11 then TLm g e I0 J K (adv g q) (C ++ tw pA T) (10 :: dw pA T) o else if wd g q = 10 then TLm g e I0 J K (adv g q) (C ++ tw pO T) (11 :: dw pO T) o else if hsq T = true then FTt I0 J K 1 q else ENt g I0 J K q (C ++ T)) (hS : SMt g I0 I q C T o) :
    CalI wM (e + 6) mX13_takes [.ref (0), .ref (57)] I J (fun x27 I25 J26 => (((x27 = 0) → (CalI wM (e + 6) mX13_takes [.ref (0), .ref (58)] I25 J26 (fun x31 I29 J30 => (((x31 = 0) → (((¬ (I29 0 5) = 0) → (kTG e K (0) I29 J30)) ∧ (((I29 0 5) = 0) → (CalI wM (e + 6) mX13_qHasSquare [.ref (0)] I29 J30 (fun x36 I34 J35 => (((x36 = 0) → (kTG e K (0) I34 J35)) ∧ ((¬ x36 = 0) → (CalV wM (e + 6) mX13_fail [.ref (0), .int (1), .int (I34 0 2)] I34 J35 (fun I38 J39 => (kTG e K (0) I38 J39)))))))))) ∧ ((¬ x31 = 0) → (GoI wM (e + 6 + 1) mX13_qGoesOnTest 137 [(0, .ref (0))] [] I29 J30 (kTG e K))))))) ∧ ((¬ x27 = 0) → (GoI wM (e + 6 + 1) mX13_qGoesOnTest 87 [(0, .ref (0))] [] I25 J26 (kTG e K))))) := by
  obtain ⟨hf, hr, hC, hl, ho, ho6, hv⟩ := hS
  have hG := hG0.Q hf
  have hle := hr.le
  have h16 := hG.1.2
  have hb : ∀ k, k < g 0 0 → g 1 k < 256 := fun k hk => (hG.2.1 k hk).2
  refine m_takes (d := e + 4) (a := 57) hG hr (by unfold isW; omega) (fun w I1 f1 r1 => ⟨fun z => absurd z (by decide), fun _ => ?_⟩) (fun w I1 f1 r1 => ⟨fun _ => ?_, fun z => absurd rfl z⟩)
  · have w : wd g q = 11 := w
    rw [if_pos w] at hP
    have hq2 := (adv_le hle).2.2 (tk256 (wd_t w (by omega)) hb).1
    exact T_87 h16 hP (hf.trans f1.Q) r1 (hC.K f1) (by omega) ho ho6 hv
  have w : ¬ wd g q = 11 := w
  rw [if_neg w] at hP
  refine m_takes (d := e + 4) (a := 58) (hG.K f1) r1.P (by unfold isW; omega) (fun w I2 f2 r2 => ⟨fun z => absurd z (by decide), fun _ => ?_⟩) (fun w I2 f2 r2 => ⟨fun _ => ?_, fun z => absurd rfl z⟩)
  · have w : wd g q = 10 := w
    rw [if_pos w] at hP
    have hq2 := (adv_le hle).2.2 (tk256 (wd_t w (by omega)) hb).1
    have f12 := f1.trans f2
    exact T_137 h16 hP (hf.trans f12.Q) r2 (hC.K f12) (by omega) ho ho6 hv
  have w : ¬ wd g q = 10 := w
  rw [if_neg w] at hP
  have f12 := f1.trans f2
  refine ⟨fun z => absurd r2.1 z, fun _ => m_qHasSquare (hC.K f12) (by omega) (fun x hx => (hv x hx).2) ?_⟩
  cases hh : hsq T with
  | true =>
    rw [if_pos hh] at hP
    refine ⟨fun z => absurd z (by decide), fun _ => ?_⟩
    rw [r2.a]
    exact m_fail (k := 1) r2.1 (fun I3 f3 e5 e6 _ => kTG_b (by omega) hP (hf.trans (f12.Q.trans f3.Q)) ⟨e5, e6⟩ (n := C.length) (by omega) (by rw [f3.e94, f12.e94]; exact hC.1.1))
  | false =>
    rw [if_neg (by rw [hh]; decide)] at hP
    exact ⟨fun _ => kTG_e h16 hP ⟨hf.trans f12.Q, r2.P, hC.K f12, hl, ho, ho6, hv⟩, fun z => absurd rfl z⟩
theorem T_G (hG0 : TxG I0 g) : ∀ q C T o, TGP g (TLm g e I0 J K) (TGm g e I0 J K) (FTt I0 J K) (ENt g I0 J K) q C T o → TGm g e I0 J K q C T o := by
  intro q C T o hP I hS
  obtain ⟨hf, hr, hC, hl, ho, ho6, hv⟩ := id hS
  have hG := hG0.Q hf
  have hle := hr.le
  have h16 := hG.1.2
  have i93 : isS 93 := isS_of (by omega)
  have b93 : bat g q = 93 ↔ tk g q = 93 := bat_eq (c := 93) hG i93
  unfold TGP at hP
  refine bX13_qGoesOnTest_0 ⟨fun z => absurd hr.1 z, fun _ => m_look hG hr (fun I1 f1 r1 => ?_)⟩
  have hS1 : SMt g I0 I1 q C T o := ⟨hf.trans f1.Q, r1.P, hC.K f1, hl, ho, ho6, hv⟩
  rw [b93]
  refine ⟨fun n93 => ?_, fun t93 => m_qHasSquare (hC.K f1) (by omega) (fun x hx => (hv x hx).2) ?_⟩
  · rw [if_neg (fun y => n93 y.1)] at hP
    exact T_A hG0 hP hS1
  cases hh : hsq T with
  | false =>
    rw [if_neg (fun y => by rw [hh] at y; exact absurd y.2 (by decide))] at hP
    exact ⟨fun _ => T_A hG0 hP hS1, fun z => absurd rfl z⟩
  | true =>
    rw [if_pos ⟨t93, hh⟩] at hP
    refine ⟨fun z => absurd z (by decide), fun _ => ?_⟩
    rw [r1.a, nI_1]
    have hq2 := (adv_le hle).2.2 (tk_q (by omega) t93)
    exact T_33 h16 hh hP (hf.trans (f1.Q.trans (FrQm.f (by omega)))) (r1.sign (hG.K f1) i93 t93 (u2_at _ _ _ _) (u2_k (by omega)) (u2_k (by omega))) ((hC.K f1).f (by omega)) (by omega) ho ho6 hv
/-- tests whole -/
theorem m_qTest {q : Nat} {I : Ii} (hG : TxG I g) (hs : sco = 1 ∨ sco = 2 ∨ sco = 4) (h52 : I 0 52 = tko sco) (hr : Rpr I g q) (hC : CS I [] [] 0)
    (h1 : (pTest g sco 6 q).1 = 0 → ∀ I', FrQm I I' → Rpr I' g (pTest g sco 6 q).2.1 → Cod I' (pTest g sco 6 q).2.2 → K I' J)
    (h0 : (pTest g sco 6 q).1 ≠ 0 → ∀ I' n, FrQm I I' → Flm I' (pTest g sco 6 q).1 (pTest g sco 6 q).2.1 → n ≤ 1650 → I' 0 94 = nI n → K I' J) : CalV wM (e + 8) mX13_qTest [.ref 0] I J K := by
  have h16 := hG.1.2
  have key : TLm g e I J K q [] [] 0 := B_tests (sco := sco) (TG := TGm g e I J K) (FT := FTt I J K) (EN := ENt g I J K) h16 (T_L hG hs h52) (T_G hG) hr.le (fun z I' f' r' c' l' => h1 z I' f' r' c') (fun z I' n f' l' hn e' => h0 z I' n f' l' hn e')
  exact Cal.of (by decide) (Nat.le_of_ble_eq_true rfl) (bX13_qTest_0 (key I ⟨FrQm.refl I, hr, hC, by simp, by simp [cq5], by omega, fun x hx => by simp at hx⟩))
end TS

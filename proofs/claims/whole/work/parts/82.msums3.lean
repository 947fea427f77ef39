/-! the reference: how a sum goes on; sums whole -/
section ST
variable {g : Sx} {sco e oS : Nat} {U : List Nat} {I0 : Ii} {J : Jj} {was : Int32} {K : KV}
theorem p34_K (x : Nat) (h : p34 x = true) : isK x = false ∧ x ≠ 60 := by
  unfold p34 at h; simp only [decide_eq_true_eq] at h
  exact ⟨by unfold isK; exact decide_eq_false (by omega), by omega⟩
theorem p14_K (x : Nat) (h : p14 x = true) : isK x = false ∧ x ≠ 60 := by
  unfold p14 at h; simp only [decide_eq_true_eq] at h
  exact ⟨by unfold isK; exact decide_eq_false (by omega), by omega⟩
theorem head_U {y : Nat} (hU : ∀ x ∈ U, 5 ≤ x ∧ x ≤ 60) (hy : y < 5) : ¬ U.head? = some y := fun z => by
  cases U with
  | nil => simp at z
  | cons u t => have := hU u (by simp); simp at z; omega
/-- a sign of a product is put on the pile -/
theorem S_162 {I : Ii} {q o x : Nat} {C T : List Nat} (hU : ∀ x ∈ U, 5 ≤ x ∧ x ≤ 60) (h16 : g 0 0 ≤ 1600) (hx : x = 3 ∨ x = 4) (hP : PTm g e oS U I0 J was K q (C ++ tw p34 T) (x :: dw p34 T) o) (hf : FrQm I0 I) (hr : Rpr I g q) (hC : CS I C (T ++ U) o) (h98 : I 0 98 = nI U.length) (hl : C.length + (T ++ U).length + 1 ≤ q) (ho : o = oS + ct T) (ho6 : o ≤ 6) (hv : ∀ x ∈ T, x ≤ 60) (hk : okF false T = true) : GoI wM (e + 5) mX13_qGoesOn 162 [(0, .ref 0), (1, .int (nI x))] [] I J (kSG e was K) := by
  have hle := hr.le
  obtain ⟨o1, o2, o3, o4⟩ := okF_dw p34_K hk
  have hxp : isK x = false ∧ x ≠ 60 := p34_K x (by unfold p34; exact decide_eq_true hx)
  have key : ∀ (T C : List Nat) (I1 : Ii), FrPm I I1 → CS I1 C (T ++ U) o → C.length + (T ++ U).length + 1 ≤ q → (∀ x ∈ T, x ≤ 60) → (∀ I', FrPm I I' → CS I' (C ++ tw p34 T) (x :: (dw p34 T ++ U)) o → kSG e was K 1 I' J) → GoI wM (e + 5) mX13_qGoesOn 162 [(0, .ref 0), (1, .int (nI x))] [] I1 J (kSG e was K) := by
    intro T
    have put : ∀ (R C : List Nat) (I1 : Ii), FrPm I I1 → CS I1 C R o → C.length + R.length + 1 ≤ q → (∀ x ∈ R, x ≤ 60) → ¬ R.head? = some 3 → ¬ R.head? = some 4 → (∀ I', FrPm I I' → CS I' C (x :: R) o → kSG e was K 1 I' J) → GoI wM (e + 5) mX13_qGoesOn 162 [(0, .ref 0), (1, .int (nI x))] [] I1 J (kSG e was K) := by
      intro R C I1 f1 c1 l1 v1 n3 n4 k
      refine bX13_qGoesOn_162 (m_qIsOn (y := 3) c1 (by omega) v1 (by omega) (here_fi (fun z => absurd z n3) (fun _ => m_qIsOn (y := 4) c1 (by omega) v1 (by omega) (here_if (fun z => absurd z n4) (fun _ => ?_)))))
      rw [c1.2.1.1, nI_clamp (by omega)]
      refine ⟨vp_in_nI (by omega) (by omega), fun I2 e2 => ?_⟩
      subst e2
      rw [show u2 I1 76 R.length (nI x) 0 96 = nI R.length by rw [u2_row (by omega)]; exact c1.2.1.1, nI_1]
      exact k _ (f1.trans ((FrPm.r (Or.inr rfl)).trans (FrPm.f (by omega)))) c1.push
    induction T with
    | nil =>
      intro C I1 f1 c1 l1 v1 k
      exact put U C I1 f1 c1 l1 (fun y hy => (hU y hy).2) (head_U hU (by omega)) (head_U hU (by omega)) (fun I' f' c' => k I' f' (by simpa [tw, dw] using c'))
    | cons y t ih =>
      intro C I1 f1 c1 l1 v1 k
      have hvR : ∀ z ∈ y :: t ++ U, z ≤ 60 := fun z hz => by
        rcases List.mem_append.mp hz with w | w
        · exact v1 z w
        · exact (hU z w).2
      by_cases hy : p34 y = true
      · have hy' : y = 3 ∨ y = 4 := by unfold p34 at hy; simpa using hy
        have go : ∀ {d' : Nat}, CalV wM (d' + 1) mX13_qDrops [.ref 0] I1 J (fun I5 J6 => GoI wM (e + 5) mX13_qGoesOn 162 [(0, .ref 0), (1, .int (nI x))] [] I5 J6 (kSG e was K)) := fun {d'} => by
          simp only [List.cons_append, List.length_cons] at c1 l1
          refine m_qDrops c1 (by omega) (by omega) (fun I2 f2 c2 => ih (C ++ [y]) I2 (f1.trans f2) c2 (by simp at l1 ⊢; omega) (fun z hz => v1 z (by simp [hz])) (fun I' f' c' => k I' f' ?_))
          simp only [tw, dw, hy, if_true]
          simpa using c'
        refine bX13_qGoesOn_162 (m_qIsOn (y := 3) c1 (by omega) hvR (by omega) (here_fi (fun z => bX13_qGoesOn_178 go) (fun z3 => m_qIsOn (y := 4) c1 (by omega) hvR (by omega) (here_if (fun z => bX13_qGoesOn_178 go) (fun z4 => ?_)))))
        rcases hy' with rfl | rfl
        · exact absurd rfl z3
        · exact absurd rfl z4
      · have hyn : ¬ (y = 3 ∨ y = 4) := fun z => hy (by unfold p34; exact decide_eq_true z)
        refine put (y :: t ++ U) C I1 f1 c1 l1 hvR (fun z => hyn (Or.inl (by simpa using z))) (fun z => hyn (Or.inr (by simpa using z))) (fun I' f' c' => k I' f' ?_)
        have hyf : p34 y = false := by simpa using hy
        simp only [tw, dw, hyf, Bool.false_eq_true, if_false]
        simpa using c'
  refine key T C I (FrPm.refl I) hC hl hv (fun I' f' c' => kSG_1 hP ⟨hf.trans f'.Q, f'.pr hr, c', by rw [f'.e98]; exact h98, ?_, ?_, ho6, ?_, ?_⟩)
  · simp at hl ⊢; omega
  · simp only [ct]
    rw [if_neg (by simp [hxp.1, hxp.2]), o2]; omega
  · intro y hy
    rcases List.mem_cons.mp hy with rfl | hy
    · omega
    · exact hv y (o4 y hy)
  · simp only [okF]
    rw [if_neg hxp.2, hxp.1]; exact o1
/-- a sign of a sum is put on the pile -/
theorem S_247 {I : Ii} {q o x : Nat} {C T : List Nat} (hU : ∀ x ∈ U, 5 ≤ x ∧ x ≤ 60) (h16 : g 0 0 ≤ 1600) (hx : x = 1 ∨ x = 2) (hP : PTm g e oS U I0 J was K q (C ++ tw p14 T) (x :: dw p14 T) o) (hf : FrQm I0 I) (hr : Rpr I g q) (hC : CS I C (T ++ U) o) (h98 : I 0 98 = nI U.length) (hl : C.length + (T ++ U).length + 1 ≤ q) (ho : o = oS + ct T) (ho6 : o ≤ 6) (hv : ∀ x ∈ T, x ≤ 60) (hk : okF false T = true) : GoI wM (e + 5) mX13_qGoesOn 247 [(0, .ref 0), (1, .int (nI x))] [] I J (kSG e was K) := by
  have hle := hr.le
  obtain ⟨o1, o2, o3, o4⟩ := okF_dw p14_K hk
  have hxp : isK x = false ∧ x ≠ 60 := p14_K x (by unfold p14; exact decide_eq_true (by omega))
  have key : ∀ (T C : List Nat) (I1 : Ii), FrPm I I1 → CS I1 C (T ++ U) o → C.length + (T ++ U).length + 1 ≤ q → (∀ x ∈ T, x ≤ 60) → (∀ I', FrPm I I' → CS I' (C ++ tw p14 T) (x :: (dw p14 T ++ U)) o → kSG e was K 1 I' J) → GoI wM (e + 5) mX13_qGoesOn 247 [(0, .ref 0), (1, .int (nI x))] [] I1 J (kSG e was K) := by
    intro T
    have put : ∀ (R C : List Nat) (I1 : Ii), FrPm I I1 → CS I1 C R o → C.length + R.length + 1 ≤ q → (∀ x ∈ R, x ≤ 60) → ¬ R.head? = some 3 → ¬ R.head? = some 4 → ¬ R.head? = some 1 → ¬ R.head? = some 2 → (∀ I', FrPm I I' → CS I' C (x :: R) o → kSG e was K 1 I' J) → GoI wM (e + 5) mX13_qGoesOn 247 [(0, .ref 0), (1, .int (nI x))] [] I1 J (kSG e was K) := by
      intro R C I1 f1 c1 l1 v1 n3 n4 n1 n2 k
      refine bX13_qGoesOn_247 (m_qIsOn (y := 3) c1 (by omega) v1 (by omega) (here_fi (fun z => absurd z n3) (fun _ => m_qIsOn (y := 4) c1 (by omega) v1 (by omega) (here_fi (fun z => absurd z n4) (fun _ => m_qIsOn (y := 1) c1 (by omega) v1 (by omega) (here_fi (fun z => absurd z n1) (fun _ => m_qIsOn (y := 2) c1 (by omega) v1 (by omega) (here_if (fun z => absurd z n2) (fun _ => ?_)))))))))
      rw [c1.2.1.1, nI_clamp (by omega)]
      refine ⟨vp_in_nI (by omega) (by omega), fun I2 e2 => ?_⟩
      subst e2
      rw [show u2 I1 76 R.length (nI x) 0 96 = nI R.length by rw [u2_row (by omega)]; exact c1.2.1.1, nI_1]
      exact k _ (f1.trans ((FrPm.r (Or.inr rfl)).trans (FrPm.f (by omega)))) c1.push
    induction T with
    | nil =>
      intro C I1 f1 c1 l1 v1 k
      exact put U C I1 f1 c1 l1 (fun y hy => (hU y hy).2) (head_U hU (by omega)) (head_U hU (by omega)) (head_U hU (by omega)) (head_U hU (by omega)) (fun I' f' c' => k I' f' (by simpa [tw, dw] using c'))
    | cons y t ih =>
      intro C I1 f1 c1 l1 v1 k
      have hvR : ∀ z ∈ y :: t ++ U, z ≤ 60 := fun z hz => by
        rcases List.mem_append.mp hz with w | w
        · exact v1 z w
        · exact (hU z w).2
      by_cases hy : p14 y = true
      · have hy' : y = 1 ∨ y = 2 ∨ y = 3 ∨ y = 4 := by unfold p14 at hy; simp only [decide_eq_true_eq] at hy; omega
        have go : ∀ {d' : Nat}, CalV wM (d' + 1) mX13_qDrops [.ref 0] I1 J (fun I5 J6 => GoI wM (e + 5) mX13_qGoesOn 247 [(0, .ref 0), (1, .int (nI x))] [] I5 J6 (kSG e was K)) := fun {d'} => by
          simp only [List.cons_append, List.length_cons] at c1 l1
          refine m_qDrops c1 (by omega) (by omega) (fun I2 f2 c2 => ih (C ++ [y]) I2 (f1.trans f2) c2 (by simp at l1 ⊢; omega) (fun z hz => v1 z (by simp [hz])) (fun I' f' c' => k I' f' ?_))
          simp only [tw, dw, hy, if_true]
          simpa using c'
        refine bX13_qGoesOn_247 (m_qIsOn (y := 3) c1 (by omega) hvR (by omega) (here_fi (fun z => bX13_qGoesOn_279 go) (fun z3 => m_qIsOn (y := 4) c1 (by omega) hvR (by omega) (here_fi (fun z => bX13_qGoesOn_279 go) (fun z4 => m_qIsOn (y := 1) c1 (by omega) hvR (by omega) (here_fi (fun z => bX13_qGoesOn_279 go) (fun z1 => m_qIsOn (y := 2) c1 (by omega) hvR (by omega) (here_if (fun z => bX13_qGoesOn_279 go) (fun z2 => ?_)))))))))
        rcases hy' with rfl | rfl | rfl | rfl
        · exact absurd rfl z1
        · exact absurd rfl z2
        · exact absurd rfl z3
        · exact absurd rfl z4
      · have hyn : ¬ (1 ≤ y ∧ y ≤ 4) := fun z => hy (by unfold p14; exact decide_eq_true z)
        have hn : ∀ w, 1 ≤ w → w ≤ 4 → ¬ (y :: t ++ U).head? = some w := fun w h1 h2 z => by simp at z; omega
        refine put (y :: t ++ U) C I1 f1 c1 l1 hvR (hn 3 (by omega) (by omega)) (hn 4 (by omega) (by omega)) (hn 1 (by omega) (by omega)) (hn 2 (by omega) (by omega)) (fun I' f' c' => k I' f' ?_)
        have hyf : p14 y = false := by simpa using hy
        simp only [tw, dw, hyf, Bool.false_eq_true, if_false]
        simpa using c'
  refine key T C I (FrPm.refl I) hC hl hv (fun I' f' c' => kSG_1 hP ⟨hf.trans f'.Q, f'.pr hr, c', by rw [f'.e98]; exact h98, ?_, ?_, ho6, ?_, ?_⟩)
  · simp at hl ⊢; omega
  · simp only [ct]
    rw [if_neg (by simp [hxp.1, hxp.2]), o2]; omega
  · intro y hy
    rcases List.mem_cons.mp hy with rfl | hy
    · omega
    · exact hv y (o4 y hy)
  · simp only [okF]
    rw [if_neg hxp.2, hxp.1]; exact o1
/-- a bracket closes -/
theorem S_43 {I : Ii} {q o : Nat} {C T : List Nat} (hG0 : TxG I0 g) (hb : brk T = 20 ∨ brk T = 23 ∨ brk T = 24) (ht : tk g q = 41) (hP : GE (GOm g e oS U I0 J was K) (adv g q) (C ++ abv T ++ (if brk T = 20 then [] else if brk T = 23 then [5] else [6])) (blw T) (o - 1)) (hf : FrQm I0 I) (hr : Rlk I g q) (hC : CS I C (T ++ U) o) (h98 : I 0 98 = nI U.length) (hl : C.length + (T ++ U).length ≤ q) (ho : o = oS + ct T) (ho6 : o ≤ 6) (hv : ∀ x ∈ T, x ≤ 60) (hk : okF false T = true) : GoI wM (e + 5) mX13_qGoesOn 43 [(0, .ref 0)] [] I J (kSG e was K) := by
  have hG := hG0.Q hf
  have hle := hr.P.le
  have h16 := hG.1.2
  obtain ⟨o1, o2, o3, o4, o5⟩ := okF_bl hk (by omega)
  have hq2 := (adv_le hle).2.2 (tk_q (by omega) ht)
  have hle2 := (adv_le (g := g) hle).1
  refine bX13_qGoesOn_43 ?_
  rw [hr.a, nI_1]
  have c0 : CS (u2 I 0 2 (nI (q + 1))) C (T ++ U) o := hC.f (by omega)
  have r0 : Rpr (u2 I 0 2 (nI (q + 1))) g (adv g q) := hr.sign hG (isS_of (by omega)) ht (u2_at _ _ _ _) (u2_k (by omega)) (u2_k (by omega))
  refine m_qDropsToBracket c0 (by rw [u2_k (by omega)]; exact h98) (by omega) hv (by omega) (fun I1 f1 c1 => ?_)
  intro I4 e4 I5 e5
  rw [c1.2.1.1, List.length_cons, nI_p1 (by omega), Nat.add_sub_cancel] at e4
  have c4 : CS I4 (C ++ abv T) (blw T ++ U) o := by rw [e4]; exact c1.pop
  rw [c4.2.2, nI_p1 (by omega)] at e5
  have c5 : CS I5 (C ++ abv T) (blw T ++ U) (o - 1) := by rw [e5]; exact c4.o
  have f5 : FrPm I1 I5 := FrPm.trans (I1 := I4) (by rw [e4]; exact FrPm.f (by omega)) (by rw [e5]; exact FrPm.f (by omega))
  have hlen : (C ++ abv T).length + (blw T ++ U).length + 1 = C.length + (T ++ U).length := by simp; omega
  have etop : I5 76 (blw T ++ U).length = nI (brk T) := by rw [e5, u2_row (by omega), e4, u2_row (by omega)]; exact c1.2.1.2.1
  rw [c5.2.1.1, nI_clamp (by omega), etop, show (20 : Int32) = nI 20 from rfl, show (23 : Int32) = nI 23 from rfl, nI_eq (by omega) (by omega), nI_eq (by omega) (by omega)]
  refine ⟨vp_in_nI (by omega) (by omega), ?_⟩
  have f15 := f1.trans f5
  have fin : ∀ (Ie : Ii) (D : List Nat), FrPm I5 Ie → CS Ie (C ++ abv T ++ D) (blw T ++ U) (o - 1) → D.length ≤ 1 → D = (if brk T = 20 then [] else if brk T = 23 then [5] else [6]) → GoI wM (e + 5) mX13_qGoesOn 115 [(0, .ref 0)] [] Ie J (kSG e was K) := by
    intro Ie D fe ce hD eD
    rw [← eD] at hP
    have fE := f15.trans fe
    have hep := epN_ct (T := blw T)
    refine bX13_qGoesOn_115 (m_qEndsPart (by rw [fE.e5]; exact r0.1) ce (by rw [fE.e98, u2_k (by omega)]; exact h98) (by simp at hlen hl ⊢; omega) (fun y hy => hv y (o4 y hy)) (by omega) (fun I7 f7 c7 => ?_))
    obtain ⟨p1, p2, p3, p4⟩ := okF_ep o1
    have fE7 := fE.trans f7
    refine hP I7 ⟨hf.trans (FrQm.trans (FrQm.f (by omega)) fE7.Q), fE7.pr r0, c7, by rw [fE7.e98, u2_k (by omega)]; exact h98, ?_, by omega, by omega, fun y hy => hv y (o4 y (p4 y hy)), p1⟩
    simp at hl hlen ⊢
    omega
  refine ⟨fun z => fin I5 [] (FrPm.refl I5) (by simpa using c5) (by simp) (by rw [if_pos z]), fun z => ⟨fun y => ?_, fun y => ?_⟩⟩
  · refine bX13_qGoesOn_112 (m_qCode (x := 6) c5 (by omega) (fun I6 f6 c6 => fin I6 [6] f6 c6 (by simp) (by rw [if_neg z, if_neg y])))
  · refine bX13_qGoesOn_112 (m_qCode (x := 5) c5 (by omega) (fun I6 f6 c6 => fin I6 [5] f6 c6 (by simp) (by rw [if_neg z, if_pos y])))
theorem S_122 {I : Ii} {q o : Nat} {C T : List Nat} (hU : ∀ x ∈ U, 5 ≤ x ∧ x ≤ 60) (hG0 : TxG I0 g) (hn : ¬ (tk g q = 41 ∧ (brk T = 20 ∨ brk T = 23 ∨ brk T = 24))) (hP : GOP g (PTm g e oS U I0 J was K) (GOm g e oS U I0 J was K) (FTm I0 J was K) (ENm g oS U I0 J was K) q C T o) (hS : SMq g oS U I0 false I q C T o) : GoI wM (e + 5) mX13_qGoesOn 122 [(0, .ref 0)] [] I J (kSG e was K) := by
  obtain ⟨hf, hr, hC, h98, hl, ho, ho6, hv, hk⟩ := id hS
  have hG := hG0.Q hf
  have hle := hr.le
  have h16 := hG.1.2
  unfold GOP at hP
  rw [if_neg hn] at hP
  have at1 : ∀ {c : Nat} {I' : Ii}, isS c → tk g q = c → FrK I I' → I' 0 2 = nI (q + 1) → (vp_in (I' 0 2 - 1) 1600 ∧ I' 1 (I' 0 2 - 1).toNatClampNeg = nI c ∧ q < adv g q) := by
    intro c I' hc ht f' e2
    obtain ⟨hq, e⟩ := (tk_sg hc (fun k hk => (hG.2.1 k hk).2)).mp ht
    rw [e2, nI_p1 (by omega), Nat.add_sub_cancel, nI_clamp (by omega), ((hG.K f').2.1 q hq).1, e]
    exact ⟨vp_in_nI (by omega) (by omega), rfl, (adv_le hle).2.2 hq⟩
  have i42 : isS 42 := isS_of (by omega)
  have i47 : isS 47 := isS_of (by omega)
  have i43 : isS 43 := isS_of (by omega)
  have i45 : isS 45 := isS_of (by omega)
  refine bX13_qGoesOn_122 (m_takesSign (c := 42) hG hr i42 (fun t _ I1 f1 r1 e1 => ⟨fun _ => ?_, fun z => absurd z (by decide)⟩) (fun n42 I1 f1 r1 => ⟨fun z => absurd rfl z, fun _ => ?_⟩))
  · have e3 : opP g q = 3 := by simp [opP, t]
    obtain ⟨a1, a2, a3⟩ := at1 i42 t f1 e1
    rw [e3, if_pos (by omega)] at hP
    exact bX13_qGoesOn_140 ⟨a1, fun z => absurd a2 z, fun _ => bX13_qGoesOn_161 (S_162 (x := 3) hU h16 (by omega) hP (hf.trans f1.Q) r1 (hC.K f1) (by rw [f1.e98]; exact h98) (by omega) ho ho6 hv hk)⟩
  refine m_takesSign (c := 47) (hG.K f1) r1.P i47 (fun t _ I2 f2 r2 e2 => ⟨fun z => absurd z (by decide), fun _ => ?_⟩) (fun n47 I2 f2 r2 => ⟨fun _ => ?_, fun z => absurd rfl z⟩)
  · have e3 : opP g q = 4 := by simp [opP, t]
    obtain ⟨a1, a2, a3⟩ := at1 i47 t (f1.trans f2) e2
    rw [e3, if_pos (by omega)] at hP
    exact bX13_qGoesOn_140 ⟨a1, fun _ => bX13_qGoesOn_161 (S_162 (x := 4) hU h16 (by omega) hP (hf.trans (f1.trans f2).Q) r2 (hC.K (f1.trans f2)) (by rw [(f1.trans f2).e98]; exact h98) (by omega) ho ho6 hv hk), fun z => absurd (a2.symm.trans z) (by decide)⟩
  have eP : opP g q = 0 := by simp [opP, n42, n47]
  rw [eP, if_neg (by omega)] at hP
  have f12 := f1.trans f2
  refine m_takesSign (c := 43) (hG.K f12) r2.P i43 (fun t _ I3 f3 r3 e3 => ⟨fun _ => ?_, fun z => absurd z (by decide)⟩) (fun n43 I3 f3 r3 => ⟨fun z => absurd rfl z, fun _ => ?_⟩)
  · have e4 : opS g q = 1 := by simp [opS, t]
    obtain ⟨a1, a2, a3⟩ := at1 i43 t (f12.trans f3) e3
    rw [e4, if_pos (by omega)] at hP
    exact bX13_qGoesOn_225 ⟨a1, fun z => absurd a2 z, fun _ => bX13_qGoesOn_246 (S_247 (x := 1) hU h16 (by omega) hP (hf.trans (f12.trans f3).Q) r3 (hC.K (f12.trans f3)) (by rw [(f12.trans f3).e98]; exact h98) (by omega) ho ho6 hv hk)⟩
  have f13 := f12.trans f3
  refine m_takesSign (c := 45) (hG.K f13) r3.P i45 (fun t _ I4 f4 r4 e4 => ⟨fun z => absurd z (by decide), fun _ => ?_⟩) (fun n45 I4 f4 r4 => ⟨fun _ => ?_, fun z => absurd rfl z⟩)
  · have e5 : opS g q = 2 := by simp [opS, t]
    obtain ⟨a1, a2, a3⟩ := at1 i45 t (f13.trans f4) e4
    rw [e5, if_pos (by omega)] at hP
    exact bX13_qGoesOn_225 ⟨a1, fun _ => bX13_qGoesOn_246 (S_247 (x := 2) hU h16 (by omega) hP (hf.trans (f13.trans f4).Q) r4 (hC.K (f13.trans f4)) (by rw [(f13.trans f4).e98]; exact h98) (by omega) ho ho6 hv hk), fun z => absurd (a2.symm.trans z) (by decide)⟩
  have eS : opS g q = 0 := by simp [opS, n43, n45]
  rw [eS, if_neg (by omega)] at hP
  have f14 := f13.trans f4
  have hG4 := hG.K f14
  have c4 := hC.K f14
  have e98 : I4 0 98 = nI U.length := by rw [f14.e98]; exact h98
  have hbr := brk_r T
  have g326 : (brk T = 21 ∨ brk T = 22) → GoI wM (e + 5) mX13_qGoesOn 326 [(0, .ref 0)] [] I4 J (kSG e was K) := by
    intro hb
    rw [if_pos hb] at hP
    obtain ⟨o1, o2, o3, o4, o5⟩ := okF_bl hk (by omega)
    have i44 : isS 44 := isS_of (by omega)
    refine bX13_qGoesOn_326 (m_asksSign (c := 44) hG4 r4.P i44 (fun t I5 f5 r5 => ?_) (fun t I5 f5 l5 => ?_))
    · rw [if_pos t] at hP
      have hq2 := (adv_le hle).2.2 (tk_q (by omega) t)
      refine ⟨fun _ => m_qDropsToBracket (c4.K f5) (by rw [f5.e98]; exact e98) (by omega) hv (by omega) (fun I6 f6 c6 => ?_), fun z => absurd r5.1 z⟩
      have hlen : (C ++ abv T).length + (blw T ++ U).length + 1 = C.length + (T ++ U).length := by simp; omega
      rw [c6.2.1.1, List.length_cons, nI_p1 (by omega), Nat.add_sub_cancel, nI_clamp (by omega), c6.2.1.2.1, nI_2]
      refine ⟨vp_in_nI (by omega) (by omega), kSG_1 hP ⟨hf.trans (f14.Q.trans (f5.Q.trans (f6.Q.trans (FrQm.r (by omega))))), (FrPm.trans f6 (FrPm.r (by omega))).pr r5, c6.top, by rw [u2_row (by omega), f6.e98, f5.e98]; exact e98, ?_, ?_, ho6, ?_, ?_⟩⟩
      · simp at hlen hl ⊢; omega
      · have hkx : isK (brk T + 2) = true := by unfold isK; exact decide_eq_true (by omega)
        simp only [ct]
        rw [if_pos (Or.inl hkx)]; omega
      · intro y hy
        rcases List.mem_cons.mp hy with rfl | hy
        · omega
        · exact hv y (o4 y hy)
      · have hkx : isK (brk T + 2) = true := by unfold isK; exact decide_eq_true (by omega)
        simp only [okF]
        rw [if_neg (by omega), hkx]; exact o1
    · rw [if_neg t] at hP
      refine ⟨fun z => absurd z (by rw [l5.1]; decide), fun _ => kSG_b (by omega) hP (hf.trans (f14.Q.trans f5.Q)) l5 (n := C.length) (by omega) (by rw [f5.e94, f14.e94]; exact hC.1.1)⟩
  have k21 : kI (brk T) = 21 ↔ brk T = 21 := kI_eq (y := 21) (by omega) (by omega)
  have k22 : kI (brk T) = 22 ↔ brk T = 22 := kI_eq (y := 22) (by omega) (by omega)
  have km1 : kI (brk T) = -1 ↔ brk T = 0 := kI_m1 (by omega)
  refine m_qBracket c4 e98 (by omega) hv ?_
  rw [k21]
  refine ⟨fun z => g326 (Or.inl z), fun z21 => m_qBracket c4 e98 (by omega) hv ?_⟩
  rw [k22]
  refine ⟨fun z22 => m_qBracket c4 e98 (by omega) hv ?_, fun z => g326 (Or.inr z)⟩
  rw [km1]
  rw [if_neg (by omega)] at hP
  refine ⟨fun z0 => ?_, fun z0 => ⟨fun z => absurd r4.1 z, fun _ => ?_⟩⟩
  · rw [if_neg (by omega)] at hP
    have hct := okF_0 hk z0
    obtain rfl : o = oS := by omega
    exact bX13_qGoesOn_386 (kSG_e hP ⟨hf.trans f14.Q, r4.P, c4, e98, hl, ho, ho6, hv, hk⟩ h16)
  · rw [if_pos z0] at hP
    rw [r4.a]
    refine m_fail (k := 1) r4.1 (fun I5 f5 e5 e6 _ => bX13_qGoesOn_386 (kSG_b (by omega) hP (hf.trans (f14.Q.trans f5.Q)) ⟨e5, e6⟩ (n := C.length) (by omega) (by rw [f5.e94, f14.e94]; exact hC.1.1)))
theorem S_G (hU : ∀ x ∈ U, 5 ≤ x ∧ x ≤ 60) (hG0 : TxG I0 g) : ∀ q C T o, GOP g (PTm g e oS U I0 J was K) (GOm g e oS U I0 J was K) (FTm I0 J was K) (ENm g oS U I0 J was K) q C T o → GOm g e oS U I0 J was K q C T o := by
  intro q C T o hP I hS
  obtain ⟨hf, hr, hC, h98, hl, ho, ho6, hv, hk⟩ := id hS
  have hG := hG0.Q hf
  have hle := hr.le
  have h16 := hG.1.2
  have b41 : bat g q = 41 ↔ tk g q = 41 := bat_eq (c := 41) hG (isS_of (by omega))
  refine bX13_qGoesOn_0 ⟨fun z => absurd hr.1 z, fun _ => m_look hG hr (fun I1 f1 r1 => ?_)⟩
  have hS1 : SMq g oS U I0 false I1 q C T o := ⟨hf.trans f1.Q, r1.P, hC.K f1, by rw [f1.e98]; exact h98, hl, ho, ho6, hv, hk⟩
  have c1 := hC.K f1
  have e98 : I1 0 98 = nI U.length := by rw [f1.e98]; exact h98
  have hbr := brk_r T
  by_cases t41 : tk g q = 41
  · refine ⟨fun z => absurd (b41.mpr t41) z, fun _ => ?_⟩
    have go : (brk T = 20 ∨ brk T = 23 ∨ brk T = 24) → GoI wM (e + 5) mX13_qGoesOn 43 [(0, .ref 0)] [] I1 J (kSG e was K) := fun hb => by
      unfold GOP at hP
      rw [if_pos ⟨t41, hb⟩] at hP
      exact S_43 hG0 hb t41 hP (hf.trans f1.Q) r1 c1 e98 hl ho ho6 hv hk
    have k20 : kI (brk T) = 20 ↔ brk T = 20 := kI_eq (y := 20) (by omega) (by omega)
    have k23 : kI (brk T) = 23 ↔ brk T = 23 := kI_eq (y := 23) (by omega) (by omega)
    have k24 : kI (brk T) = 24 ↔ brk T = 24 := kI_eq (y := 24) (by omega) (by omega)
    refine m_qBracket c1 e98 (by omega) hv ?_
    rw [k20]
    refine ⟨fun z => go (Or.inl z), fun z20 => m_qBracket c1 e98 (by omega) hv ?_⟩
    rw [k23]
    refine ⟨fun z => go (Or.inr (Or.inl z)), fun z23 => m_qBracket c1 e98 (by omega) hv ?_⟩
    rw [k24]
    exact ⟨fun z24 => S_122 hU hG0 (fun y => by omega) hP hS1, fun z => go (Or.inr (Or.inr z))⟩
  · exact ⟨fun _ => S_122 hU hG0 (fun y => t41 y.1) hP hS1, fun z => absurd (b41.mp z) t41⟩
/-- sums whole -/
theorem m_qSums {q m : Nat} {C : List Nat} {I : Ii} (hG : TxG I g) (hs : sco = 1 ∨ sco = 2 ∨ sco = 4) (h52 : I 0 52 = tko sco) (hU : ∀ x ∈ U, 5 ≤ x ∧ x ≤ 60) (hr : Rpr I g q) (hC : CS I C U oS) (hl : C.length + U.length ≤ q) (hm : oS + m = 6)
    (h1 : (pSum g sco m q).1 = 0 → ∀ I', FrQm I I' → Rpr I' g (pSum g sco m q).2.1 → CS I' (C ++ (pSum g sco m q).2.2) U oS → C.length + (pSum g sco m q).2.2.length + U.length ≤ (pSum g sco m q).2.1 → I' 0 98 = I 0 98 → K I' J)
    (h0 : (pSum g sco m q).1 ≠ 0 → ∀ I' n, FrQm I I' → Flm I' (pSum g sco m q).1 (pSum g sco m q).2.1 → n ≤ 1640 → I' 0 94 = nI n → I' 0 98 = I 0 98 → K I' J) : CalV wM (e + 6) mX13_qSums [.ref 0] I J K := by
  have h16 := hG.1.2
  have hle := hr.le
  refine Cal.of (by decide) (Nat.le_of_ble_eq_true rfl) (bX13_qSums_0 ?_)
  rw [hC.2.1.1]
  have f0 : FrQm I (u2 I 0 98 (nI U.length)) := FrQm.f (by omega)
  have hG0 := hG.Q f0
  have r0 : Rpr (u2 I 0 98 (nI U.length)) g q := hr.eq (u2_k (by omega)) (u2_k (by omega)) (u2_k (by omega))
  have key : PTm g e oS U (u2 I 0 98 (nI U.length)) J (I 0 98) K q C [] oS := by
    refine B_sums (sco := sco) (GO := GOm g e oS U (u2 I 0 98 (nI U.length)) J (I 0 98) K) (FT := FTm (u2 I 0 98 (nI U.length)) J (I 0 98) K) (EN := ENm g oS U (u2 I 0 98 (nI U.length)) J (I 0 98) K) h16 (S_P hG0 hs (by rw [u2_k (by omega)]; exact h52)) (S_G hU hG0) hm hle (fun z I' f' r' c' l' => ?_) (fun z I' n f' l' hn e' => ?_)
    · refine h1 z _ (f0.trans (f'.trans (FrQm.f (by omega)))) (r'.eq (u2_k (by omega)) (u2_k (by omega)) (u2_k (by omega))) (c'.f (by omega)) (by simp at l'; omega) (u2_at _ _ _ _)
    · exact h0 z _ n (f0.trans (f'.trans (FrQm.f (by omega)))) ⟨by rw [u2_k (by omega)]; exact l'.1, by rw [u2_k (by omega)]; exact l'.2⟩ hn (by rw [u2_k (by omega)]; exact e') (u2_at _ _ _ _)
  refine bX13_qSums_15 ⟨fun z => absurd z (by decide), fun _ => ⟨fun z => absurd r0.1 z, fun _ => Cal.of (by decide) (Nat.le_of_ble_eq_true rfl) (bX13_qPartTold_0 (key _ ⟨FrQm.refl _, r0, hC.f (by omega), u2_at _ _ _ _, by simpa using hl, by simp [ct], by omega, fun x hx => by simp at hx, rfl⟩))⟩⟩
end ST

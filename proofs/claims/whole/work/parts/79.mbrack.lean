/-! the reference: brackets, ends of parts, words of sums -/
theorem here_if {p : Prop} [Decidable p] {A B : Prop} (h1 : p → B) (h0 : ¬ p → A) : (b01 (decide p) = 0 → A) ∧ (¬ b01 (decide p) = 0 → B) := by
  by_cases z : p
  · rw [decide_eq_true z]; exact ⟨fun y => absurd y (by decide), fun _ => h1 z⟩
  · rw [decide_eq_false z]; exact ⟨fun _ => h0 z, fun y => absurd rfl y⟩
theorem here_fi {p : Prop} [Decidable p] {A B : Prop} (h1 : p → B) (h0 : ¬ p → A) : (¬ b01 (decide p) = 0 → B) ∧ (b01 (decide p) = 0 → A) := ⟨(here_if h1 h0).2, (here_if h1 h0).1⟩
theorem nI_am {n : Nat} : nI n + Int32.ofInt (-1) = mI n := by
  rw [← nI_m1, Int32.sub_eq_add_neg]; rfl
theorem mI_lt {c b : Nat} (hc : c < 2 ^ 31) (hb : b < 2 ^ 31) : mI c < nI b ↔ c < b + 1 := by
  rw [Int32.lt_iff_toInt_lt, t_mI hc, nI_toInt hb]; omega
section MR
variable {d : Nat} {I : Ii} {J : Jj} {C T U : List Nat} {o : Nat}
def kI (x : Nat) : Int32 := if x = 0 then -1 else nI x
theorem m_qBracket {K : KI} (hC : CS I C (T ++ U) o) (h98 : I 0 98 = nI U.length) (hl : (T ++ U).length < 1700) (hv : ∀ x ∈ T, x ≤ 60) (h : K (kI (brk T)) I J) : CalI wM (d + 1) mX13_qBracket [.ref 0] I J K := by
  have key : ∀ T : List Nat, Pil I (T ++ U) → (T ++ U).length < 1700 → (∀ x ∈ T, x ≤ 60) → K (kI (brk T)) I J → GoI wM (d + 1) mX13_qBracket 7 [(0, .ref 0), (1, .int (mI (T ++ U).length))] [] I J K := by
    intro T
    induction T with
    | nil =>
      intro _ hl _ h
      rw [List.nil_append] at hl
      refine bX13_qBracket_7 ?_
      rw [h98]
      exact ⟨fun _ => h, fun z => absurd ((mI_lt (by simp; omega) (by omega)).mpr (by simp)) z⟩
    | cons x t ih =>
      intro hp hl hv h
      have hx : x ≤ 60 := hv x (by simp)
      simp only [List.cons_append, List.length_cons] at hl ⊢
      have hul : U.length ≤ (t ++ U).length := by simp
      have hp1 : I 76 (t ++ U).length = nI x := hp.1
      refine bX13_qBracket_7 ?_
      rw [mI_s, h98]
      have hnl : ¬ nI (t ++ U).length < nI U.length := fun z => absurd ((nI_ltI (by omega) (by omega)).mp z) (by omega)
      refine ⟨fun z => absurd z hnl, fun _ => ⟨vp_in_nI (by omega) (by omega), ?_⟩⟩
      rw [nI_clamp (by omega), hp1]
      refine m_qIsBracket (by omega) ?_
      cases hk : isK x with
      | true =>
        have eb : brk (x :: t) = x := by simp [brk, hk]
        have h20 : 20 ≤ x := by unfold isK at hk; simp only [decide_eq_true_eq] at hk; omega
        rw [eb] at h
        unfold kI at h
        rw [if_neg (by omega)] at h
        exact ⟨fun _ => ⟨fun z => absurd z (by rw [h98]; exact hnl), fun _ => by rw [hp1]; exact h⟩, fun z => absurd z (by decide)⟩
      | false =>
        have eb : brk (x :: t) = brk t := by simp [brk, hk]
        rw [eb] at h
        refine ⟨fun z => absurd rfl z, fun _ => ?_⟩
        rw [nI_am]
        exact ih hp.2 (by omega) (fun y hy => hv y (by simp [hy])) h
  refine Cal.of (by decide) (Nat.le_of_ble_eq_true rfl) (bX13_qBracket_0 ?_)
  rw [hC.2.1.1, nI_m1]
  exact key T hC.2.1.2 hl hv h
theorem m_qDropsToBracket {K : KV} (hC : CS I C (T ++ U) o) (h98 : I 0 98 = nI U.length) (hl : C.length + (T ++ U).length < 1700) (hv : ∀ x ∈ T, x ≤ 60) (hb : brk T ≠ 0) (h : ∀ I', FrPm I I' → CS I' (C ++ abv T) (brk T :: (blw T ++ U)) o → K I' J) : CalV wM (d + 2) mX13_qDropsToBracket [.ref 0] I J K := by
  have key : ∀ (T C : List Nat) (I1 : Ii), CS I1 C (T ++ U) o → C.length + (T ++ U).length < 1700 → (∀ x ∈ T, x ≤ 60) → brk T ≠ 0 → FrPm I I1 → (∀ I', FrPm I I' → CS I' (C ++ abv T) (brk T :: (blw T ++ U)) o → K I' J) → GoV wM (d + 2) mX13_qDropsToBracket 0 [(0, .ref 0)] [] I1 J K := by
    intro T
    induction T with
    | nil => intro C I1 _ _ _ hb; exact absurd rfl hb
    | cons x t ih =>
      intro C I1 hC1 hl hv hb hf h
      have hx : x ≤ 60 := hv x (by simp)
      simp only [List.cons_append, List.length_cons] at hl hC1
      have hul : U.length ≤ (t ++ U).length := by simp
      have e98 : I1 0 98 = nI U.length := by rw [hf.2 98 (by omega) (by omega) (by omega)]; exact h98
      refine bX13_qDropsToBracket_0 ?_
      rw [hC1.2.1.1, List.length_cons, e98, nI_p1 (by omega), Nat.add_sub_cancel, nI_clamp (by omega), hC1.2.1.2.1]
      refine ⟨fun z => absurd ((nI_leI (by omega) (by omega)).mp z) (by omega), fun _ => ⟨vp_in_nI (by omega) (by omega), m_qIsBracket (by omega) ?_⟩⟩
      cases hk : isK x with
      | true =>
        have e1 : brk (x :: t) = x := by simp [brk, hk]
        have e2 : abv (x :: t) = [] := by simp [abv, hk]
        have e3 : blw (x :: t) = t := by simp [blw, hk]
        rw [e1, e2, e3, List.append_nil] at h
        exact ⟨fun _ => h I1 hf hC1, fun z => absurd z (by decide)⟩
      | false =>
        have e1 : brk (x :: t) = brk t := by simp [brk, hk]
        have e2 : abv (x :: t) = x :: abv t := by simp [abv, hk]
        have e3 : blw (x :: t) = blw t := by simp [blw, hk]
        rw [e1, e2, e3] at h
        rw [e1] at hb
        refine ⟨fun z => absurd rfl z, fun _ => m_qDrops hC1 (by omega) (by omega) (fun I2 hf2 hC2 => ?_)⟩
        exact ih (C ++ [x]) I2 hC2 (by simp at hl ⊢; omega) (fun y hy => hv y (by simp [hy])) hb (hf.trans hf2) (fun I' hf' hc' => h I' hf' (by simpa using hc'))
  exact Cal.of (by decide) (Nat.le_of_ble_eq_true rfl) (key T C I hC hl hv hb (FrPm.refl I) h)
theorem m_qEndsPart {K : KV} (h5 : I 0 5 = 0) (hC : CS I C (T ++ U) o) (h98 : I 0 98 = nI U.length) (hl : C.length + (T ++ U).length < 1700) (hv : ∀ x ∈ T, x ≤ 60) (ho : epN T ≤ o) (h : ∀ I', FrPm I I' → CS I' (C ++ List.replicate (epN T) 60) (epT T ++ U) (o - epN T) → K I' J) : CalV wM (d + 2) mX13_qEndsPart [.ref 0] I J K := by
  have key : ∀ (T C : List Nat) (o : Nat) (I1 : Ii), CS I1 C (T ++ U) o → C.length + (T ++ U).length < 1700 → (∀ x ∈ T, x ≤ 60) → epN T ≤ o → FrPm I I1 → (∀ I', FrPm I I' → CS I' (C ++ List.replicate (epN T) 60) (epT T ++ U) (o - epN T) → K I' J) → GoV wM (d + 2) mX13_qEndsPart 0 [(0, .ref 0)] [] I1 J K := by
    intro T
    induction T with
    | nil =>
      intro C o I1 hC1 hl hv ho hf h
      have e98 : I1 0 98 = nI U.length := by rw [hf.2 98 (by omega) (by omega) (by omega)]; exact h98
      have e5 : I1 0 5 = 0 := by rw [hf.2 5 (by omega) (by omega) (by omega)]; exact h5
      refine bX13_qEndsPart_0 ⟨fun z => absurd e5 z, fun _ => ?_⟩
      rw [hC1.2.1.1, e98]
      simp only [List.nil_append] at hl ⊢
      exact ⟨fun _ => h I1 hf (by simpa [epN, epT] using hC1), fun z => absurd (nI_le (by omega) (by omega)) z⟩
    | cons x t ih =>
      intro C o I1 hC1 hl hv ho hf h
      have hx : x ≤ 60 := hv x (by simp)
      simp only [List.cons_append, List.length_cons] at hl hC1
      have hul : U.length ≤ (t ++ U).length := by simp
      have e98 : I1 0 98 = nI U.length := by rw [hf.2 98 (by omega) (by omega) (by omega)]; exact h98
      have e5 : I1 0 5 = 0 := by rw [hf.2 5 (by omega) (by omega) (by omega)]; exact h5
      refine bX13_qEndsPart_0 ⟨fun z => absurd e5 z, fun _ => ?_⟩
      rw [hC1.2.1.1, List.length_cons, e98, nI_p1 (by omega), Nat.add_sub_cancel, nI_clamp (by omega), hC1.2.1.2.1]
      refine ⟨fun z => absurd ((nI_leI (by omega) (by omega)).mp z) (by omega), fun _ => ⟨vp_in_nI (by omega) (by omega), fun z => ?_, fun z => ?_⟩⟩
      · have hlt := (nI_ltI (b := 60) (by omega) (by omega)).mp z
        refine h I1 hf ?_
        have e1 : epN (x :: t) = 0 := by simp only [epN]; rw [if_neg (by omega)]
        have e2 : epT (x :: t) = x :: t := by simp only [epT]; rw [if_neg (by omega)]
        rw [e1, e2]
        simpa using hC1
      · have e60 : x = 60 := by
          rcases Nat.lt_or_ge x 60 with y | y
          · exact absurd (nI_lt (b := 60) y (by omega)) z
          · omega
        subst e60
        simp only [epN, if_true] at ho h
        rw [hC1.2.2, nI_p1 (by omega)]
        refine m_qDrops (hC1.o (o' := o - 1)) (by omega) (by omega) (fun I2 hf2 hC2 => ?_)
        refine ih (C ++ [60]) (o - 1) I2 hC2 (by simp at hl ⊢; omega) (fun y hy => hv y (by simp [hy])) (by omega) ((hf.trans (FrPm.f (by omega))).trans hf2) (fun I' hf' hc' => h I' hf' ?_)
        simp only [epT, if_true]
        rw [List.replicate_succ, show o - (epN t + 1) = o - 1 - epN t by omega]
        simpa using hc'
  exact Cal.of (by decide) (Nat.le_of_ble_eq_true rfl) (key T C o I hC hl hv ho (FrPm.refl I) h)
theorem m_qEndsPart_b {K : KV} (h5 : ¬ I 0 5 = 0) (h : K I J) : CalV wM (d + 1) mX13_qEndsPart [.ref 0] I J K := Cal.of (by decide) (Nat.le_of_ble_eq_true rfl) (bX13_qEndsPart_0 ⟨fun _ => h, fun z => absurd z h5⟩)
theorem m_qOpens {x p : Nat} {R : List Nat} {K : KV} (h5 : I 0 5 = 0) (hC : CS I C R o) (hl : R.length < 1700) (ho : o ≤ 6) (h1 : o ≠ 6 → ∀ I', FrPm I I' → CS I' C (x :: R) (o + 1) → K I' J) (h0 : o = 6 → ∀ I', FrK I I' → Flm I' 4 p → K I' J) : CalV wM (d + 1) mX13_qOpens [.ref 0, .int (nI x), .int (nI p)] I J K := by
  refine Cal.of (by decide) (Nat.le_of_ble_eq_true rfl) (bX13_qOpens_0 ⟨fun _ => ?_, fun z => absurd h5 z⟩)
  rw [hC.2.2, show (6 : Int32) = nI 6 from rfl, nI_eq (by omega) (by omega)]
  refine ⟨fun z I3 e => ?_, fun z => m_fail h5 (fun I' hf e5 e6 _ => h0 z I' hf ⟨e5, e6⟩)⟩
  rw [nI_1] at e
  have hC3 : CS I3 C R (o + 1) := by rw [e]; exact hC.o
  have f3 : FrPm I I3 := by rw [e]; exact FrPm.f (by omega)
  rw [hC3.2.1.1, nI_clamp (by omega)]
  refine ⟨vp_in_nI (by omega) (by omega), fun I5 e2 => ?_⟩
  subst e2
  rw [show u2 I3 76 R.length (nI x) 0 96 = nI R.length by rw [u2_row (by omega)]; exact hC3.2.1.1, nI_1]
  exact h1 z _ (f3.trans ((FrPm.r (Or.inr rfl)).trans (FrPm.f (by omega)))) hC3.push
theorem m_qOpens_b {x p : Int32} {K : KV} (h5 : ¬ I 0 5 = 0) (h : K I J) : CalV wM (d + 1) mX13_qOpens [.ref 0, .int x, .int p] I J K := Cal.of (by decide) (Nat.le_of_ble_eq_true rfl) (bX13_qOpens_0 ⟨fun z => absurd z h5, fun _ => h⟩)
end MR
section MS
variable {d : Nat} {I : Ii} {J : Jj} {g : Sx} {q : Nat}
def wv (w : Nat) : Int32 := if 16 ≤ w ∧ w ≤ 27 then nI (w - 16) else if w = 3 then 12 else -1
theorem m_qWordHere {K : KI} (hG : TxG I g) (hp : Rpr I g q) (h : ∀ I', FrK I I' → Rlk I' g q → K (wv (wd g q)) I' J) : CalI wM (d + 2) mX13_qWordHere [.ref 0] I J K := by
  refine Cal.of (by decide) (Nat.le_of_ble_eq_true rfl) (bX13_qWordHere_0 ?_)
  refine m_isHere (a := 62) hG hp (by unfold isW; omega) (fun I1 f1 r1 => here_if (fun z => ?_) (fun z1 => ?_))
  · have e : wv (wd g q) = 0 := by rw [show wd g q = 16 from z]; rfl
    rw [← e]; exact h I1 f1 r1
  refine m_isHere (a := 63) (hG.K f1) r1.P (by unfold isW; omega) (fun I2 f2 r2 => here_if (fun z => ?_) (fun z2 => ?_))
  · have e : wv (wd g q) = 1 := by rw [show wd g q = 17 from z]; rfl
    rw [← e]; exact h I2 (f1.trans f2) r2
  refine m_isHere (a := 64) (hG.K (f1.trans f2)) r2.P (by unfold isW; omega) (fun I3 f3 r3 => here_if (fun z => ?_) (fun z3 => ?_))
  · have e : wv (wd g q) = 2 := by rw [show wd g q = 18 from z]; rfl
    rw [← e]; exact h I3 ((f1.trans f2).trans f3) r3
  refine m_isHere (a := 65) (hG.K ((f1.trans f2).trans f3)) r3.P (by unfold isW; omega) (fun I4 f4 r4 => here_if (fun z => ?_) (fun z4 => ?_))
  · have e : wv (wd g q) = 3 := by rw [show wd g q = 19 from z]; rfl
    rw [← e]; exact h I4 (((f1.trans f2).trans f3).trans f4) r4
  refine m_isHere (a := 66) (hG.K (((f1.trans f2).trans f3).trans f4)) r4.P (by unfold isW; omega) (fun I5 f5 r5 => here_if (fun z => ?_) (fun z5 => ?_))
  · have e : wv (wd g q) = 4 := by rw [show wd g q = 20 from z]; rfl
    rw [← e]; exact h I5 ((((f1.trans f2).trans f3).trans f4).trans f5) r5
  refine m_isHere (a := 67) (hG.K ((((f1.trans f2).trans f3).trans f4).trans f5)) r5.P (by unfold isW; omega) (fun I6 f6 r6 => here_if (fun z => ?_) (fun z6 => ?_))
  · have e : wv (wd g q) = 5 := by rw [show wd g q = 21 from z]; rfl
    rw [← e]; exact h I6 (((((f1.trans f2).trans f3).trans f4).trans f5).trans f6) r6
  refine m_isHere (a := 68) (hG.K (((((f1.trans f2).trans f3).trans f4).trans f5).trans f6)) r6.P (by unfold isW; omega) (fun I7 f7 r7 => here_if (fun z => ?_) (fun z7 => ?_))
  · have e : wv (wd g q) = 6 := by rw [show wd g q = 22 from z]; rfl
    rw [← e]; exact h I7 ((((((f1.trans f2).trans f3).trans f4).trans f5).trans f6).trans f7) r7
  refine m_isHere (a := 69) (hG.K ((((((f1.trans f2).trans f3).trans f4).trans f5).trans f6).trans f7)) r7.P (by unfold isW; omega) (fun I8 f8 r8 => here_if (fun z => ?_) (fun z8 => ?_))
  · have e : wv (wd g q) = 7 := by rw [show wd g q = 23 from z]; rfl
    rw [← e]; exact h I8 (((((((f1.trans f2).trans f3).trans f4).trans f5).trans f6).trans f7).trans f8) r8
  refine m_isHere (a := 70) (hG.K (((((((f1.trans f2).trans f3).trans f4).trans f5).trans f6).trans f7).trans f8)) r8.P (by unfold isW; omega) (fun I9 f9 r9 => here_if (fun z => ?_) (fun z9 => ?_))
  · have e : wv (wd g q) = 8 := by rw [show wd g q = 24 from z]; rfl
    rw [← e]; exact h I9 ((((((((f1.trans f2).trans f3).trans f4).trans f5).trans f6).trans f7).trans f8).trans f9) r9
  refine m_isHere (a := 71) (hG.K ((((((((f1.trans f2).trans f3).trans f4).trans f5).trans f6).trans f7).trans f8).trans f9)) r9.P (by unfold isW; omega) (fun I10 f10 r10 => here_if (fun z => ?_) (fun z10 => ?_))
  · have e : wv (wd g q) = 9 := by rw [show wd g q = 25 from z]; rfl
    rw [← e]; exact h I10 (((((((((f1.trans f2).trans f3).trans f4).trans f5).trans f6).trans f7).trans f8).trans f9).trans f10) r10
  refine m_isHere (a := 72) (hG.K (((((((((f1.trans f2).trans f3).trans f4).trans f5).trans f6).trans f7).trans f8).trans f9).trans f10)) r10.P (by unfold isW; omega) (fun I11 f11 r11 => here_if (fun z => ?_) (fun z11 => ?_))
  · have e : wv (wd g q) = 10 := by rw [show wd g q = 26 from z]; rfl
    rw [← e]; exact h I11 ((((((((((f1.trans f2).trans f3).trans f4).trans f5).trans f6).trans f7).trans f8).trans f9).trans f10).trans f11) r11
  refine m_isHere (a := 73) (hG.K ((((((((((f1.trans f2).trans f3).trans f4).trans f5).trans f6).trans f7).trans f8).trans f9).trans f10).trans f11)) r11.P (by unfold isW; omega) (fun I12 f12 r12 => here_if (fun z => ?_) (fun z12 => ?_))
  · have e : wv (wd g q) = 11 := by rw [show wd g q = 27 from z]; rfl
    rw [← e]; exact h I12 (((((((((((f1.trans f2).trans f3).trans f4).trans f5).trans f6).trans f7).trans f8).trans f9).trans f10).trans f11).trans f12) r12
  refine m_isHere (a := 74) (hG.K (((((((((((f1.trans f2).trans f3).trans f4).trans f5).trans f6).trans f7).trans f8).trans f9).trans f10).trans f11).trans f12)) r12.P (by unfold isW; omega) (fun I13 f13 r13 => here_if (fun z => ?_) (fun z13 => ?_))
  · have e : wv (wd g q) = 12 := by rw [show wd g q = 3 from z]; rfl
    rw [← e]; exact h I13 ((((((((((((f1.trans f2).trans f3).trans f4).trans f5).trans f6).trans f7).trans f8).trans f9).trans f10).trans f11).trans f12).trans f13) r13
  have e : wv (wd g q) = -1 := by
    have y1 : ¬ wd g q = 16 := z1
    have y2 : ¬ wd g q = 17 := z2
    have y3 : ¬ wd g q = 18 := z3
    have y4 : ¬ wd g q = 19 := z4
    have y5 : ¬ wd g q = 20 := z5
    have y6 : ¬ wd g q = 21 := z6
    have y7 : ¬ wd g q = 22 := z7
    have y8 : ¬ wd g q = 23 := z8
    have y9 : ¬ wd g q = 24 := z9
    have y10 : ¬ wd g q = 25 := z10
    have y11 : ¬ wd g q = 26 := z11
    have y12 : ¬ wd g q = 27 := z12
    have y13 : ¬ wd g q = 3 := z13
    unfold wv; rw [if_neg (by omega), if_neg (by omega)]
  rw [← e]; exact h I13 ((((((((((((f1.trans f2).trans f3).trans f4).trans f5).trans f6).trans f7).trans f8).trans f9).trans f10).trans f11).trans f12).trans f13) r13
def tko (sco : Nat) : Int32 := if sco = 1 then 0 else if sco = 2 then 1 else 2
theorem m_isAllowed {sco j : Nat} {K : KI} (hs : sco = 1 ∨ sco = 2 ∨ sco = 4) (h52 : I 0 52 = tko sco) (hj : j ≤ 12) (h : K (b01 (if j = 12 then decide (sco = 4) else alw sco (16 + j))) I J) : CalI wM d mX13_isAllowed [.ref 0, .int (nI j)] I J K := by
  have l1 : (if j = 12 then decide (sco = 4) else alw sco (16 + j)) = true → K 1 I J := fun z => by rw [z] at h; exact h
  have l0 : (if j = 12 then decide (sco = 4) else alw sco (16 + j)) = false → K 0 I J := fun z => by rw [z] at h; exact h
  have ea : (if j = 12 then decide (sco = 4) else alw sco (16 + j)) = decide (j < 4 ∨ (sco = 1 ∧ j < 7) ∨ (sco = 2 ∧ (j = 7 ∨ j = 8)) ∨ (sco = 4 ∧ (j = 4 ∨ 7 ≤ j))) := by
    split
    · exact decide_eq_decide.mpr (by omega)
    · unfold alw; exact decide_eq_decide.mpr (by omega)
  rw [ea] at l1 l0
  simp only [decide_eq_true_eq, decide_eq_false_iff_not] at l1 l0
  refine Cal.of (by decide) (Nat.le_of_ble_eq_true rfl) (bX13_isAllowed_0 ?_)
  rw [h52, show (4 : Int32) = nI 4 from rfl, show (6 : Int32) = nI 6 from rfl, show (7 : Int32) = nI 7 from rfl, show (8 : Int32) = nI 8 from rfl, nI_ltI (by omega) (by omega), nI_eq (by omega) (by omega), nI_eq (by omega) (by omega), nI_eq (by omega) (by omega), nI_leI (by omega) (by omega), nI_leI (by omega) (by omega)]
  rcases hs with rfl | rfl | rfl
  · exact ⟨fun z => l1 (by omega), fun z => ⟨fun y => absurd rfl y, fun _ => ⟨fun y => l0 (by omega), fun y => l1 (by omega)⟩⟩⟩
  · exact ⟨fun z => l1 (by omega), fun z => ⟨fun _ => ⟨fun y => absurd rfl y, fun _ => ⟨fun y => l1 (by omega), fun y => ⟨fun y2 => l0 (by omega), fun y2 => l1 (by omega)⟩⟩⟩, fun y => absurd y (by decide)⟩⟩
  · exact ⟨fun z => l1 (by omega), fun z => ⟨fun _ => ⟨fun _ => ⟨fun y => l1 (by omega), fun y => ⟨fun y2 => l0 (by omega), fun y2 => l1 (by omega)⟩⟩, fun y => absurd y (by decide)⟩, fun y => absurd y (by decide)⟩⟩
theorem alw_r {sco w : Nat} (h : alw sco w = true) : 16 ≤ w ∧ w ≤ 27 := by unfold alw at h; simp only [decide_eq_true_eq] at h; omega
theorem m_qWordBy {sco : Nat} {K : KI} (hG : TxG I g) (hp : Rpr I g q) (hs : sco = 1 ∨ sco = 2 ∨ sco = 4) (h52 : I 0 52 = tko sco) (h : ∀ I', FrK I I' → Rlk I' g q → K (if wd g q = 3 ∧ sco = 4 then 12 else -1) I' J) : CalI wM (d + 3) mX13_qWordOf [.ref 0, .int 12, .int 13] I J K := by
  refine Cal.of (by decide) (Nat.le_of_ble_eq_true rfl) (bX13_qWordOf_0 (m_qWordHere (d := d) hG hp (fun I1 f1 r1 => ?_)))
  have h1 := h I1 f1 r1
  unfold wv
  by_cases z : 16 ≤ wd g q ∧ wd g q ≤ 27
  · rw [if_pos z]
    rw [if_neg (by omega)] at h1
    exact ⟨fun _ => h1, fun y => absurd (nI_lt (b := 12) (by omega) (by decide)) y⟩
  rw [if_neg z]
  by_cases z3 : wd g q = 3
  · rw [if_pos z3]
    refine ⟨fun y => absurd y (by decide), fun _ => ⟨fun y => absurd y (by decide), fun _ => ?_⟩⟩
    refine m_isAllowed (j := 12) hs (by rw [f1.2 52 (by omega) (by omega) (by omega) (by omega) (by omega)]; exact h52) (by omega) ?_
    rw [if_pos rfl]
    exact here_if (fun y => by rw [if_pos ⟨z3, y⟩] at h1; exact h1) (fun y => by rw [if_neg (fun v => y v.2)] at h1; exact h1)
  · rw [if_neg z3]
    rw [if_neg (by omega)] at h1
    exact ⟨fun _ => h1, fun y => absurd (by decide) y⟩
theorem m_qWordSum {sco : Nat} {K : KI} (hG : TxG I g) (hp : Rpr I g q) (hs : sco = 1 ∨ sco = 2 ∨ sco = 4) (h52 : I 0 52 = tko sco) (h1 : alw sco (wd g q) = true → ∀ I', FrK I I' → Rlk I' g q → K (nI (wd g q - 16)) I' J) (h0 : alw sco (wd g q) = false → ∀ I', FrK I I' → Rlk I' g q → K (-1) I' J) : CalI wM (d + 3) mX13_qWordOf [.ref 0, .int 0, .int 12] I J K := by
  refine Cal.of (by decide) (Nat.le_of_ble_eq_true rfl) (bX13_qWordOf_0 (m_qWordHere (d := d) hG hp (fun I1 f1 r1 => ?_)))
  have nal : ¬ (16 ≤ wd g q ∧ wd g q ≤ 27) → alw sco (wd g q) = false := fun z => by
    cases y : alw sco (wd g q) with
    | false => rfl
    | true => exact absurd (alw_r y) z
  unfold wv
  by_cases z : 16 ≤ wd g q ∧ wd g q ≤ 27
  · rw [if_pos z, show (0 : Int32) = nI 0 from rfl, show (12 : Int32) = nI 12 from rfl]
    refine ⟨fun y => absurd ((nI_ltI (by omega) (by omega)).mp y) (by omega), fun _ => ⟨fun y => absurd ((nI_leI (by omega) (by omega)).mp y) (by omega), fun _ => ?_⟩⟩
    refine m_isAllowed hs (by rw [f1.2 52 (by omega) (by omega) (by omega) (by omega) (by omega)]; exact h52) (by omega) ?_
    rw [if_neg (by omega), show 16 + (wd g q - 16) = wd g q by omega]
    cases y : alw sco (wd g q) with
    | true => exact ⟨fun v => absurd v (by decide), fun _ => h1 y I1 f1 r1⟩
    | false => exact ⟨fun _ => h0 y I1 f1 r1, fun v => absurd rfl v⟩
  rw [if_neg z]
  have h0 := h0 (nal z) I1 f1 r1
  by_cases z3 : wd g q = 3
  · rw [if_pos z3]
    exact ⟨fun y => absurd y (by decide), fun _ => ⟨fun y => h0, fun y => absurd (by decide) y⟩⟩
  · rw [if_neg z3]
    exact ⟨fun _ => h0, fun y => absurd (by decide) y⟩
theorem m_qAsksWord {j : Nat} {K : KV} (hj : j ≤ 12) (h : CalV wM d mX13_asks [.ref 0, .ref (62 + j)] I J K) : CalV wM (d + 1) mX13_qAsksWord [.ref 0, .int (nI j)] I J K := by
  have e : ∀ k : Nat, k ≤ 12 → nI j = nI k → CalV wM d mX13_asks [.ref 0, .ref (62 + k)] I J K := fun k hk z => by
    have := (nI_eq (by omega) (by omega)).mp z
    subst this; exact h
  refine Cal.of (by decide) (Nat.le_of_ble_eq_true rfl) (bX13_qAsksWord_0 ⟨e 0 (by omega), e 1 (by omega), e 2 (by omega), e 3 (by omega), e 4 (by omega), e 5 (by omega), e 6 (by omega), e 7 (by omega), e 8 (by omega), e 9 (by omega), e 10 (by omega), e 11 (by omega), fun z0 z1 z2 z3 z4 z5 z6 z7 z8 z9 z10 z11 => e 12 (by omega) ?_⟩)
  have n : ∀ k : Nat, k ≤ 12 → ¬ nI j = nI k → j ≠ k := fun k hk z y => z (by rw [y])
  have y0 := n 0 (by omega) z0
  have y1 := n 1 (by omega) z1
  have y2 := n 2 (by omega) z2
  have y3 := n 3 (by omega) z3
  have y4 := n 4 (by omega) z4
  have y5 := n 5 (by omega) z5
  have y6 := n 6 (by omega) z6
  have y7 := n 7 (by omega) z7
  have y8 := n 8 (by omega) z8
  have y9 := n 9 (by omega) z9
  have y10 := n 10 (by omega) z10
  have y11 := n 11 (by omega) z11
  rw [show j = 12 by omega]
end MS

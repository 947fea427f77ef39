/-! the reference: tests -/
def FB (p : Nat → Res) : Prop := ∀ q, (p q).1 < 10
theorem FB_loop {g : Sx} {p : Nat → Res} {op : Nat → Nat} (hp : FB p) : ∀ f r, r.1 < 10 → (pLoop g p op f r).1 < 10
  | 0, r, h => h
  | f + 1, r, h => by
    simp only [pLoop]
    split
    · exact FB_loop hp f _ (hp _)
    · exact h
theorem FB_rLp {g : Sx} {p : Nat → Res} {op : Nat → Nat} (hp : FB p) : FB (rLp g p op) := fun q => FB_loop hp _ _ (hp q)
theorem FB_sg {g : Sx} {c : Nat} {r : Res} (h : r.1 < 10) : (xSg g c r).1 < 10 := by
  unfold xSg
  split
  · split <;> simp
  · exact h
theorem FB_th {r : Res} {p : Nat → Res} (h : r.1 < 10) (hp : FB p) : (xTh r p).1 < 10 := by
  unfold xTh
  split
  · exact hp _
  · exact h
theorem FB_op {g : Sx} {m q : Nat} : (xOp g m q).1 < 10 := by unfold xOp; split <;> simp
theorem FB_no : FB (fun q => (1, q, [])) := fun q => by simp
theorem FB_partF {g : Sx} {sco m : Nat} {rs rp : Nat → Res} (hs : FB rs) (hp : FB rp) : FB (pPartF g sco rs rp m) := by
  intro q
  have pair : ∀ c q, (pPair g rs m c q).1 < 10 := fun c q => by
    unfold pPair
    split
    · exact FB_sg (FB_th (FB_sg (FB_th FB_op hs)) hs)
    · simp
  unfold pPartF
  split
  · split <;> simp
  · split
    · exact FB_sg (FB_th FB_op hs)
    · split
      · exact pair _ _
      · split
        · exact pair _ _
        · split
          · exact FB_th FB_op hp
          · split <;> simp
theorem FB_part {g : Sx} {sco : Nat} : ∀ m, FB (pPart g sco m)
  | 0 => FB_partF FB_no FB_no
  | m + 1 => FB_partF (FB_rLp (FB_rLp (FB_part m))) (FB_part m)
theorem pSum_f {g : Sx} {sco m : Nat} (q : Nat) : (pSum g sco m q).1 < 10 := FB_rLp (FB_rLp (FB_part m)) q
theorem FB_claimF {g : Sx} {m : Nat} {rt rc rs : Nat → Res} (ht : FB rt) (hc : FB rc) (hs : FB rs) : FB (pClaimF g rt rc rs m) := by
  intro q
  unfold pClaimF
  split
  · exact FB_th FB_op hc
  · split
    · simp
    · split
      · exact FB_sg (FB_th FB_op ht)
      · split
        · split
          · simp
          · exact FB_th (by simp) hs
        · exact hs q
theorem FB_claim {g : Sx} {sco : Nat} : ∀ m, FB (pClaim g sco m)
  | 0 => FB_claimF FB_no FB_no pSum_f
  | m + 1 => FB_claimF (FB_rLp (FB_rLp (FB_claim m))) (FB_claim m) pSum_f
theorem pTest_f {g : Sx} {sco m : Nat} (q : Nat) : (pTest g sco m q).1 < 10 := FB_rLp (FB_rLp (FB_claim m)) q
def cq5 : List Nat → Nat
  | [] => 0
  | x :: t => (if x = 25 ∨ x = 12 then 1 else 0) + cq5 t
theorem c5_nt {T : List Nat} : cq5 (nt T) + nn T = cq5 T ∧ (nt T).length + nn T = T.length ∧ ∀ x ∈ nt T, x ∈ T := by
  induction T with
  | nil => exact ⟨rfl, rfl, fun x hx => hx⟩
  | cons x t ih =>
    simp only [nt, nn]
    by_cases z : x = 12
    · rw [if_pos z, if_pos z]
      simp only [cq5]
      rw [if_pos (Or.inr z)]
      refine ⟨by omega, by simp only [List.length_cons]; omega, fun y hy => by simp [ih.2.2 y hy]⟩
    · rw [if_neg z, if_neg z]
      exact ⟨by simp, by simp, fun y hy => hy⟩
theorem c5_bl {T : List Nat} (h : hsq T = true) : cq5 (bl5 T) + 1 ≤ cq5 T ∧ (ab5 T).length + (bl5 T).length + 1 = T.length ∧ ∀ x ∈ bl5 T, x ∈ T := by
  induction T with
  | nil => simp [hsq] at h
  | cons x t ih =>
    simp only [bl5, ab5]
    by_cases z : x = 25
    · rw [if_pos z, if_pos z]
      simp only [cq5]
      rw [if_pos (Or.inl z)]
      exact ⟨by omega, by simp, fun y hy => by simp [hy]⟩
    · rw [if_neg z, if_neg z]
      simp only [hsq, decide_eq_false z, Bool.false_or] at h
      obtain ⟨h1, h2, h3⟩ := ih h
      simp only [cq5]
      exact ⟨by omega, by simp only [List.length_cons]; omega, fun y hy => by simp [h3 y hy]⟩
theorem c5_dw {T : List Nat} {p : Nat → Bool} (hp : ∀ x, p x = true → x ≠ 25 ∧ x ≠ 12) : cq5 (dw p T) = cq5 T ∧ (tw p T).length + (dw p T).length = T.length ∧ ∀ x ∈ dw p T, x ∈ T := by
  induction T with
  | nil => exact ⟨rfl, rfl, fun x hx => hx⟩
  | cons x t ih =>
    simp only [dw, tw]
    by_cases z : p x = true
    · rw [if_pos z, if_pos z]
      have := hp x z
      simp only [cq5]
      rw [if_neg (by omega)]
      exact ⟨by omega, by simp only [List.length_cons]; omega, fun y hy => by simp [ih.2.2 y hy]⟩
    · rw [if_neg z, if_neg z]
      exact ⟨rfl, by simp, fun y hy => hy⟩
theorem Pil_hsq {I : Ii} {T : List Nat} (h : Pil I T) (hv : ∀ x ∈ T, x ≤ 60) : hsq T = true ↔ ∃ i, i < T.length ∧ I 76 i = 25 := by
  induction T with
  | nil => simp [hsq]
  | cons x t ih =>
    have hx := hv x (by simp)
    have ih := ih h.2 (fun y hy => hv y (by simp [hy]))
    have e : I 76 t.length = 25 ↔ x = 25 := by rw [h.1, show (25 : Int32) = nI 25 from rfl, nI_eq (by omega) (by omega)]
    simp only [hsq, Bool.or_eq_true, decide_eq_true_eq, List.length_cons]
    constructor
    · rintro (z | z)
      · exact ⟨t.length, by omega, e.mpr z⟩
      · obtain ⟨i, h1, h2⟩ := ih.mp z
        exact ⟨i, by omega, h2⟩
    · rintro ⟨i, h1, h2⟩
      by_cases z : i = t.length
      · subst z; exact Or.inl (e.mp h2)
      · exact Or.inr (ih.mpr ⟨i, by omega, h2⟩)
section MT
variable {d : Nat} {I : Ii} {J : Jj} {C T : List Nat} {o : Nat}
theorem m_qDropsNots {K : KV} (h5 : I 0 5 = 0) (hC : CS I C T o) (hl : C.length + T.length < 1700) (hv : ∀ x ∈ T, x ≤ 60) (ho : nn T ≤ o) (h : ∀ I', FrPm I I' → CS I' (C ++ List.replicate (nn T) 12) (nt T) (o - nn T) → K I' J) : CalV wM (d + 2) mX13_qDropsNots [.ref 0] I J K := by
  have key : ∀ (T C : List Nat) (o : Nat) (I1 : Ii), FrPm I I1 → CS I1 C T o → C.length + T.length < 1700 → (∀ x ∈ T, x ≤ 60) → nn T ≤ o → (∀ I', FrPm I I' → CS I' (C ++ List.replicate (nn T) 12) (nt T) (o - nn T) → K I' J) → GoV wM (d + 2) mX13_qDropsNots 0 [(0, .ref 0)] [] I1 J K := by
    intro T
    induction T with
    | nil =>
      intro C o I1 f1 c1 l1 v1 ho k
      refine bX13_qDropsNots_0 ⟨fun z => absurd (by rw [f1.e5]; exact h5) z, fun _ => m_qIsOn (y := 12) c1 (by omega) v1 (by omega) (here_if (fun z => by simp at z) (fun _ => k I1 f1 (by simpa [nn, nt] using c1)))⟩
    | cons x t ih =>
      intro C o I1 f1 c1 l1 v1 ho k
      simp only [List.length_cons] at l1
      refine bX13_qDropsNots_0 ⟨fun z => absurd (by rw [f1.e5]; exact h5) z, fun _ => m_qIsOn (y := 12) c1 (by simp only [List.length_cons]; omega) v1 (by omega) (here_if (fun z => ?_) (fun z => ?_))⟩
      · have z : x = 12 := by simpa using z
        subst z
        simp only [nn, if_true] at ho k
        rw [c1.2.2, nI_p1 (by omega)]
        refine m_qDrops (c1.o (o' := o - 1)) (by omega) (by omega) (fun I2 f2 c2 => ih (C ++ [12]) (o - 1) I2 ((f1.trans (FrPm.f (by omega))).trans f2) c2 (by simp; omega) (fun y hy => v1 y (by simp [hy])) (by omega) (fun I' f' c' => k I' f' ?_))
        simp only [nt, if_true]
        rw [List.replicate_succ, show o - (nn t + 1) = o - 1 - nn t by omega]
        simpa using c'
      · have z : x ≠ 12 := by simpa using z
        refine k I1 f1 ?_
        simp only [nn, nt]
        rw [if_neg z, if_neg z]
        simpa using c1
  exact Cal.of (by decide) (Nat.le_of_ble_eq_true rfl) (key T C o I (FrPm.refl I) hC hl hv ho h)
theorem m_qDropsNots_b {K : KV} (h5 : ¬ I 0 5 = 0) (h : K I J) : CalV wM (d + 1) mX13_qDropsNots [.ref 0] I J K := Cal.of (by decide) (Nat.le_of_ble_eq_true rfl) (bX13_qDropsNots_0 ⟨fun _ => h, fun z => absurd z h5⟩)
theorem m_qHasSquare {K : KI} (hC : CS I C T o) (hl : T.length < 1700) (hv : ∀ x ∈ T, x ≤ 60) (h : K (b01 (hsq T)) I J) : CalI wM d mX13_qHasSquare [.ref 0] I J K := by
  have hh := Pil_hsq hC.2.1.2 hv
  have key : ∀ n k, k + n = T.length → (∀ i, i < k → ¬ I 76 i = 25) → GoI wM d mX13_qHasSquare 2 [(0, .ref 0), (1, .int (nI k))] [] I J K := by
    intro n
    induction n with
    | zero =>
      intro k hk hn
      refine bX13_qHasSquare_2 ?_
      rw [hC.2.1.1]
      have ef : hsq T = false := by
        cases y : hsq T with
        | false => rfl
        | true => obtain ⟨i, h1, h2⟩ := hh.mp y; exact absurd h2 (hn i (by omega))
      rw [ef] at h
      exact ⟨fun _ => h, fun z => absurd (nI_le (by omega) (by omega)) z⟩
    | succ n ih =>
      intro k hk hn
      refine bX13_qHasSquare_2 ?_
      rw [hC.2.1.1, nI_clamp (by omega), nI_1]
      refine ⟨fun z => absurd ((nI_leI (by omega) (by omega)).mp z) (by omega), fun _ => ⟨vp_in_nI (by omega) (by omega), fun z => ih (k + 1) (by omega) (fun i hi => ?_), fun z => ?_⟩⟩
      · by_cases y : i = k
        · subst y; exact z
        · exact hn i (by omega)
      · rw [hh.mpr ⟨k, by omega, z⟩] at h
        exact h
  exact Cal.of (by decide) (Nat.le_of_ble_eq_true rfl) (bX13_qHasSquare_0 (key T.length 0 (by omega) (fun i hi => absurd hi (by omega))))
end MT
section TQ
variable (g : Sx) (sco e : Nat) (I0 : Ii) (J : Jj) (K : KV)
def SMt (I : Ii) (q : Nat) (C T : List Nat) (o : Nat) : Prop := FrQm I0 I ∧ Rpr I g q ∧ CS I C T o ∧ C.length + T.length ≤ q ∧ cq5 T ≤ o ∧ o ≤ 6 ∧ (∀ x ∈ T, 5 ≤ x ∧ x ≤ 60)
def kTG : KI := fun x18 I16 J17 => ((x18 = 0) → GoV wM (e + 8) mX13_qTest 2 [(0, .ref 0), (1, .int 0)] [] I16 J17 K) ∧ ((¬ x18 = 0) → GoV wM (e + 8) mX13_qTest 2 [(0, .ref 0), (1, .int 1)] [] I16 J17 K)
def kTN : KV := fun I13 J14 => ((¬ (I13 0 5) = 0) → GoV wM (e + 8) mX13_qTest 2 [(0, .ref 0), (1, .int 0)] [] I13 J14 K) ∧ (((I13 0 5) = 0) → CalI wM (e + 7) mX13_qGoesOnTest [.ref 0] I13 J14 (kTG e K))
def TLm : Mc := fun q C T o => ∀ I, SMt g I0 I q C T o → GoV wM (e + 8) mX13_qTest 2 [(0, .ref 0), (1, .int 1)] [] I J K
def TGm : Mc := fun q C T o => ∀ I, SMt g I0 I q C T o → GoI wM (e + 7) mX13_qGoesOnTest 0 [(0, .ref 0)] [] I J (kTG e K)
def FTt (k p : Nat) : Prop := ∀ I n, FrQm I0 I → Flm I k p → n ≤ 1650 → I 0 94 = nI n → K I J
def ENt (q : Nat) (C : List Nat) : Prop := ∀ I, FrQm I0 I → Rpr I g q → Cod I C → C.length ≤ q → K I J
end TQ
section TR
variable {g : Sx} {sco e : Nat} {I0 : Ii} {J : Jj} {K : KV}
theorem Flm.b {I : Ii} {k p : Nat} (h : Flm I k p) (hk : 1 ≤ k ∧ k < 10) : ¬ I 0 5 = 0 := by rw [h.1, show (0 : Int32) = nI 0 from rfl, nI_eq (by omega) (by omega)]; omega
theorem qt_b {I : Ii} {v : Int32} {k p n : Nat} (hk : 1 ≤ k ∧ k < 10) (h : FTt I0 J K k p) (hf : FrQm I0 I) (hF : Flm I k p) (hn : n ≤ 1650) (h94 : I 0 94 = nI n) : GoV wM (e + 8) mX13_qTest 2 [(0, .ref 0), (1, .int v)] [] I J K := by
  have h5 := hF.b hk
  have g110 : GoV wM (e + 8) mX13_qTest 110 [(0, .ref 0)] [] I J K := bX13_qTest_110 ⟨fun _ => h I n hf hF hn h94, fun z => absurd z h5⟩
  exact bX13_qTest_2 ⟨fun _ => g110, fun _ => ⟨fun _ => g110, fun z => absurd z h5⟩⟩
theorem kTN_b {I : Ii} {k p n : Nat} (hk : 1 ≤ k ∧ k < 10) (h : FTt I0 J K k p) (hf : FrQm I0 I) (hF : Flm I k p) (hn : n ≤ 1650) (h94 : I 0 94 = nI n) : CalV wM (e + 7) mX13_qDropsNots [.ref 0] I J (kTN e K) :=
  m_qDropsNots_b (hF.b hk) ⟨fun _ => qt_b hk h hf hF hn h94, fun z => absurd z (hF.b hk)⟩
theorem kTG_b {I : Ii} {k p n : Nat} (hk : 1 ≤ k ∧ k < 10) (h : FTt I0 J K k p) (hf : FrQm I0 I) (hF : Flm I k p) (hn : n ≤ 1650) (h94 : I 0 94 = nI n) : kTG e K 0 I J := ⟨fun _ => qt_b hk h hf hF hn h94, fun z => absurd rfl z⟩
theorem kTG_1 {I : Ii} {q o : Nat} {C T : List Nat} (h : TLm g e I0 J K q C T o) (hS : SMt g I0 I q C T o) : kTG e K 1 I J := ⟨fun z => absurd z (by decide), fun _ => h I hS⟩
theorem kTG_e {I : Ii} {q o : Nat} {C T : List Nat} (h16 : g 0 0 ≤ 1600) (h : ENt g I0 J K q (C ++ T)) (hS : SMt g I0 I q C T o) : kTG e K 0 I J := by
  obtain ⟨hf, hr, hC, hl, -⟩ := hS
  have hle := hr.le
  refine ⟨fun _ => bX13_qTest_2 ⟨fun _ => ?_, fun z => absurd rfl z⟩, fun z => absurd rfl z⟩
  have key : ∀ (T C : List Nat) (I1 : Ii), FrPm I I1 → CS I1 C T o → C.length + T.length ≤ q → (∀ I', FrPm I I' → CS I' (C ++ T) [] o → K I' J) → GoV wM (e + 8) mX13_qTest 110 [(0, .ref 0)] [] I1 J K := by
    intro T
    induction T with
    | nil =>
      intro C I1 f1 c1 l1 k
      refine bX13_qTest_110 ⟨fun z => absurd (by rw [f1.e5]; exact hr.1) z, fun _ => ?_⟩
      rw [c1.2.1.1]
      exact ⟨fun _ => k I1 f1 (by simpa using c1), fun z => absurd (by decide) z⟩
    | cons x t ih =>
      intro C I1 f1 c1 l1 k
      simp only [List.length_cons] at l1
      refine bX13_qTest_110 ⟨fun z => absurd (by rw [f1.e5]; exact hr.1) z, fun _ => ?_⟩
      rw [c1.2.1.1, List.length_cons]
      refine ⟨fun z => absurd ((nI_leI (b := 0) (by omega) (by omega)).mp z) (by omega), fun _ => m_qDrops c1 (by omega) (by omega) (fun I2 f2 c2 => ih (C ++ [x]) I2 (f1.trans f2) c2 (by simp; omega) (fun I' f' c' => k I' f' (by simpa using c')))⟩
  exact key T C I (FrPm.refl I) hC hl (fun I' f' c' => h I' (hf.trans f'.Q) (f'.pr hr) c'.1 (by simp; omega))
/-- a fact's end -/
theorem T_end {I : Ii} {q o : Nat} {C T : List Nat} (h16 : g 0 0 ≤ 1600) (hg : NE (TGm g e I0 J K) q C T o) (hS : SMt g I0 I q C T o) : CalV wM (e + 7) mX13_qDropsNots [.ref 0] I J (kTN e K) := by
  obtain ⟨hf, hr, hC, hl, ho, ho6, hv⟩ := hS
  have hle := hr.le
  obtain ⟨n1, n2, n3⟩ := c5_nt (T := T)
  refine m_qDropsNots hr.1 hC (by omega) (fun x hx => (hv x hx).2) (by omega) (fun I1 f1 c1 => ⟨fun z => absurd (by rw [f1.e5]; exact hr.1) z, fun _ => Cal.of (by decide) (Nat.le_of_ble_eq_true rfl) (hg I1 ⟨hf.trans f1.Q, f1.pr hr, c1, ?_, by omega, by omega, fun x hx => hv x (n3 x hx)⟩)⟩)
  simp; omega
theorem T_L (hG0 : TxG I0 g) (hs : sco = 1 ∨ sco = 2 ∨ sco = 4) (h52 : I0 0 52 = tko sco) : ∀ m q C T o, o + m = 6 → TLP g (TLm g e I0 J K) (TGm g e I0 J K) (FTt I0 J K) (pSum g sco m) q C T o → TLm g e I0 J K q C T o := by
  intro m q C T o hom hP I hS
  obtain ⟨hf, hr, hC, hl, ho, ho6, hv⟩ := hS
  have hG := hG0.Q hf
  have hle := hr.le
  have h16 := hG.1.2
  have hb : ∀ k, k < g 0 0 → g 1 k < 256 := fun k hk => (hG.2.1 k hk).2
  have i91 : isS 91 := isS_of (by omega)
  have b91 : bat g q = 91 ↔ tk g q = 91 := bat_eq (c := 91) hG i91
  unfold TLP at hP
  refine bX13_qTest_2 ⟨fun z => absurd z (by decide), fun _ => ⟨fun z => absurd hr.1 z, fun _ => m_look hG hr (fun I1 f1 r1 => ?_)⟩⟩
  have c1 := hC.K f1
  by_cases t91 : tk g q = 91
  · rw [if_pos t91] at hP
    have hq2 := (adv_le hle).2.2 (tk_q (by omega) t91)
    refine ⟨fun z => absurd (b91.mpr t91) z, fun _ => ?_⟩
    rw [r1.a]
    refine m_qOpens (x := 25) r1.1 c1 (by omega) ho6 (fun z I2 f2 c2 => ?_) (fun z I2 f2 l2 => ?_)
    · rw [if_neg z] at hP
      rw [f2.e2, r1.a, nI_1]
      refine hP _ ⟨hf.trans (f1.Q.trans (f2.Q.trans (FrQm.f (by omega)))), (f2.lk r1).sign ((hG.K f1).Q f2.Q) i91 t91 (u2_at _ _ _ _) (u2_k (by omega)) (u2_k (by omega)), c2.f (by omega), by simp only [List.length_cons]; omega, ?_, by omega, ?_⟩
      · simp only [cq5]; rw [if_pos (Or.inl trivial)]; omega
      · intro y hy
        rcases List.mem_cons.mp hy with rfl | hy
        · omega
        · exact hv y hy
    · rw [if_pos z] at hP
      exact qt_b (by omega) hP (hf.trans (f1.Q.trans (f2.Q.trans (FrQm.f (by omega))))) ⟨by rw [u2_k (by omega)]; exact l2.1, by rw [u2_k (by omega)]; exact l2.2⟩ (n := C.length) (by omega) (by rw [u2_k (by omega), f2.e94, f1.e94]; exact hC.1.1)
  rw [if_neg t91] at hP
  refine ⟨fun _ => ?_, fun z => absurd (b91.mp z) t91⟩
  refine m_isHere (a := 56) (hG.K f1) r1.P (by unfold isW; omega) (fun I2 f2 r2 => here_if (fun w12 => ?_) (fun w12 => ?_))
  · have w12 : wd g q = 12 := w12
    rw [if_pos w12] at hP
    have hq2 := (adv_le hle).2.2 (tk256 (wd_t w12 (by omega)) hb).1
    have f12 := f1.trans f2
    rw [r2.a]
    refine m_qOpens (x := 12) r2.1 (hC.K f12) (by omega) ho6 (fun z I3 f3 c3 => ?_) (fun z I3 f3 l3 => ?_)
    · rw [if_neg z] at hP
      refine m_asks (d := e + 4) (a := 56) ((hG.K f12).Q f3.Q) (f3.pr r2.P) (by unfold isW; omega) (fun _ I4 f4 r4 => ?_) (fun y => absurd w12 y)
      refine hP _ ⟨hf.trans (f12.Q.trans (f3.Q.trans f4.Q)), r4, c3.K f4, by simp only [List.length_cons]; omega, ?_, by omega, ?_⟩
      · simp only [cq5]; rw [if_pos (Or.inr trivial)]; omega
      · intro y hy
        rcases List.mem_cons.mp hy with rfl | hy
        · omega
        · exact hv y hy
    · rw [if_pos z] at hP
      refine m_asks_b (d := e + 4) (a := 56) (l3.b (by omega)) (by unfold isW; omega) ?_
      exact qt_b (by omega) hP (hf.trans (f12.Q.trans f3.Q)) l3 (n := C.length) (by omega) (by rw [f3.e94, f12.e94]; exact hC.1.1)
  have w12 : ¬ wd g q = 12 := w12
  rw [if_neg w12] at hP
  have f12 := f1.trans f2
  have hG2 := hG.K f12
  refine Cal.of (by decide) (Nat.le_of_ble_eq_true rfl) (bX13_qFact_0 (m_takes (d := e + 4) (a := 59) hG2 r2.P (by unfold isW; omega) (fun w13 I3 f3 r3 => ⟨fun z => absurd z (by decide), fun _ => ?_⟩) (fun w13 I3 f3 r3 => ⟨fun _ => ?_, fun z => absurd rfl z⟩)))
  · have w13 : wd g q = 13 := w13
    rw [if_pos w13] at hP
    have hq2 := (adv_le hle).2.2 (tk256 (wd_t w13 (by omega)) hb).1
    have f13 := f12.trans f3
    refine m_qCode (x := 13) (hC.K f13) (by omega) (fun I4 f4 c4 => T_end h16 hP ⟨hf.trans (f13.Q.trans f4.Q), f4.pr r3, c4, ?_, ho, ho6, hv⟩)
    simp; omega
  have w13 : ¬ wd g q = 13 := w13
  rw [if_neg w13] at hP
  have f13 := f12.trans f3
  have hG3 := hG.K f13
  have e52 : I3 0 52 = tko sco := by rw [(hf.trans f13.Q).at (Or.inl rfl)]; exact h52
  have ffr : ∀ q', (pSum g sco m q').1 ≠ 0 → 1 ≤ (pSum g sco m q').1 ∧ (pSum g sco m q').1 < 10 := fun q' z => ⟨by omega, pSum_f q'⟩
  refine m_qSums (sco := sco) (oS := o) (m := m) hG3 hs e52 hv r3.P (hC.K f13) hl hom (fun z I4 f4 r4 c4 l4 _ => ?_) (fun z I4 n f4 l4 hn e4 _ => ?_)
  · rw [if_neg (fun y => y z)] at hP
    have hle4 := r4.le
    have hG4 := hG3.Q f4
    refine ⟨fun _ => ?_, fun y => absurd r4.1 y⟩
    have b60 : bat g (pSum g sco m q).2.1 = 60 ↔ tk g (pSum g sco m q).2.1 = 60 := bat_eq (c := 60) hG (isS_of (by omega))
    have b61 : bat g (pSum g sco m q).2.1 = 61 ↔ tk g (pSum g sco m q).2.1 = 61 := bat_eq (c := 61) hG (isS_of (by omega))
    have b62 : bat g (pSum g sco m q).2.1 = 62 ↔ tk g (pSum g sco m q).2.1 = 62 := bat_eq (c := 62) hG (isS_of (by omega))
    generalize hq2 : (pSum g sco m q).2.1 = q2 at *
    generalize hD : (pSum g sco m q).2.2 = D at *
    refine m_look hG4 r4 (fun I5 f5 r5 => ?_)
    rw [b60, b61, b62]
    have two : ∀ (c x : Nat) (y : Int32), y = nI x → (c = 60 ∨ c = 61 ∨ c = 62) → tk g q2 = c → opC g q2 = x → x ≠ 0 → CalV wM (e + 6) mX13_qSums [.ref 0] (u2 I5 0 2 ((I5 0 2) + 1)) J (fun I13 J14 => (CalV wM (e + 6) mX13_qCode [.ref 0, .int y] I13 J14 (fun I15 J16 => CalV wM (e + 7) mX13_qDropsNots [.ref 0] I15 J16 (kTN e K)))) := by
      intro c x y ey hc ht ho2 hx
      subst ey
      have hq3 := (adv_le hle4).2.2 (tk_q (by omega) ht)
      have hqq := (adv_le (g := g) hle4).1
      rw [ho2, if_neg hx] at hP
      rw [r5.a, nI_1]
      have fu : FrQm I5 (u2 I5 0 2 (nI (q2 + 1))) := FrQm.f (by omega)
      have r6 : Rpr (u2 I5 0 2 (nI (q2 + 1))) g (adv g q2) := r5.sign (hG4.K f5) (isS_of (by omega)) ht (u2_at _ _ _ _) (u2_k (by omega)) (u2_k (by omega))
      have fall : FrQm I0 (u2 I5 0 2 (nI (q2 + 1))) := hf.trans (f13.Q.trans (f4.trans (f5.Q.trans fu)))
      refine m_qSums (sco := sco) (oS := o) (m := m) (C := C ++ D) (hG0.Q fall) hs (by rw [fall.at (Or.inl rfl)]; exact h52) hv r6 ((c4.K f5).f (by omega)) (by simp; omega) hom (fun z2 I7 f7 r7 c7 l7 _ => ?_) (fun z2 I7 n7 f7 l7 hn7 e7 _ => ?_)
      · rw [if_neg (fun y => y z2)] at hP
        have hle7 := r7.le
        have hgd := Gd_sum (sco := sco) (m := m) (adv g q2) hqq z2
        generalize (pSum g sco m (adv g q2)).2.1 = q4 at *
        generalize (pSum g sco m (adv g q2)).2.2 = D2 at *
        refine m_qCode (x := x) c7 (by simp at l7 ⊢; omega) (fun I8 f8 c8 => T_end h16 hP ⟨fall.trans (f7.trans f8.Q), f8.pr r7, by simpa using c8, ?_, ho, ho6, hv⟩)
        simp at l4 ⊢; omega
      · rw [if_pos z2] at hP
        refine m_qCode_b (n := n7) e7 (by omega) (fun I8 f8 e8 => kTN_b (ffr _ z2) hP (fall.trans (f7.trans f8.Q)) ⟨by rw [f8.e5]; exact l7.1, by rw [f8.e6]; exact l7.2⟩ (n := n7 + 1) (by omega) e8)
    refine ⟨fun t => two 60 7 7 rfl (by omega) t (by simp [opC, t]) (by omega), fun n60 => ⟨fun t => two 62 8 8 rfl (by omega) t (by simp [opC, t]) (by omega), fun n62 => ⟨fun t => two 61 9 9 rfl (by omega) t (by simp [opC, t]) (by omega), fun n61 => ?_⟩⟩⟩
    have e0 : opC g q2 = 0 := by simp [opC, n60, n61, n62]
    rw [e0, if_pos rfl] at hP
    rw [r5.a]
    have f15 : FrQm I0 I5 := hf.trans (f13.Q.trans (f4.trans f5.Q))
    exact m_fail (k := 1) r5.1 (fun I6 f6 e5 e6 _ => kTN_b (by omega) hP (f15.trans f6.Q) ⟨e5, e6⟩ (n := (C ++ D).length) (by simp; omega) (by rw [f6.e94, f5.e94]; exact c4.1.1))
  · rw [if_pos z] at hP
    exact ⟨fun y => absurd y (l4.b (ffr _ z)), fun _ => kTN_b (ffr _ z) hP (hf.trans (f13.Q.trans f4)) l4 (n := n) (by omega) e4⟩
end TR

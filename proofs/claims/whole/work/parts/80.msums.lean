/-! the reference: sums -/
def ct : List Nat → Nat
  | [] => 0
  | x :: t => (if isK x = true ∨ x = 60 then 1 else 0) + ct t
def okF : Bool → List Nat → Bool
  | _, [] => true
  | b, x :: t => if x = 60 then b && okF b t else okF (isK x) t
theorem okF_ft {T : List Nat} (h : okF false T = true) : okF true T = true := by
  induction T with
  | nil => rfl
  | cons x t ih =>
    simp only [okF] at h ⊢
    split
    · next z => rw [if_pos z] at h; simp at h
    · next z => rw [if_neg z] at h; exact h
theorem okF_ep {T : List Nat} (h : okF true T = true) : okF false (epT T) = true ∧ ct (epT T) + epN T = ct T ∧ (epT T).length + epN T = T.length ∧ ∀ x ∈ epT T, x ∈ T := by
  induction T with
  | nil => exact ⟨rfl, rfl, rfl, fun x hx => hx⟩
  | cons x t ih =>
    by_cases z : x = 60
    · subst z
      simp only [okF, epT, epN, ct, if_true, Bool.true_and] at h ⊢
      obtain ⟨h1, h2, h3, h4⟩ := ih h
      refine ⟨h1, ?_, ?_, fun y hy => by simp [h4 y hy]⟩
      · rw [if_pos (Or.inr trivial)]; omega
      · simp only [List.length_cons]; omega
    · simp only [okF, epT, epN] at h ⊢
      rw [if_neg z] at h ⊢
      rw [if_neg z]
      simp only [okF]
      rw [if_neg z]
      exact ⟨h, by simp, by simp, fun y hy => hy⟩
theorem okF_dw {T : List Nat} {p : Nat → Bool} (hp : ∀ x, p x = true → isK x = false ∧ x ≠ 60) (h : okF false T = true) : okF false (dw p T) = true ∧ ct (dw p T) = ct T ∧ (tw p T).length + (dw p T).length = T.length ∧ ∀ x ∈ dw p T, x ∈ T := by
  induction T with
  | nil => exact ⟨rfl, rfl, rfl, fun x hx => hx⟩
  | cons x t ih =>
    simp only [dw, tw]
    by_cases z : p x = true
    · rw [if_pos z, if_pos z]
      obtain ⟨k1, k2⟩ := hp x z
      simp only [okF, ct] at h ⊢
      rw [if_neg k2, k1] at h
      obtain ⟨h1, h2, h3, h4⟩ := ih h
      refine ⟨h1, ?_, ?_, fun y hy => by simp [h4 y hy]⟩
      · rw [if_neg (by simp [k1, k2]), h2]; omega
      · simp only [List.length_cons]; omega
    · rw [if_neg z, if_neg z]
      exact ⟨h, rfl, by simp, fun y hy => hy⟩
theorem okF_bl {T : List Nat} (h : okF false T = true) (hb : brk T ≠ 0) : okF true (blw T) = true ∧ ct (blw T) + 1 = ct T ∧ (abv T).length + (blw T).length + 1 = T.length ∧ (∀ x ∈ blw T, x ∈ T) ∧ 20 ≤ brk T ∧ brk T ≤ 24 := by
  induction T with
  | nil => exact absurd rfl hb
  | cons x t ih =>
    simp only [brk, abv, blw] at hb ⊢
    cases z : isK x with
    | true =>
      have hx : 20 ≤ x ∧ x ≤ 24 := by unfold isK at z; simpa using z
      simp only [if_true]
      simp only [okF, ct] at h ⊢
      rw [if_neg (by omega), z] at h
      refine ⟨h, ?_, by simp, fun y hy => by simp [hy], hx.1, hx.2⟩
      rw [if_pos (Or.inl z)]; omega
    | false =>
      rw [z] at hb
      simp only [Bool.false_eq_true, if_false] at hb ⊢
      simp only [okF, ct] at h ⊢
      have n60 : x ≠ 60 := fun y => by rw [if_pos y] at h; simp at h
      rw [if_neg n60, z] at h
      obtain ⟨h1, h2, h3, h4, h5⟩ := ih h hb
      refine ⟨h1, ?_, ?_, fun y hy => by simp [h4 y hy], h5⟩
      · rw [if_neg (by simp [z, n60])]; omega
      · simp only [List.length_cons]; omega
theorem okF_0 {T : List Nat} (h : okF false T = true) (hb : brk T = 0) : ct T = 0 := by
  induction T with
  | nil => rfl
  | cons x t ih =>
    simp only [brk] at hb
    cases z : isK x with
    | true =>
      have hx : 20 ≤ x ∧ x ≤ 24 := by unfold isK at z; simpa using z
      rw [z] at hb
      simp only [if_true] at hb
      omega
    | false =>
      rw [z] at hb
      simp only [Bool.false_eq_true, if_false] at hb
      simp only [okF, ct] at h ⊢
      have n60 : x ≠ 60 := fun y => by rw [if_pos y] at h; simp at h
      rw [if_neg n60, z] at h
      rw [if_neg (by simp [z, n60]), ih h hb]
theorem epN_ct {T : List Nat} : epN T ≤ ct T := by
  induction T with
  | nil => exact Nat.le_refl _
  | cons x t ih =>
    simp only [epN, ct]
    split
    · next z => rw [if_pos (Or.inr z)]; omega
    · omega
theorem kI_eq {x y : Nat} (hx : x < 100) (hy : 1 ≤ y ∧ y < 100) : kI x = nI y ↔ x = y := by
  unfold kI
  split
  · exact ⟨fun z => absurd z.symm (nI_ne_m1 (by omega)), fun z => by omega⟩
  · rw [nI_eq (by omega) (by omega)]
theorem kI_m1 {x : Nat} (hx : x < 100) : kI x = -1 ↔ x = 0 := by
  unfold kI
  split
  · next z => exact ⟨fun _ => z, fun _ => rfl⟩
  · next z => exact ⟨fun y => absurd y (nI_ne_m1 (by omega)), fun y => absurd y z⟩
theorem brk_r (T : List Nat) : brk T = 0 ∨ (20 ≤ brk T ∧ brk T ≤ 24) := by
  induction T with
  | nil => exact Or.inl rfl
  | cons x t ih =>
    simp only [brk]
    split
    · next z => right; unfold isK at z; simpa using z
    · exact ih
theorem FrQm.at {I I' : Ii} (h : FrQm I I') {k : Nat} (hk : k = 52 ∨ k = 3) : I' 0 k = I 0 k := h.2 k (by omega) (by omega) (by omega) (by omega) (by omega) (by omega) (by omega) (by omega) (by omega)
theorem FrK.e98 {I I' : Ii} (h : FrK I I') : I' 0 98 = I 0 98 := h.2 98 (by omega) (by omega) (by omega) (by omega) (by omega)
theorem FrPm.e98 {I I' : Ii} (h : FrPm I I') : I' 0 98 = I 0 98 := h.2 98 (by omega) (by omega) (by omega)
theorem FrPm.e2 {I I' : Ii} (h : FrPm I I') : I' 0 2 = I 0 2 := h.2 2 (by omega) (by omega) (by omega)
theorem FrPm.e4 {I I' : Ii} (h : FrPm I I') : I' 0 4 = I 0 4 := h.2 4 (by omega) (by omega) (by omega)
theorem FrPm.e5 {I I' : Ii} (h : FrPm I I') : I' 0 5 = I 0 5 := h.2 5 (by omega) (by omega) (by omega)
theorem FrPm.e6 {I I' : Ii} (h : FrPm I I') : I' 0 6 = I 0 6 := h.2 6 (by omega) (by omega) (by omega)
theorem FrK.e94 {I I' : Ii} (h : FrK I I') : I' 0 94 = I 0 94 := h.2 94 (by omega) (by omega) (by omega) (by omega) (by omega)
theorem tk_q {g : Sx} {q c : Nat} (hc : c < 256) (h : tk g q = c) : q < g 0 0 := by
  unfold tk at h
  split at h
  · omega
  · omega
theorem Rlk.sign {I I' : Ii} {g : Sx} {q c : Nat} (h : Rlk I g q) (hG : TxG I g) (hc : isS c) (ht : tk g q = c) (h2 : I' 0 2 = nI (q + 1)) (h4 : I' 0 4 = I 0 4) (h5 : I' 0 5 = I 0 5) : Rpr I' g (adv g q) := by
  obtain ⟨hq, e⟩ := (tk_sg hc (fun k hk => (hG.2.1 k hk).2)).mp ht
  exact ⟨by rw [h5]; exact h.1, q + 1, h.2.1.sign hq hc e h2 h4, (adv_s hc hq e).symm⟩
theorem isS_of {c : Nat} (h : c = 40 ∨ c = 41 ∨ c = 42 ∨ c = 43 ∨ c = 44 ∨ c = 45 ∨ c = 47 ∨ c = 60 ∨ c = 61 ∨ c = 62 ∨ c = 91 ∨ c = 93) : isS c := by
  unfold isS
  rcases h with rfl | rfl | rfl | rfl | rfl | rfl | rfl | rfl | rfl | rfl | rfl | rfl <;> decide
section SQ
variable (g : Sx) (sco e oS : Nat) (U : List Nat) (I0 : Ii) (J : Jj) (was : Int32) (K : KV)
def SMq (b : Bool) (I : Ii) (q : Nat) (C T : List Nat) (o : Nat) : Prop := FrQm I0 I ∧ Rpr I g q ∧ CS I C (T ++ U) o ∧ I 0 98 = nI U.length ∧ C.length + (T ++ U).length ≤ q ∧ o = oS + ct T ∧ o ≤ 6 ∧ (∀ x ∈ T, x ≤ 60) ∧ okF b T = true
def kSG : KI := fun x8 I6 J7 => ((x8 = 0) → GoV wM (e + 6) mX13_qSums 15 [(0, .ref 0), (1, .int was), (2, .int 0)] [] I6 J7 K) ∧ ((¬ x8 = 0) → GoV wM (e + 6) mX13_qSums 15 [(0, .ref 0), (1, .int was), (2, .int 1)] [] I6 J7 K)
def kSP : KV := fun I3 J4 => ((¬ (I3 0 5) = 0) → GoV wM (e + 6) mX13_qSums 15 [(0, .ref 0), (1, .int was), (2, .int 0)] [] I3 J4 K) ∧ (((I3 0 5) = 0) → CalI wM (e + 5) mX13_qGoesOn [.ref 0] I3 J4 (kSG e was K))
def PTm : Mc := fun q C T o => ∀ I, SMq g oS U I0 true I q C T o → GoV wM (e + 5) mX13_qPartTold 2 [(0, .ref 0), (1, .int 1)] [] I J (kSP e was K)
def GOm : Mc := fun q C T o => ∀ I, SMq g oS U I0 false I q C T o → GoI wM (e + 5) mX13_qGoesOn 0 [(0, .ref 0)] [] I J (kSG e was K)
def FTm (k p : Nat) : Prop := ∀ I n, FrQm I0 I → Flm I k p → n ≤ 1640 → I 0 94 = nI n → K (u2 I 0 98 was) J
def ENm (q : Nat) (C : List Nat) : Prop := ∀ I, FrQm I0 I → Rpr I g q → CS I C U oS → C.length + U.length ≤ q → K (u2 I 0 98 was) J
end SQ
section SR
variable {g : Sx} {sco e oS : Nat} {U : List Nat} {I0 : Ii} {J : Jj} {was : Int32} {K : KV}
theorem kSP_b {I : Ii} {k p n : Nat} (hk : 1 ≤ k ∧ k < 10) (h : FTm I0 J was K k p) (hf : FrQm I0 I) (hF : Flm I k p) (hn : n ≤ 1640) (h94 : I 0 94 = nI n) : kSP e was K I J := by
  have h5 : ¬ I 0 5 = 0 := by rw [hF.1, show (0 : Int32) = nI 0 from rfl, nI_eq (by omega) (by omega)]; omega
  exact ⟨fun _ => bX13_qSums_15 ⟨fun _ => bX13_qSums_53 ⟨fun _ => h I n hf hF hn h94, fun z => absurd z h5⟩, fun z => absurd rfl z⟩, fun z => absurd z h5⟩
theorem kSG_b {I : Ii} {k p n : Nat} (hk : 1 ≤ k ∧ k < 10) (h : FTm I0 J was K k p) (hf : FrQm I0 I) (hF : Flm I k p) (hn : n ≤ 1640) (h94 : I 0 94 = nI n) : kSG e was K 0 I J := by
  have h5 : ¬ I 0 5 = 0 := by rw [hF.1, show (0 : Int32) = nI 0 from rfl, nI_eq (by omega) (by omega)]; omega
  exact ⟨fun _ => bX13_qSums_15 ⟨fun _ => bX13_qSums_53 ⟨fun _ => h I n hf hF hn h94, fun z => absurd z h5⟩, fun z => absurd rfl z⟩, fun z => absurd rfl z⟩
theorem pt_b {I : Ii} {k p n : Nat} (hk : 1 ≤ k ∧ k < 10) (h : FTm I0 J was K k p) (hf : FrQm I0 I) (hF : Flm I k p) (hn : n ≤ 1640) (h94 : I 0 94 = nI n) : GoV wM (e + 5) mX13_qPartTold 2 [(0, .ref 0), (1, .int 1)] [] I J (kSP e was K) := by
  have h5 : ¬ I 0 5 = 0 := by rw [hF.1, show (0 : Int32) = nI 0 from rfl, nI_eq (by omega) (by omega)]; omega
  exact bX13_qPartTold_2 ⟨fun z => absurd z (by decide), fun _ => ⟨fun _ => kSP_b hk h hf hF hn h94, fun z => absurd z h5⟩⟩
theorem kSG_1 {I : Ii} {q o : Nat} {C T : List Nat} (h : PTm g e oS U I0 J was K q C T o) (hS : SMq g oS U I0 true I q C T o) : kSG e was K 1 I J :=
  ⟨fun z => absurd z (by decide), fun _ => bX13_qSums_15 ⟨fun z => absurd z (by decide), fun _ => ⟨fun z => absurd hS.2.1.1 z, fun _ => Cal.of (by decide) (Nat.le_of_ble_eq_true rfl) (bX13_qPartTold_0 (h I hS))⟩⟩⟩
theorem kSG_e {I : Ii} {q : Nat} {C T : List Nat} (h : ENm g oS U I0 J was K q (C ++ T)) (hS : SMq g oS U I0 false I q C T oS) (h16 : g 0 0 ≤ 1600) : kSG e was K 0 I J := by
  refine ⟨fun _ => bX13_qSums_15 ⟨fun _ => ?_, fun z => absurd rfl z⟩, fun z => absurd rfl z⟩
  obtain ⟨hf, hr, hC, h98, hl, -⟩ := hS
  have hq := hr.le
  have key : ∀ (T C : List Nat) (I1 : Ii), FrPm I I1 → CS I1 C (T ++ U) oS → C.length + (T ++ U).length ≤ q → (∀ I', FrPm I I' → CS I' (C ++ T) U oS → K (u2 I' 0 98 was) J) → GoV wM (e + 6) mX13_qSums 53 [(0, .ref 0), (1, .int was)] [] I1 J K := by
    intro T
    induction T with
    | nil =>
      intro C I1 f1 c1 l1 k
      refine bX13_qSums_53 ⟨fun z => absurd (by rw [f1.e5]; exact hr.1) z, fun _ => ?_⟩
      rw [c1.2.1.1, f1.e98, h98]
      simp only [List.nil_append] at l1 ⊢
      exact ⟨fun _ => k I1 f1 (by simpa using c1), fun z => absurd (nI_le (by omega) (by omega)) z⟩
    | cons x t ih =>
      intro C I1 f1 c1 l1 k
      refine bX13_qSums_53 ⟨fun z => absurd (by rw [f1.e5]; exact hr.1) z, fun _ => ?_⟩
      rw [c1.2.1.1, f1.e98, h98]
      simp only [List.cons_append, List.length_cons] at c1 l1 ⊢
      have hul : U.length ≤ (t ++ U).length := by simp
      refine ⟨fun z => absurd ((nI_leI (by omega) (by omega)).mp z) (by omega), fun _ => m_qDrops c1 (by omega) (by omega) (fun I2 f2 c2 => ?_)⟩
      exact ih (C ++ [x]) I2 (f1.trans f2) c2 (by simp at l1 ⊢; omega) (fun I' f' c' => k I' f' (by simpa using c'))
  exact key T C I (FrPm.refl I) hC hl (fun I' f' c' => h I' (hf.trans f'.Q) (f'.pr hr) c' (by simp at hl ⊢; omega))
/-- a part's end -/
theorem S_end {I : Ii} {q q' o x : Nat} {C T : List Nat} (hg : GE (GOm g e oS U I0 J was K) q' (C ++ [x]) T o) (hf : FrQm I0 I) (hr : Rpr I g q') (hC : CS I C (T ++ U) o) (h98 : I 0 98 = nI U.length) (hl : C.length + (T ++ U).length ≤ q) (hq : q < q') (h16 : g 0 0 ≤ 1600) (ho : o = oS + ct T) (ho6 : o ≤ 6) (hv : ∀ x ∈ T, x ≤ 60) (hk : okF true T = true) : CalV wM (e + 4) mX13_qCode [.ref 0, .int (nI x)] I J (fun I10 J11 => CalV wM (e + 4) mX13_qEndsPart [.ref 0] I10 J11 (fun I12 J13 => kSP e was K I12 J13)) := by
  have hle := hr.le
  refine m_qCode hC (by omega) (fun I1 f1 c1 => ?_)
  have hep := epN_ct (T := T)
  refine m_qEndsPart (by rw [f1.e5]; exact hr.1) c1 (by rw [f1.e98]; exact h98) (by simp at hl ⊢; omega) hv (by omega) (fun I2 f2 c2 => ?_)
  have f12 := f1.trans f2
  obtain ⟨o1, o2, o3, o4⟩ := okF_ep hk
  refine ⟨fun z => absurd (by rw [f12.e5]; exact hr.1) z, fun _ => Cal.of (by decide) (Nat.le_of_ble_eq_true rfl) (hg I2 ⟨hf.trans f12.Q, f12.pr hr, c2, by rw [f12.e98]; exact h98, ?_, by omega, by omega, fun y hy => hv y (o4 y hy), o1⟩)⟩
  simp at hl ⊢
  omega
end SR

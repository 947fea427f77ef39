/-! the reference: its pile of waiting signs and its codes -/
def Pil (I : Ii) : List Nat → Prop
  | [] => True
  | x :: t => I 76 t.length = nI x ∧ Pil I t
def Cod (I : Ii) (C : List Nat) : Prop := I 0 94 = nI C.length ∧ ∀ i, i < C.length → I 75 i = nI (C.getD i 0)
def Stk (I : Ii) (R : List Nat) : Prop := I 0 96 = nI R.length ∧ Pil I R
def FrQm (I I' : Ii) : Prop := (∀ a, a ≠ 0 → a ≠ 75 → a ≠ 76 → I' a = I a) ∧ ∀ k, k ≠ 2 → k ≠ 4 → (k = 5 → I' 0 5 = 0) → (k = 6 → I' 0 5 = 0) → k ≠ 38 → k ≠ 94 → k ≠ 96 → k ≠ 97 → k ≠ 98 → I' 0 k = I 0 k
theorem FrQm.refl (I : Ii) : FrQm I I := ⟨fun _ _ _ _ => rfl, fun _ _ _ _ _ _ _ _ _ _ => rfl⟩
theorem FrQm.trans {I I1 I2 : Ii} (h1 : FrQm I I1) (h2 : FrQm I1 I2) : FrQm I I2 := ⟨fun a ha hb hc => (h2.1 a ha hb hc).trans (h1.1 a ha hb hc), fun k a b c d e f g h i => (h2.2 k a b c d e f g h i).trans (h1.2 k a b (fun z => (h2.2 5 (by omega) (by omega) (fun _ => c z) (by omega) (by omega) (by omega) (by omega) (by omega) (by omega)).symm.trans (c z)) (fun z => (h2.2 5 (by omega) (by omega) (fun _ => d z) (by omega) (by omega) (by omega) (by omega) (by omega) (by omega)).symm.trans (d z)) e f g h i)⟩
theorem FrQm.e6 {I I' : Ii} (h : FrQm I I') (h5 : I' 0 5 = 0) : I' 0 6 = I 0 6 := h.2 6 (by omega) (by omega) (by omega) (fun _ => h5) (by omega) (by omega) (by omega) (by omega) (by omega)
theorem FrK.Q {I I' : Ii} (h : FrK I I') : FrQm I I' := ⟨fun a ha _ _ => h.1 a ha, fun k a b c d e _ _ _ _ => h.2 k a b c d e⟩
theorem TxG.Q {I I' : Ii} {g : Sx} (h : TxG I g) (hk : FrQm I I') : TxG I' g := by
  refine ⟨by rw [hk.2 3 (by omega) (by omega) (by omega) (by omega) (by omega) (by omega) (by omega) (by omega) (by omega)]; exact h.1, by rw [hk.1 1 (by omega) (by omega) (by omega)]; exact h.2.1, fun a ha k hk' => ?_⟩
  rw [hk.1 a (by omega) (by omega) (by omega)]; exact h.2.2 a ha k hk'
theorem FrQm.f {I : Ii} {k : Nat} {v : Int32} (h : k = 2 ∨ k = 4 ∨ k = 38 ∨ k = 94 ∨ k = 96 ∨ k = 97 ∨ k = 98) : FrQm I (u2 I 0 k v) := ⟨fun a ha _ _ => u2_row ha, fun j _ _ _ _ _ _ _ _ _ => u2_k (by omega)⟩
theorem FrQm.r {I : Ii} {a k : Nat} {v : Int32} (h : a = 75 ∨ a = 76) : FrQm I (u2 I a k v) := ⟨fun b _ _ _ => u2_row (by omega), fun j _ _ _ _ _ _ _ _ _ => by rw [u2_row (by omega)]⟩
theorem Pil.eq {I I' : Ii} {R : List Nat} (h : Pil I R) (he : ∀ i, i < R.length → I' 76 i = I 76 i) : Pil I' R := by
  induction R with
  | nil => trivial
  | cons x t ih => exact ⟨by rw [he t.length (by simp)]; exact h.1, ih h.2 (fun i hi => he i (by simp only [List.length_cons]; omega))⟩
theorem Rpr.eq {I I' : Ii} {g : Sx} {q : Nat} (h : Rpr I g q) (h2 : I' 0 2 = I 0 2) (h4 : I' 0 4 = I 0 4) (h5 : I' 0 5 = I 0 5) : Rpr I' g q := by
  obtain ⟨e, a, ⟨x1, x2, c, x3, x4⟩, e2⟩ := h
  exact ⟨by rw [h5]; exact e, a, ⟨by rw [h2]; exact x1, x2, c, by rw [h4]; exact x3, x4⟩, e2⟩
theorem Rlk.eq {I I' : Ii} {g : Sx} {q : Nat} (h : Rlk I g q) (h2 : I' 0 2 = I 0 2) (h4 : I' 0 4 = I 0 4) (h5 : I' 0 5 = I 0 5) : Rlk I' g q := by
  obtain ⟨e, ⟨x1, x2, c, x3, x4⟩, e2⟩ := h
  exact ⟨by rw [h5]; exact e, ⟨by rw [h2]; exact x1, x2, c, by rw [h4]; exact x3, x4⟩, e2⟩
theorem Rlk.a {I : Ii} {g : Sx} {q : Nat} (h : Rlk I g q) : I 0 2 = nI q := h.2.1.1
/-- codes and pile together -/
def CS (I : Ii) (C R : List Nat) (o : Nat) : Prop := Cod I C ∧ Stk I R ∧ I 0 97 = nI o
theorem CS.K {I I' : Ii} {C R : List Nat} {o : Nat} (h : CS I C R o) (hk : FrK I I') : CS I' C R o := by
  obtain ⟨⟨h1, h2⟩, ⟨h3, h4⟩, h5⟩ := h
  refine ⟨⟨by rw [hk.2 94 (by omega) (by omega) (by omega) (by omega) (by omega)]; exact h1, fun i hi => by rw [hk.1 75 (by omega)]; exact h2 i hi⟩, ⟨by rw [hk.2 96 (by omega) (by omega) (by omega) (by omega) (by omega)]; exact h3, h4.eq (fun i _ => by rw [hk.1 76 (by omega)])⟩, by rw [hk.2 97 (by omega) (by omega) (by omega) (by omega) (by omega)]; exact h5⟩
theorem CS.f {I : Ii} {C R : List Nat} {o k : Nat} {v : Int32} (h : CS I C R o) (hk : k ≠ 94 ∧ k ≠ 96 ∧ k ≠ 97) : CS (u2 I 0 k v) C R o := by
  obtain ⟨⟨h1, h2⟩, ⟨h3, h4⟩, h5⟩ := h
  refine ⟨⟨by rw [u2_k (by omega)]; exact h1, fun i hi => by rw [u2_row (by omega)]; exact h2 i hi⟩, ⟨by rw [u2_k (by omega)]; exact h3, h4.eq (fun i _ => by rw [u2_row (by omega)])⟩, by rw [u2_k (by omega)]; exact h5⟩
theorem CS.o {I : Ii} {C R : List Nat} {o o' : Nat} (h : CS I C R o) : CS (u2 I 0 97 (nI o')) C R o' := by
  obtain ⟨⟨h1, h2⟩, ⟨h3, h4⟩, h5⟩ := h
  refine ⟨⟨by rw [u2_k (by omega)]; exact h1, fun i hi => by rw [u2_row (by omega)]; exact h2 i hi⟩, ⟨by rw [u2_k (by omega)]; exact h3, h4.eq (fun i _ => by rw [u2_row (by omega)])⟩, u2_at _ _ _ _⟩
/-- a push -/
theorem CS.push {I : Ii} {C R : List Nat} {o x : Nat} (h : CS I C R o) : CS (u2 (u2 I 76 R.length (nI x)) 0 96 (nI (R.length + 1))) C (x :: R) o := by
  obtain ⟨⟨h1, h2⟩, ⟨h3, h4⟩, h5⟩ := h
  refine ⟨⟨by rw [u2_k (by omega), u2_row (by omega)]; exact h1, fun i hi => by rw [u2_row (by omega), u2_row (by omega)]; exact h2 i hi⟩, ⟨u2_at _ _ _ _, by rw [u2_row (by omega)]; exact u2_at _ _ _ _, h4.eq (fun i hi => by rw [u2_row (by omega), u2_k (by omega)])⟩, by rw [u2_k (by omega), u2_row (by omega)]; exact h5⟩
/-- the top is taken away -/
theorem CS.pop {I : Ii} {C R : List Nat} {o x : Nat} (h : CS I C (x :: R) o) : CS (u2 I 0 96 (nI R.length)) C R o := by
  obtain ⟨⟨h1, h2⟩, ⟨h3, h4⟩, h5⟩ := h
  exact ⟨⟨by rw [u2_k (by omega)]; exact h1, fun i hi => by rw [u2_row (by omega)]; exact h2 i hi⟩, ⟨u2_at _ _ _ _, h4.2.eq (fun i _ => by rw [u2_row (by omega)])⟩, by rw [u2_k (by omega)]; exact h5⟩
theorem CS.top {I : Ii} {C R : List Nat} {o x y : Nat} (h : CS I C (x :: R) o) : CS (u2 I 76 R.length (nI y)) C (y :: R) o := by
  obtain ⟨⟨h1, h2⟩, ⟨h3, h4⟩, h5⟩ := h
  exact ⟨⟨by rw [u2_row (by omega)]; exact h1, fun i hi => by rw [u2_row (by omega)]; exact h2 i hi⟩, ⟨by rw [u2_row (by omega)]; exact h3, u2_at _ _ _ _, h4.2.eq (fun i hi => u2_k (by omega))⟩, by rw [u2_row (by omega)]; exact h5⟩
theorem CS.code {I : Ii} {C R : List Nat} {o x : Nat} (h : CS I C R o) : CS (u2 (u2 I 75 C.length (nI x)) 0 94 (nI (C.length + 1))) (C ++ [x]) R o := by
  obtain ⟨⟨h1, h2⟩, ⟨h3, h4⟩, h5⟩ := h
  refine ⟨⟨by rw [u2_at]; simp, fun i hi => ?_⟩, ⟨by rw [u2_k (by omega), u2_row (by omega)]; exact h3, h4.eq (fun i hi => by rw [u2_row (by omega), u2_row (by omega)])⟩, by rw [u2_k (by omega), u2_row (by omega)]; exact h5⟩
  rw [u2_row (by omega)]
  simp only [List.length_append, List.length_singleton] at hi
  by_cases e : i = C.length
  · subst e
    rw [u2_at]
    simp [List.getD_eq_getElem?_getD]
  · rw [u2_k e, h2 i (by omega)]
    rw [List.getD_eq_getElem?_getD, List.getD_eq_getElem?_getD, List.getElem?_append_left (by omega)]
/-- what a step of the grammar leaves as it was, beyond codes and pile -/
def FrPm (I I' : Ii) : Prop := (∀ a, a ≠ 0 → a ≠ 75 → a ≠ 76 → I' a = I a) ∧ ∀ k, k ≠ 94 → k ≠ 96 → k ≠ 97 → I' 0 k = I 0 k
theorem FrPm.refl (I : Ii) : FrPm I I := ⟨fun _ _ _ _ => rfl, fun _ _ _ _ => rfl⟩
theorem FrPm.trans {I I1 I2 : Ii} (h1 : FrPm I I1) (h2 : FrPm I1 I2) : FrPm I I2 := ⟨fun a ha hb hc => (h2.1 a ha hb hc).trans (h1.1 a ha hb hc), fun k a b c => (h2.2 k a b c).trans (h1.2 k a b c)⟩
theorem FrPm.Q {I I' : Ii} (h : FrPm I I') : FrQm I I' := ⟨h.1, fun k _ _ _ _ _ a b c _ => h.2 k a b c⟩
theorem FrPm.f {I : Ii} {k : Nat} {v : Int32} (h : k = 94 ∨ k = 96 ∨ k = 97) : FrPm I (u2 I 0 k v) := ⟨fun a ha _ _ => u2_row ha, fun j _ _ _ => u2_k (by omega)⟩
theorem FrPm.r {I : Ii} {a k : Nat} {v : Int32} (h : a = 75 ∨ a = 76) : FrPm I (u2 I a k v) := ⟨fun b _ _ _ => u2_row (by omega), fun j _ _ _ => by rw [u2_row (by omega)]⟩
theorem FrPm.pr {I I' : Ii} {g : Sx} {q : Nat} (h : FrPm I I') (hr : Rpr I g q) : Rpr I' g q := hr.eq (h.2 2 (by omega) (by omega) (by omega)) (h.2 4 (by omega) (by omega) (by omega)) (h.2 5 (by omega) (by omega) (by omega))
theorem FrPm.lk {I I' : Ii} {g : Sx} {q : Nat} (h : FrPm I I') (hr : Rlk I g q) : Rlk I' g q := hr.eq (h.2 2 (by omega) (by omega) (by omega)) (h.2 4 (by omega) (by omega) (by omega)) (h.2 5 (by omega) (by omega) (by omega))
section MQ
variable {d : Nat} {I : Ii} {J : Jj} {C R : List Nat} {o : Nat}
theorem nI_p1 {n : Nat} (h : 1 ≤ n) : nI n - 1 = nI (n - 1) := by rw [show (1 : Int32) = nI 1 from rfl, nI_sub h]
theorem m_qCode {x : Nat} {K : KV} (hC : CS I C R o) (hl : C.length < 1700) (h : ∀ I', FrPm I I' → CS I' (C ++ [x]) R o → K I' J) : CalV wM d mX13_qCode [.ref 0, .int (nI x)] I J K := by
  refine Cal.of (by decide) (Nat.le_of_ble_eq_true rfl) (bX13_qCode_0 ?_)
  rw [hC.1.1, nI_clamp (by omega)]
  refine ⟨vp_in_nI (by omega) (by omega), fun I2 e => ?_⟩
  subst e
  rw [show u2 I 75 C.length (nI x) 0 94 = nI C.length by rw [u2_row (by omega)]; exact hC.1.1, nI_1]
  exact h _ ((FrPm.r (Or.inl rfl)).trans (FrPm.f (Or.inl rfl))) hC.code
/-- a code put down after a fault -/
theorem m_qCode_b {x : Int32} {n : Nat} {K : KV} (hn : I 0 94 = nI n) (hl : n < 1700) (h : ∀ I', FrPm I I' → I' 0 94 = nI (n + 1) → K I' J) : CalV wM d mX13_qCode [.ref 0, .int x] I J K := by
  refine Cal.of (by decide) (Nat.le_of_ble_eq_true rfl) (bX13_qCode_0 ?_)
  rw [hn, nI_clamp (by omega)]
  refine ⟨vp_in_nI (by omega) (by omega), fun I2 e => ?_⟩
  subst e
  rw [show u2 I 75 n x 0 94 = nI n by rw [u2_row (by omega)]; exact hn, nI_1]
  exact h _ ((FrPm.r (Or.inl rfl)).trans (FrPm.f (Or.inl rfl))) (u2_at _ _ _ _)
theorem m_qDrops {x : Nat} {K : KV} (hC : CS I C (x :: R) o) (hl : C.length < 1700) (hr : R.length < 1700) (h : ∀ I', FrPm I I' → CS I' (C ++ [x]) R o → K I' J) : CalV wM (d + 1) mX13_qDrops [.ref 0] I J K := by
  refine Cal.of (by decide) (Nat.le_of_ble_eq_true rfl) (bX13_qDrops_0 (fun I1 e => ?_))
  rw [hC.2.1.1, List.length_cons, nI_p1 (by omega), Nat.add_sub_cancel] at e
  have hC1 : CS I1 C R o := by rw [e]; exact hC.pop
  have ex : I1 76 R.length = nI x := by rw [e, u2_row (by omega)]; exact hC.2.1.2.1
  rw [hC1.2.1.1, nI_clamp (by omega), ex]
  exact ⟨vp_in_nI (by omega) (by omega), m_qCode hC1 hl (fun I2 hf h2 => h I2 (FrPm.trans (by rw [e]; exact FrPm.f (by omega)) hf) h2)⟩
theorem m_qIsOn {y : Nat} {K : KI} (hC : CS I C R o) (hr : R.length < 1700) (hv : ∀ x ∈ R, x ≤ 60) (hy : y < 100) (h : K (b01 (decide (R.head? = some y))) I J) : CalI wM d mX13_qIsOn [.ref 0, .int (nI y)] I J K := by
  refine Cal.of (by decide) (Nat.le_of_ble_eq_true rfl) (bX13_qIsOn_0 ?_)
  cases R with
  | nil =>
    rw [hC.2.1.1]
    rw [show decide (([] : List Nat).head? = some y) = false from decide_eq_false (by simp)] at h
    exact ⟨fun _ => h, fun z => absurd (by decide) z⟩
  | cons x t =>
    have hx : x ≤ 60 := hv x (by simp)
    simp only [List.length_cons] at hr
    rw [hC.2.1.1, List.length_cons, nI_p1 (by omega), Nat.add_sub_cancel, nI_clamp (by omega), hC.2.1.2.1, nI_eq (by omega) (by omega)]
    refine ⟨fun z => absurd ((nI_leI (b := 0) (by omega) (by omega)).mp z) (by omega), fun _ => ⟨vp_in_nI (by omega) (by omega), fun z => ?_, fun z => ?_⟩⟩
    · rw [show decide ((x :: t).head? = some y) = false from decide_eq_false (by simpa using z)] at h; exact h
    · rw [show decide ((x :: t).head? = some y) = true from decide_eq_true (by simpa using z)] at h; exact h
theorem m_qIsBracket {x : Nat} {K : KI} (hx : x < 2 ^ 31) (h : K (b01 (isK x)) I J) : CalI wM d mX13_qIsBracket [.int (nI x)] I J K := by
  refine Cal.of (by decide) (Nat.le_of_ble_eq_true rfl) (bX13_qIsBracket_0 ⟨fun z => ?_, fun z => ⟨fun z2 => ?_, fun z2 => ?_⟩⟩)
  · have := (nI_ltI (b := 20) hx (by decide)).mp z
    rw [show isK x = false by unfold isK; exact decide_eq_false (by omega)] at h; exact h
  · have := (nI_ltI (a := 24) (by decide) hx).mp z2
    rw [show isK x = false by unfold isK; exact decide_eq_false (by omega)] at h; exact h
  · have h1 : ¬ x < 20 := fun y => z (nI_lt (b := 20) y (by decide))
    have h2 : ¬ 24 < x := fun y => z2 (nI_lt (a := 24) y hx)
    rw [show isK x = true by unfold isK; exact decide_eq_true (by omega)] at h; exact h
end MQ

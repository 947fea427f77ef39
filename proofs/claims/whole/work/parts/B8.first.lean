/-! both at the start are the same -/
def sc0 : Sx := fun a k => if a = 0 ∧ k = 2 then 10 else if a = 0 ∧ k = 3 then 3 else 0
def g00 : Sx := fun a k => if a = 0 ∧ k = 5 then 1 else 0
def s00 : Sx := fun _ _ => 0
def IX0 : Ii := iE 0 201 (fun _ _ => 0)
def IM0 : Ii := rs2 FM 79 0
def JM0 : Jj := w2 (fun _ _ => 0) 0 67 1
theorem WFS0 : WFS sc0 s00 := by unfold WFS; decide
theorem acy0 : acy s00 := by unfold acy; decide
theorem LOK0 : LOK (fun _ => []) := fun w _ => ⟨Or.inl rfl, fun c hc => absurd hc List.not_mem_nil⟩
theorem EnC0 : EnC IX0 3 sc0 (fun _ => []) := by
  refine ⟨by decide, by decide, by decide, by decide, by decide, fun k hk => absurd hk (Nat.not_lt_zero k), fun k hk => absurd hk (Nat.not_lt_zero k), fun k hk => ⟨0, 0, ?_, ?_, rfl, by decide, fun i hi => absurd hi (Nat.not_lt_zero i)⟩, LOK0⟩
  · have : ∀ k, k < 3 → IX0 (3 + 5 + 2) k = nI 0 := by decide
    exact this k hk
  · have : ∀ k, k < 3 → IX0 (3 + 5 + 3) k = nI 0 := by decide
    exact this k hk
theorem EnS0 : EnS IX0 19 s00 := by unfold EnS; decide
theorem EnX0 : EnX IX0 sc0 (fun _ => []) s00 (fun _ => s00) g00 := by
  refine ⟨⟨EnC0, EnS0, WFS0, by decide⟩, acy0, ⟨by decide, fun k hk => absurd hk (Nat.not_lt_zero k)⟩, ⟨by decide, fun k hk => absurd hk (Nat.not_lt_zero k)⟩, by decide, by decide, ⟨by decide, fun k hk => absurd hk (Nat.not_lt_zero k)⟩, by decide, ⟨by decide, by decide, by decide⟩, 0, by decide, by decide, fun i hi => absurd hi (Nat.not_lt_zero i)⟩
theorem EnMC0 : EnMC IM0 JM0 sc0 (fun _ => []) := by
  refine ⟨by decide +kernel, by decide +kernel, by decide +kernel, by decide +kernel, by decide +kernel, fun k hk => absurd hk (Nat.not_lt_zero k), fun k hk => absurd hk (Nat.not_lt_zero k), fun k hk => Or.inl ⟨rfl, ?_⟩, LOK0⟩
  have : ∀ k, k < 3 → IM0 39 (3 + k) = -1 := by decide +kernel
  exact this k hk
theorem EnWo0 : EnWo IM0 := by
  have h : ∀ a, a < 75 → ((3 ≤ a ∧ a ≤ 30) ∨ (50 ≤ a ∧ a ≤ 74)) → ∀ k, k < (wM.1 a).2 → IM0 a k = nI (wch (wpl a) k) := by decide +kernel
  exact fun a ha => h a (by omega) ha
theorem EnM0 : EnM IM0 JM0 sc0 (fun _ => []) s00 (fun _ => s00) g00 := by
  refine ⟨EnMC0, ⟨⟨by decide +kernel, fun p hp => absurd hp (Nat.not_lt_zero p)⟩, WFS0, by decide, by decide, by decide⟩, ⟨by decide, acy0⟩, ⟨by decide +kernel, fun k hk => absurd hk (Nat.not_lt_zero k)⟩, by decide +kernel, ⟨by decide +kernel, fun k hk => absurd hk (Nat.not_lt_zero k)⟩, ⟨by decide +kernel, fun k hk => absurd hk (Nat.not_lt_zero k)⟩, by decide +kernel, by decide +kernel, ⟨by decide +kernel, fun k hk => absurd hk (Nat.not_lt_zero k)⟩, ⟨by decide +kernel, by decide⟩, ⟨by decide +kernel, 0, by decide, by decide +kernel, fun i hi => absurd hi (Nat.not_lt_zero i)⟩, EnWo0⟩
theorem px_all : ∀ a, a < 201 → pE 20 0 201 (fun _ _ => none) a = wX.2.2 a := by
  intro a ha
  show (if a < 0 then _ else if a < 201 then PXw 20 a else _) = _
  rw [if_neg (by omega), if_pos ha]
  unfold PXw
  by_cases e : a = 31
  · subst e
    rw [if_pos rfl]
    funext j
    show (if j < 20 then some (81 + 6 * j) else none) = (z_PXl.getD 31 []).getD j none
    by_cases e2 : j < 20
    · have : ∀ j, j < 20 → (if j < 20 then some (81 + 6 * j) else none) = (z_PXl.getD 31 []).getD j none := by decide
      exact this j e2
    · rw [if_neg e2, List.getD_eq_getElem?_getD, List.getElem?_eq_none (Nat.le_trans (show (z_PXl.getD 31 []).length ≤ 20 by decide) (Nat.le_of_not_lt e2))]
      rfl
  · rw [if_neg e]

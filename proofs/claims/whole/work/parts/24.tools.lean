/-! numbers for the tests: what omega can read -/
theorem t_bq (n j : Nat) : (nI (bq n j)).toInt = (bq n j : Int) := nI_toInt (by have := bq01 n j; omega)
theorem t_pc8 (n : Nat) : (nI (pc8 n)).toInt = (pc8 n : Int) := nI_toInt (by have := pc8_le n; omega)
theorem t_bel (s : Sx) (p f : Nat) : (nI (bel s p f)).toInt = (bel s p f : Int) := nI_toInt (by have := bel3 s p f; omega)
theorem t_mI {c : Nat} (h : c < 2 ^ 31) : (mI c).toInt = (c : Int) - 1 := by
  unfold mI
  split
  · next e => subst e; decide
  · next e => rw [nI_toInt (by omega)]; omega
theorem t_ite {c : Prop} [Decidable c] (a b : Int32) : (if c then a else b).toInt = if c then a.toInt else b.toInt := by split <;> rfl
theorem t_dec (b : Bool) (x y : Int) : (if b = true then x else y) = (if b then x else y) := rfl
theorem t_m1 : (-1 : Int32).toInt = -1 := by decide
theorem t_0 : (0 : Int32).toInt = 0 := by decide
theorem t_1 : (1 : Int32).toInt = 1 := by decide
theorem t_2 : (2 : Int32).toInt = 2 := by decide
theorem t_3 : (3 : Int32).toInt = 3 := by decide
theorem t_8 : (8 : Int32).toInt = 8 := by decide
theorem bs_msk {p p' : Nat → Bool} {j : Nat} (hj : j < 8) (h : ∀ i, i < 8 → (p' i = true ↔ p i = true ∨ i = j)) : bs (msk p 8) j = msk p' 8 := by
  have l1 := msk_lt p 8
  have l2 := msk_lt p' 8
  refine b8_ext (k8_bsl _ (by omega) j hj).1 (by omega) (fun i hi => ?_)
  rw [(k8_bsq _ (by omega) j hj i hi).1, msk_bq _ 8 i hi, msk_bq _ 8 i hi]
  have := h i hi
  by_cases e : i = j
  · simp [e] at this ⊢; simp [this]
  · simp only [e, or_false] at this
    simp only [e, if_false, this]
theorem msk_ext {p p' : Nat → Bool} : ∀ {n : Nat}, (∀ i, i < n → p i = p' i) → msk p n = msk p' n
  | 0, _ => rfl
  | n + 1, h => by simp only [msk]; rw [msk_ext (fun i hi => h i (by omega)), h n (by omega)]

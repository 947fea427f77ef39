/-! the class's State: neutral words for it, and its methods -/
/-- s 0 k: master of k (0 none, m + 1), s 1 k: right, s 2 k: wrong, s 3 k: left; s 4 0: year, s 4 1: passed, s 4 2: doctors, s 4 3: how many kept; s 5 k: a kept row -/
abbrev Sx : Type := Nat → Nat → Nat
def EnS (I : Ii) (o : Nat) (s : Sx) : Prop :=
  (∀ k, k < 8 → I (o + 1) k = mI (s 0 k) ∧ s 0 k ≤ 8) ∧ (∀ k, k < 8 → I (o + 2) k = nI (s 1 k) ∧ s 1 k < 256) ∧ (∀ k, k < 8 → I (o + 3) k = nI (s 2 k) ∧ s 2 k < 256) ∧ (∀ k, k < 8 → I (o + 4) k = nI (s 3 k) ∧ s 3 k < 256) ∧
  (I o 0 = nI (s 4 0) ∧ s 4 0 < 65536) ∧ (I o 1 = nI (s 4 1) ∧ s 4 1 < 256) ∧ (I o 2 = nI (s 4 2) ∧ s 4 2 < 256) ∧ (I o 3 = nI (s 4 3) ∧ s 4 3 ≤ 30) ∧ (∀ k, k < 30 → I (o + 5) k = nI (s 5 k) ∧ s 5 k < 2 ^ 25)
/-- nothing but the State at o has changed -/
def FrS (o : Nat) (I I' : Ii) : Prop := ∀ a, (a < o ∨ o + 5 < a) → I' a = I a
def up (s : Sx) (i k v : Nat) : Sx := fun a j => if a = i ∧ j = k then v else s a j
section SP
variable {d : Nat} {I : Ii} {J : Jj}
theorem s_isPlace {j : Nat} {K : KI} (hj : j < 8) (h : K 1 I J) : CalI wX d mX9_isPlace [.int (nI j)] I J K :=
  Cal.of (by decide) (Nat.le_of_ble_eq_true rfl) (bX9_isPlace_0 ⟨fun q => absurd q (nI_pos (by omega)), fun _ => ⟨fun q => absurd ((nI_leI (a := 8) (by decide) (by omega)).mp q) (by omega), fun _ => h⟩⟩)
theorem s_isPlace_m1 {K : KI} (h : K 0 I J) : CalI wX d mX9_isPlace [.int (-1)] I J K :=
  Cal.of (by decide) (Nat.le_of_ble_eq_true rfl) (bX9_isPlace_0 ⟨fun _ => h, fun q => absurd (by decide) q⟩)
theorem s_hasBit {n j : Nat} {K : KI} (hn : n < 256) (hj : j < 8) (h : K (nI (bq n j)) I J) : CalI wX d mX12_hasBit [.int (nI n), .int (nI j)] I J K := by
  refine Cal.of (by decide) (Nat.le_of_ble_eq_true rfl) (bX12_hasBit_0 ⟨fun q => absurd q (nI_pos (by omega)), fun _ => ⟨fun q => absurd ((nI_leI (a := 31) (by decide) (by omega)).mp q) (by omega), fun _ => ⟨fun q => ?_, fun q => ?_⟩⟩⟩)
  · rw [k8_bit n hn j hj] at q
    rcases bq01 n j with e | e
    · rw [e] at h; exact h
    · rw [e] at q; exact absurd rfl q
  · rw [k8_bit n hn j hj] at q
    rcases bq01 n j with e | e
    · rw [e] at q; exact absurd q (by decide)
    · rw [e] at h; exact h
theorem s_hasBit_m1 {n : Int32} {K : KI} (h : K 0 I J) : CalI wX d mX12_hasBit [.int n, .int (-1)] I J K :=
  Cal.of (by decide) (Nat.le_of_ble_eq_true rfl) (bX12_hasBit_0 ⟨fun _ => h, fun q => absurd (by decide) q⟩)
theorem s_bitCount {n : Nat} {K : KI} (hn : n < 256) (h : K (nI (pc8 n)) I J) : CalI wX d mJ6_bitCount_0f7a4 [.int (nI n)] I J K := by
  refine Cal.of (by decide) (Nat.le_of_ble_eq_true rfl) (bJ6_bitCount_0f7a4_0 ?_)
  intro y1 e1 y2 e2 y3 e3 y4 e4 y5 e5
  have := bcx_ok n hn
  simp only [bcx] at this
  rw [e5, e4, e3, e2, e1, this]
  exact h
theorem s_masterOf {o j : Nat} {s : Sx} {K : KI} (ho : z_Ob wX o 9) (hs : EnS I o s) (hj : j < 8) (h : K (mI (s 0 j)) I J) : CalI wX (d + 1) mX9_masterOf [.ref o, .int (nI j)] I J K := by
  refine Cal.of (by decide) (Nat.le_of_ble_eq_true rfl) (bX9_masterOf_0 ho (s_isPlace hj ⟨fun q => absurd q (by decide), fun _ => ⟨vp_in_nI hj (by omega), ?_⟩⟩))
  rw [nI_clamp (by omega), (hs.1 j hj).1]
  exact h
theorem s_masterOf_m1 {o : Nat} {K : KI} (ho : z_Ob wX o 9) (h : K (-1) I J) : CalI wX (d + 1) mX9_masterOf [.ref o, .int (-1)] I J K :=
  Cal.of (by decide) (Nat.le_of_ble_eq_true rfl) (bX9_masterOf_0 ho (s_isPlace_m1 ⟨fun _ => h, fun q => absurd rfl q⟩))
end SP

/-! the class's face: what all its calls keep; the calls that only ask -/
/-- g 0 0 tape, g 0 1 fault, g 0 2 its place (0 none), g 0 3 heard, g 0 4 image's length, g 0 5 drawn, g 0 6 how many can be undone; g 1 tape, g 2 refused, g 3 image, g 4 heard; ps i: what can be undone, the oldest first -/
def acy (s : Sx) : Prop := ∀ k, k < 8 → anc s k 8 (s 0 k) = false
def okS (sc s : Sx) : Prop := WFS sc s ∧ s 4 0 ≤ 999 ∧ acy s
def EnP (I : Ii) (sc : Sx) (ps : Nat → Sx) (g : Sx) : Prop := (I 0 6 = nI (g 0 6) ∧ g 0 6 ≤ 20 ∧ ∀ k, k < 30 → I 30 k = 0 ∧ I 69 k = 0 ∧ I 78 2 = nI 4) ∧ ∃ f, f < 20 ∧ I 0 5 = nI f ∧ ∀ i, i < g 0 6 → EnS I (81 + 6 * ((f + i) % 20)) (ps i) ∧ okS sc (ps i)
def EnX (I : Ii) (sc : Sx) (L : Nat → List Nat) (s : Sx) (ps : Nat → Sx) (g : Sx) : Prop :=
  EnB I sc L s ∧ acy s ∧ EnT I g ∧ EnR I sc g ∧ (I 1 2 = nI (g 0 1) ∧ I 1 3 = mI (g 0 2)) ∧ (∀ k, k < 6 → I 79 k = nI (g 2 k)) ∧ ((I 0 14 = nI (g 0 4) ∧ g 0 4 ≤ 43) ∧ ∀ k, k < g 0 4 → I 80 k = nI (g 3 k)) ∧ (I 0 15 = nI (g 0 5) ∧ g 0 5 < 2 ^ 31) ∧ EnP I sc ps g
/-- scratch may change -/
def FrX (I I' : Ii) : Prop := (∀ a, (a ≤ 11 ∨ (19 ≤ a ∧ a ≤ 24) ∨ a = 30 ∨ a = 50 ∨ a = 51 ∨ a = 69 ∨ 78 ≤ a) → I' a = I a) ∧ I' 43 6 = I 43 6
theorem FrX.refl (I : Ii) : FrX I I := ⟨fun _ _ => rfl, rfl⟩
theorem FrX.trans {I I1 I2 : Ii} (h1 : FrX I I1) (h2 : FrX I1 I2) : FrX I I2 := ⟨fun a ha => (h2.1 a ha).trans (h1.1 a ha), h2.2.trans h1.2⟩
theorem FrF.X {I I' : Ii} (h : FrF I I') : FrX I I' := ⟨fun a ha => h a (by omega) (by omega) (by omega) (by omega) (by omega), by rw [h 43 (by omega) (by omega) (by omega) (by omega) (by omega)]⟩
theorem FrL.X {I I' : Ii} (h : FrL I I') : FrX I I' := ⟨fun a ha => h a (by omega) (by omega), by rw [h 43 (by omega) (by omega)]⟩
theorem FrG.X {I I' : Ii} (h : FrG I I') : FrX I I' := ⟨fun a ha => h a (by omega) (by omega) (by omega) (by omega) (by omega) (by omega), by rw [h 43 (by omega) (by omega) (by omega) (by omega) (by omega) (by omega)]⟩
theorem EnB.X {I I' : Ii} {sc s : Sx} {L : Nat → List Nat} (h : EnB I sc L s) (hk : FrX I I') : EnB I' sc L s := ⟨h.1.kept (fun a h1 h2 => hk.1 a (by omega)), h.2.1.kept (fun a h1 h2 => hk.1 a (by omega)), h.2.2.1, h.2.2.2⟩
theorem EnP.fr {I I' : Ii} {sc g : Sx} {ps : Nat → Sx} (h : EnP I sc ps g) (h0 : I' 0 5 = I 0 5 ∧ I' 0 6 = I 0 6) (hk : ∀ a, a = 30 ∨ a = 69 ∨ a = 78 ∨ 81 ≤ a → I' a = I a) : EnP I' sc ps g := by
  obtain ⟨h1, f, hf, h2, h3⟩ := h
  refine ⟨by rw [h0.2, hk 30 (by omega), hk 69 (by omega), hk 78 (by omega)]; exact h1, f, hf, by rw [h0.1]; exact h2, fun i hi => ⟨(h3 i hi).1.kept (fun a h4 h5 => hk a (by omega)), (h3 i hi).2⟩⟩
theorem EnX.fr {I I' : Ii} {sc : Sx} {L : Nat → List Nat} {s : Sx} {ps : Nat → Sx} {g : Sx} (h : EnX I sc L s ps g) (hk : FrX I I') : EnX I' sc L s ps g := by
  have e0 := hk.1 0 (by omega)
  have e1 := hk.1 1 (by omega)
  have e2 := hk.1 2 (by omega)
  have e50 := hk.1 50 (by omega)
  have e51 := hk.1 51 (by omega)
  have e79 := hk.1 79 (by omega)
  have e80 := hk.1 80 (by omega)
  obtain ⟨h1, h2, h3, h4, h5, h6, h7, h8, h9⟩ := h
  refine ⟨h1.X hk, h2, ?_, ?_, by rw [e1]; exact h5, by rw [e79]; exact h6, by rw [e0, e80]; exact h7, by rw [e0]; exact h8, h9.fr (by rw [e0]; exact ⟨rfl, rfl⟩) (fun a ha => hk.1 a (by omega))⟩
  · unfold EnT; rw [e1, e2]; exact h3
  · unfold EnR; rw [hk.2, e50, e51]; exact h4
def isin (v : Int32) (n : Nat) : Bool := decide (0 ≤ v.toInt ∧ v.toInt < n)
def idx (v : Int32) : Nat := v.toInt.toNat
theorem nI_idx {v : Int32} (h : 0 ≤ v.toInt) : v = nI (idx v) := by
  have hb := Int32.toInt_lt v
  apply i32_ext
  rw [nI_toInt (by unfold idx; omega)]
  unfold idx; omega
theorem isin_t {v : Int32} {n : Nat} (h : isin v n = true) : v = nI (idx v) ∧ idx v < n := by
  simp only [isin, decide_eq_true_eq] at h
  exact ⟨nI_idx h.1, by unfold idx; omega⟩
theorem isin_nI {j n : Nat} (hj : j < 2 ^ 31) : isin (nI j) n = decide (j < n) := by
  simp only [isin, nI_toInt hj, decide_eq_decide]
  omega
theorem idx_nI {j : Nat} (hj : j < 2 ^ 31) : idx (nI j) = j := by unfold idx; rw [nI_toInt hj]; omega
theorem isin_neg {v : Int32} {n : Nat} (h : v < 0) : isin v n = false := by
  rw [Int32.lt_iff_toInt_lt, t_0] at h
  simp only [isin, decide_eq_false_iff_not]
  omega
def b01 (b : Bool) : Int32 := if b then 1 else 0
theorem b01_t : b01 true = 1 := rfl
theorem b01_f : b01 false = 0 := rfl
section SP
variable {d : Nat} {I : Ii} {J : Jj} {sc s t g : Sx} {L : Nat → List Nat} {ps : Nat → Sx}
/-- v is below nought, or a number -/
theorem i32_cases (v : Int32) : v < 0 ∨ ∃ j, j < 2 ^ 31 ∧ v = nI j := by
  by_cases h : v < 0
  · exact Or.inl h
  · exact Or.inr (nI_of h)
theorem s_isFact {v : Int32} {K : KI} (hC : EnC I 3 sc L) (h : K (b01 (isin v (sc 0 0))) I J) : CalI wX d mX12_isFact [.ref 0, .int v] I J K := by
  have hF := hC.1.2
  refine Cal.of (by decide) (Nat.le_of_ble_eq_true rfl) (bX12_isFact_0 ?_)
  rw [hC.1.1]
  rcases i32_cases v with hv | ⟨j, hj, rfl⟩
  · rw [isin_neg hv] at h
    exact ⟨fun _ => h, fun q => absurd hv q⟩
  · rw [isin_nI hj] at h
    repeat' (first | (refine ⟨vp_in_nI (by omega) (by omega), ?_⟩) | (with_reducible refine And.intro ?_ ?_) | (with_reducible intro I9 e9; subst e9) | (with_reducible intro q9; try (simp (disch := omega) only [Int32.le_iff_toInt_le, Int32.lt_iff_toInt_lt, ← Int32.toInt_inj, nI_toInt, t_bq, t_pc8, t_bel, t_mI, t_ite, t_dec, sm_t, Int32.reduceToInt, t_m1, t_0, t_1, t_2, t_3, t_8, Int.natCast_eq_zero, Int.ofNat_le, Int.ofNat_lt, Int.ofNat_inj, not_true_eq_false, not_false_eq_true, forall_const] at q9); try (exfalso; omega)))
    · rw [decide_eq_false (by omega)] at h; exact h
    · rw [decide_eq_true (by omega)] at h; exact h
theorem s_isPerson {v : Int32} {K : KI} (hC : EnC I 3 sc L) (h : K (b01 (isin v (sc 0 1))) I J) : CalI wX d mX12_isPerson [.ref 0, .int v] I J K := by
  have hF := hC.2.1.2
  refine Cal.of (by decide) (Nat.le_of_ble_eq_true rfl) (bX12_isPerson_0 ?_)
  rw [hC.2.1.1]
  rcases i32_cases v with hv | ⟨j, hj, rfl⟩
  · rw [isin_neg hv] at h
    exact ⟨fun _ => h, fun q => absurd hv q⟩
  · rw [isin_nI hj] at h
    repeat' (first | (refine ⟨vp_in_nI (by omega) (by omega), ?_⟩) | (with_reducible refine And.intro ?_ ?_) | (with_reducible intro I9 e9; subst e9) | (with_reducible intro q9; try (simp (disch := omega) only [Int32.le_iff_toInt_le, Int32.lt_iff_toInt_lt, ← Int32.toInt_inj, nI_toInt, t_bq, t_pc8, t_bel, t_mI, t_ite, t_dec, sm_t, Int32.reduceToInt, t_m1, t_0, t_1, t_2, t_3, t_8, Int.natCast_eq_zero, Int.ofNat_le, Int.ofNat_lt, Int.ofNat_inj, not_true_eq_false, not_false_eq_true, forall_const] at q9); try (exfalso; omega)))
    · rw [decide_eq_false (by omega)] at h; exact h
    · rw [decide_eq_true (by omega)] at h; exact h
theorem s_isPairPart {v : Int32} {K : KI} (h : K (b01 (decide (v = 0 ∨ v = 1))) I J) : CalI wX d mX12_isPairPart [.int v] I J K := by
  refine Cal.of (by decide) (Nat.le_of_ble_eq_true rfl) (bX12_isPairPart_0 ⟨fun q => ?_, fun q => ⟨fun q2 => ?_, fun q2 => ?_⟩⟩)
  · rw [decide_eq_true (Or.inl q)] at h; exact h
  · rw [decide_eq_false (by rintro (z | z) <;> contradiction)] at h; exact h
  · rw [decide_eq_true (Or.inr q2)] at h; exact h
/-- may one look n years ahead, at most m? -/
def rch (s : Sx) (m : Nat) (v : Int32) : Bool := isin v (m + 1) && decide (s 4 0 + idx v ≤ 999)
theorem s_reachesV {v : Int32} {m : Nat} {K : KI} (hs : EnS I 19 s) (hm : m < 1000) (h : K (b01 (rch s m v)) I J) : CalI wX d mX2_reaches [.ref 36, .int v, .int (nI m)] I J K := by
  rcases i32_cases v with hv | ⟨j, hj, rfl⟩
  · refine s_reaches_neg hv ?_
    rw [rch, isin_neg hv] at h
    exact h
  · have hy := hs.2.2.2.2.1
    by_cases hjm : j ≤ m
    · refine s_reaches hs (by omega) hm ?_
      rw [rch, isin_nI hj, idx_nI hj, decide_eq_true (show j < m + 1 by omega), Bool.true_and] at h
      by_cases e : s 4 0 + j ≤ 999
      · rw [if_pos ⟨hjm, e⟩]; rw [decide_eq_true e] at h; exact h
      · rw [if_neg (fun z => e z.2)]; rw [decide_eq_false e] at h; exact h
    · rw [rch, isin_nI hj, decide_eq_false (show ¬ j < m + 1 by omega), Bool.false_and] at h
      refine Cal.of (by decide) (Nat.le_of_ble_eq_true rfl) (bX2_reaches_0 ⟨fun _ => h, fun _ => ⟨fun _ => h, fun q => absurd (nI_lt (by omega) (by omega)) q⟩⟩)
def r_has (sc s g : Sx) (w : Int32) : Int32 := if w = 0 then nI (sc 0 0) else if w = 1 then nI (sc 0 1) else if w = 2 then nI (sc 0 2) else if w = 3 then nI (sc 0 3) else if w = 4 then nI (s 4 0) else if w = 5 then nI (pc8 (s 4 1)) else if w = 6 then nI (pc8 (s 4 2)) else if w = 7 then nI (cnt s 2 8) else if w = 8 then nI (s 4 3) else if w = 9 then nI (g 0 3) else if w = 10 then nI (g 0 6) else -1
theorem x_has {w : Int32} {K : KI} (hX : EnX I sc L s ps g) (h : K (r_has sc s g w) I J) : CalI wX (d + 2) mX12_has [.ref 0, .int w] I J K := by
  obtain ⟨hC, hS, -⟩ := hX.1
  refine Cal.of (by decide) (Nat.le_of_ble_eq_true rfl) (bX12_has_0 ⟨fun e => ?_, fun e => ?_, fun e => ?_, fun e => ?_, fun e => ?_, fun e => ?_, fun e => ?_, fun e => ?_, fun e => ?_, fun e => ?_, fun e => ?_, fun e0 e1 e2 e3 e4 e5 e6 e7 e8 e9 e10 => ?_⟩)
  · subst e; rw [hC.1.1]; exact h
  · subst e; rw [hC.2.1.1]; exact h
  · subst e; rw [hC.2.2.1.1]; exact h
  · subst e; rw [hC.2.2.2.1.1]; exact h
  · subst e; rw [hS.2.2.2.2.1.1]; exact h
  · subst e; rw [hS.2.2.2.2.2.1.1]; exact s_bitCount hS.2.2.2.2.2.1.2 h
  · subst e; rw [hS.2.2.2.2.2.2.1.1]; exact s_bitCount hS.2.2.2.2.2.2.1.2 h
  · subst e; exact s_countBits (s := s) (i := 2) arX_22 hS.2.2.1 h
  · subst e; rw [hS.2.2.2.2.2.2.2.1.1]; exact h
  · subst e; rw [hX.2.2.2.1.1.1]; exact h
  · subst e; rw [hX.2.2.2.2.2.2.2.2.1.1]; exact h
  · simp only [r_has, e0, e1, e2, e3, e4, e5, e6, e7, e8, e9, e10, if_false] at h; exact h
def r_fault (g : Sx) (w : Int32) : Int32 := if w = 0 then nI (g 0 1) else if w = 1 then mI (g 0 2) else -1
theorem x_fault {w : Int32} {K : KI} (hX : EnX I sc L s ps g) (h : K (r_fault g w) I J) : CalI wX d mX12_fault [.ref 0, .int w] I J K := by
  have hf := hX.2.2.2.2.1
  refine Cal.of (by decide) (Nat.le_of_ble_eq_true rfl) (bX12_fault_0 ⟨fun e => ⟨fun e1 => ?_, fun e1 => ?_⟩, fun e => ?_⟩)
  · simp only [r_fault, e, e1, if_false] at h; exact h
  · subst e1; rw [hf.2]; exact h
  · subst e; rw [hf.1]; exact h
theorem shr5 {n k : Nat} (hn : n < 2 ^ 30) (hk : k < 6) : (nI n >>> ((5 * nI k) &&& 31)) &&& 31 = nI (n / 32 ^ k % 32) := by
  have h5 : ∀ k, k < 6 → (((5 * nI k) &&& 31 : Int32).toBitVec.smod 32).toNat = 5 * k := by decide
  rw [pk_shrN (by omega) _ (5 * k) (h5 k hk), pk_andN (k := 5) _ (by decide)]
  · rw [show (2 : Nat) ^ 5 = 32 by decide, Nat.pow_mul, show (2 : Nat) ^ 5 = 32 by decide]
  · exact Nat.lt_of_le_of_lt (Nat.div_le_self _ _) (by omega)
def r_letter (sc : Sx) (a b c : Int32) : Int32 := if isin c 6 then (if a = 0 ∧ isin b (sc 0 0) = true then nI (sc 1 (idx b) / 32 ^ idx c % 32) else if a = 1 ∧ isin b (sc 0 1) = true then nI (sc 3 (idx b) / 32 ^ idx c % 32) else -1) else -1
theorem x_letter {a b c : Int32} {K : KI} (hX : EnX I sc L s ps g) (h : K (r_letter sc a b c) I J) : CalI wX (d + 1) mX12_letter [.ref 0, .int a, .int b, .int c] I J K := by
  obtain ⟨hC, hS, -⟩ := hX.1
  have hF := hC.1.2
  have hP := hC.2.1.2
  have hcc : ¬ c < 0 → c < 6 → isin c 6 = true := fun q q2 => by
    simp (disch := omega) only [Int32.le_iff_toInt_le, Int32.lt_iff_toInt_lt, ← Int32.toInt_inj, nI_toInt, t_bq, t_pc8, t_bel, t_mI, t_ite, t_dec, sm_t, Int32.reduceToInt, t_m1, t_0, t_1, t_2, t_3, t_8, Int.natCast_eq_zero, Int.ofNat_le, Int.ofNat_lt, Int.ofNat_inj, not_true_eq_false, not_false_eq_true, forall_const] at q
    simp (disch := omega) only [Int32.le_iff_toInt_le, Int32.lt_iff_toInt_lt, ← Int32.toInt_inj, nI_toInt, t_bq, t_pc8, t_bel, t_mI, t_ite, t_dec, sm_t, Int32.reduceToInt, t_m1, t_0, t_1, t_2, t_3, t_8, Int.natCast_eq_zero, Int.ofNat_le, Int.ofNat_lt, Int.ofNat_inj, not_true_eq_false, not_false_eq_true, forall_const] at q2
    simp only [isin, decide_eq_true_eq]; omega
  refine Cal.of (by decide) (Nat.le_of_ble_eq_true rfl) (bX12_letter_0 ⟨fun q => ?_, fun q => ⟨fun q2 => ⟨fun q3 => ⟨fun q4 => ?_, fun q4 => s_isPerson hC ?_⟩, fun q3 => s_isFact hC ?_⟩, fun q2 => ?_⟩⟩)
  · rw [r_letter, isin_neg q] at h; exact h
  · simp only [r_letter, q3, q4, false_and, if_false, ite_self] at h; exact h
  · have hc := hcc q q2
    obtain ⟨ec, hc6⟩ := isin_t hc
    subst q4
    by_cases hb : isin b (sc 0 1) = true
    · rw [hb]
      obtain ⟨eb, hb8⟩ := isin_t hb
      simp only [r_letter, hc, hb, if_true, show ¬ (1 : Int32) = 0 by decide, false_and, if_false, true_and] at h
      refine ⟨fun z => absurd z (by decide), fun _ => ?_⟩
      have hn := hC.2.2.2.2.2.2.1 (idx b) hb8
      rw [eb, ec, nI_clamp (by omega), hn.1, shr5 hn.2.1 hc6]
      exact ⟨vp_in_nI (by omega) (by omega), h⟩
    · rw [Bool.not_eq_true] at hb
      rw [hb]
      simp only [r_letter, hc, hb, if_true, show ¬ (1 : Int32) = 0 by decide, false_and, if_false, and_false, Bool.false_eq_true] at h
      exact ⟨fun _ => h, fun z => absurd rfl z⟩
  · have hc := hcc q q2
    obtain ⟨ec, hc6⟩ := isin_t hc
    subst q3
    by_cases hb : isin b (sc 0 0) = true
    · rw [hb]
      obtain ⟨eb, hb8⟩ := isin_t hb
      simp only [r_letter, hc, hb, if_true, and_self] at h
      refine ⟨fun z => absurd z (by decide), fun _ => ?_⟩
      have hn := hC.2.2.2.2.2.1 (idx b) hb8
      rw [eb, ec, nI_clamp (by omega), hn.1, shr5 hn.2.1 hc6]
      exact ⟨vp_in_nI (by omega) (by omega), h⟩
    · rw [Bool.not_eq_true] at hb
      rw [hb]
      simp only [r_letter, hc, hb, if_true, show ¬ (0 : Int32) = 1 by decide, false_and, if_false, and_false, Bool.false_eq_true] at h
      exact ⟨fun _ => ⟨fun _ => h, fun z => absurd z (by decide)⟩, fun z => absurd rfl z⟩
  · have : isin c 6 = false := by
      simp (disch := omega) only [Int32.le_iff_toInt_le, Int32.lt_iff_toInt_lt, ← Int32.toInt_inj, nI_toInt, t_bq, t_pc8, t_bel, t_mI, t_ite, t_dec, sm_t, Int32.reduceToInt, t_m1, t_0, t_1, t_2, t_3, t_8, Int.natCast_eq_zero, Int.ofNat_le, Int.ofNat_lt, Int.ofNat_inj, not_true_eq_false, not_false_eq_true, forall_const] at q
      simp (disch := omega) only [Int32.le_iff_toInt_le, Int32.lt_iff_toInt_lt, ← Int32.toInt_inj, nI_toInt, t_bq, t_pc8, t_bel, t_mI, t_ite, t_dec, sm_t, Int32.reduceToInt, t_m1, t_0, t_1, t_2, t_3, t_8, Int.natCast_eq_zero, Int.ofNat_le, Int.ofNat_lt, Int.ofNat_inj, not_true_eq_false, not_false_eq_true, forall_const] at q2
      simp only [isin, decide_eq_false_iff_not]; omega
    rw [r_letter, this] at h; exact h
end SP

/-! the tape as tokens -/
def rnF (q : Nat → Bool) : Nat → Nat → Nat
  | 0, p => p
  | f + 1, p => if q p then rnF q f (p + 1) else p
/-- where a run of q ends, from p on, before n -/
def rn (q : Nat → Bool) (n p : Nat) : Nat := rnF q (n - p) p
theorem rn_go {q : Nat → Bool} {n p : Nat} (hp : p < n) (h : q p = true) : rn q n p = rn q n (p + 1) := by
  unfold rn
  rw [show n - p = (n - (p + 1)) + 1 by omega]
  simp [rnF, h]
theorem rn_no {q : Nat → Bool} {n p : Nat} (h : q p = false) : rn q n p = p := by
  unfold rn
  cases n - p <;> simp [rnF, h]
theorem rn_end {q : Nat → Bool} {n p : Nat} (h : n ≤ p) : rn q n p = p := by
  unfold rn
  rw [show n - p = 0 by omega]
  rfl
theorem rnF_le (q : Nat → Bool) : ∀ f p, p ≤ rnF q f p ∧ rnF q f p ≤ p + f
  | 0, p => by simp [rnF]
  | f + 1, p => by
    have := rnF_le q f (p + 1)
    simp only [rnF]
    split <;> omega
theorem rn_le (q : Nat → Bool) (n p : Nat) : p ≤ rn q n p ∧ (p ≤ n → rn q n p ≤ n) := by
  have := rnF_le q (n - p) p
  unfold rn
  exact ⟨this.1, fun h => by omega⟩
theorem rnF_in (q : Nat → Bool) : ∀ f p k, p ≤ k → k < rnF q f p → q k = true
  | 0, p, k, h1, h2 => by simp [rnF] at h2; omega
  | f + 1, p, k, h1, h2 => by
    simp only [rnF] at h2
    by_cases e : q p = true
    · rw [if_pos e] at h2
      by_cases ek : k = p
      · subst ek; exact e
      · exact rnF_in q f (p + 1) k (by omega) h2
    · rw [if_neg e] at h2; omega
theorem rn_in {q : Nat → Bool} {n p k : Nat} (h1 : p ≤ k) (h2 : k < rn q n p) : q k = true := rnF_in q _ p k h1 h2
theorem rnF_at (q : Nat → Bool) : ∀ f p, rnF q f p < p + f → q (rnF q f p) = false
  | 0, p, h => by simp [rnF] at h
  | f + 1, p, h => by
    simp only [rnF] at h ⊢
    by_cases e : q p = true
    · rw [if_pos e] at h ⊢; exact rnF_at q f (p + 1) (by omega)
    · rw [if_neg e]; simpa using e
theorem rn_at {q : Nat → Bool} {n p : Nat} (hp : p ≤ n) (h : rn q n p < n) : q (rn q n p) = false := rnF_at q _ p (by unfold rn at h; omega)
def isB (c : Nat) : Bool := decide (c = 32 ∨ c = 10)
def isL (c : Nat) : Bool := decide (97 ≤ c ∧ c ≤ 122)
def isD (c : Nat) : Bool := decide (48 ≤ c ∧ c ≤ 57)
def skp (g : Sx) (p : Nat) : Nat := rn (fun k => isB (g 1 k)) (g 0 0) p
def wen (g : Sx) (p : Nat) : Nat := rn (fun k => isL (g 1 k)) (g 0 0) p
def den (g : Sx) (p : Nat) : Nat := rn (fun k => isD (g 1 k)) (g 0 0) p
/-- what stands at q: 0 the end, 256 a word, 257 a number, 258 glued, else a sign -/
def tk (g : Sx) (q : Nat) : Nat := if g 0 0 ≤ q then 300 else if isL (g 1 q) then (if 1 ≤ q ∧ isD (g 1 (q - 1)) = true then 258 else 256) else if isD (g 1 q) then (if 1 ≤ q ∧ isL (g 1 (q - 1)) = true then 258 else 257) else g 1 q
def tkI (k : Nat) : Int32 := if k = 300 then -1 else nI k
def tsp (g : Sx) (q : Nat) : Nat := if g 0 0 ≤ q then q else if isL (g 1 q) then wen g q else if isD (g 1 q) then den g q else q + 1
def pck (g : Sx) (q : Nat) : Nat → Nat
  | 0 => 0
  | k + 1 => pck g q k + (g 1 (q + k) - 96) * 32 ^ k
def val (g : Sx) (q : Nat) : Nat → Nat
  | 0 => 0
  | k + 1 => val g q k * 10 + (g 1 (q + k) - 48)
def tpk (g : Sx) (q : Nat) : Nat := if g 0 0 ≤ q then 0 else if isL (g 1 q) then (if wen g q - q ≤ 6 then pck g q (wen g q - q) else 0) else 0
def tvl (g : Sx) (q : Nat) : Nat := if g 0 0 ≤ q then 0 else if isL (g 1 q) then 0 else if isD (g 1 q) then val g q (if den g q - q ≤ 4 then den g q - q else 4) else 0
def adv (g : Sx) (q : Nat) : Nat := skp g (tsp g q)
theorem pck_lt (g : Sx) (q : Nat) : ∀ k, (∀ i, i < k → g 1 (q + i) - 96 < 32) → pck g q k < 32 ^ k
  | 0, _ => by simp [pck]
  | k + 1, h => by
    have ih := pck_lt g q k (fun i hi => h i (by omega))
    have hk := h k (by omega)
    simp only [pck]
    rw [Nat.pow_succ]
    have : (g 1 (q + k) - 96) * 32 ^ k ≤ 31 * 32 ^ k := Nat.mul_le_mul_right _ (by omega)
    omega
theorem val_lt (g : Sx) (q : Nat) : ∀ k, (∀ i, i < k → g 1 (q + i) - 48 < 10) → val g q k < 10 ^ k
  | 0, _ => by simp [val]
  | k + 1, h => by
    have ih := val_lt g q k (fun i hi => h i (by omega))
    have hk := h k (by omega)
    simp only [val]
    rw [Nat.pow_succ]
    omega
theorem skp_le {g : Sx} {p : Nat} : p ≤ skp g p ∧ (p ≤ g 0 0 → skp g p ≤ g 0 0) := rn_le _ _ _
theorem isL_t {c : Nat} : isL c = true ↔ 97 ≤ c ∧ c ≤ 122 := by simp [isL]
theorem isD_t {c : Nat} : isD c = true ↔ 48 ≤ c ∧ c ≤ 57 := by simp [isD]
theorem isB_t {c : Nat} : isB c = true ↔ c = 32 ∨ c = 10 := by simp [isB]
theorem tsp_le {g : Sx} {q : Nat} (h : q ≤ g 0 0) : tsp g q ≤ g 0 0 ∧ q ≤ tsp g q ∧ (q < g 0 0 → q < tsp g q) := by
  unfold tsp
  split
  · omega
  · split
    · next h1 h2 =>
      have hl := rn_le (fun k => isL (g 1 k)) (g 0 0) (q + 1)
      have hg : wen g q = rn (fun k => isL (g 1 k)) (g 0 0) (q + 1) := rn_go (by omega) h2
      rw [hg]
      exact ⟨hl.2 (by omega), by omega, fun _ => by omega⟩
    · split
      · next h1 h2 h3 =>
        have hl := rn_le (fun k => isD (g 1 k)) (g 0 0) (q + 1)
        have hg : den g q = rn (fun k => isD (g 1 k)) (g 0 0) (q + 1) := rn_go (by omega) h3
        rw [hg]
        exact ⟨hl.2 (by omega), by omega, fun _ => by omega⟩
      · omega
theorem adv_le {g : Sx} {q : Nat} (h : q ≤ g 0 0) : adv g q ≤ g 0 0 ∧ q ≤ adv g q ∧ (q < g 0 0 → q < adv g q) := by
  have h1 := tsp_le h
  have h2 := skp_le (g := g) (p := tsp g q)
  unfold adv
  exact ⟨h2.2 h1.1, by omega, fun z => by have := h1.2.2 z; omega⟩
theorem tk_end {g : Sx} {q : Nat} (h : g 0 0 ≤ q) : tk g q = 300 := by simp [tk, h]
theorem tk_lt {g : Sx} {q : Nat} (h : tk g q ≠ 300) : q < g 0 0 := by
  rcases Nat.lt_or_ge q (g 0 0) with z | z
  · exact z
  · exact absurd (tk_end z) h
/-- the token at q, as the class's Text has it -/
def TokAt (I : Ii) (g : Sx) (q : Nat) : Prop := (I 1 4 = nI q ∧ q ≤ g 0 0) ∧ I 1 5 = nI (tsp g q) ∧ I 1 6 = tkI (tk g q) ∧ I 1 7 = nI (tpk g q) ∧ I 1 8 = nI (tvl g q)
/-- only the token changes -/
def FrA (I I' : Ii) : Prop := (∀ a, a ≠ 1 → I' a = I a) ∧ ∀ k, (k < 4 ∨ 8 < k) → I' 1 k = I 1 k
theorem FrA.refl (I : Ii) : FrA I I := ⟨fun _ _ => rfl, fun _ _ => rfl⟩
theorem FrA.trans {I I1 I2 : Ii} (h1 : FrA I I1) (h2 : FrA I1 I2) : FrA I I2 := ⟨fun a ha => (h2.1 a ha).trans (h1.1 a ha), fun k hk => (h2.2 k hk).trans (h1.2 k hk)⟩
theorem EnT.A {I I' : Ii} {g : Sx} (h : EnT I g) (hk : FrA I I') : EnT I' g := by unfold EnT; rw [hk.2 1 (by omega), hk.1 2 (by omega)]; exact h
theorem tk_val {g : Sx} {q : Nat} (hb : ∀ k, k < g 0 0 → g 1 k < 256) : tk g q ≤ 300 := by
  unfold tk
  split
  · omega
  · split
    · split <;> omega
    · split
      · split <;> omega
      · have := hb q (by omega); omega
section SP
variable {d : Nat} {I : Ii} {J : Jj} {g : Sx}
theorem k_shl : ∀ c, c < 27 → ∀ k, k < 6 → nI c <<< ((5 * nI k) &&& 31) = nI (c * 32 ^ k) := by decide +kernel
theorem or_disj {a b k : Nat} (h : a < 2 ^ k) : a ||| (b * 2 ^ k) = a + b * 2 ^ k := by
  rw [Nat.mul_comm, Nat.or_comm, ← Nat.two_pow_add_eq_or_of_lt h, Nat.add_comm]
theorem s_advance {p : Nat} {K : KV} (hT : EnT I g) (hp : I 1 5 = nI p) (hn : p ≤ g 0 0) (h : ∀ I', FrA I I' → TokAt I' g (skp g p) → K I' J) : CalV wX d mX10_advance [.ref 1] I J K := by
  have h16 := hT.1.2
  have hby := hT.2
  -- the last step: what was read is set
  -- numbers
  have dig : ∀ r k I1 q, FrA I I1 → q ≤ k → k + r = g 0 0 → q < g 0 0 → isL (g 1 q) = false → isD (g 1 q) = true → I1 1 4 = nI q → I1 1 6 = tkI (tk g q) → I1 1 7 = 0 → I1 1 8 = nI (val g q (if k - q ≤ 4 then k - q else 4)) → den g q = rn (fun k => isD (g 1 k)) (g 0 0) k → (∀ i, q ≤ i → i < k → isD (g 1 i) = true) → q = skp g p → GoV wX d mX10_advance 272 [(0, .ref 1), (1, .int (nI k))] [] I1 J K := by
    intro r
    have fin : ∀ k I1 q, FrA I I1 → q ≤ k → k ≤ g 0 0 → q < g 0 0 → isL (g 1 q) = false → isD (g 1 q) = true → I1 1 4 = nI q → I1 1 6 = tkI (tk g q) → I1 1 7 = 0 → I1 1 8 = nI (val g q (if k - q ≤ 4 then k - q else 4)) → den g q = k → q = skp g p → GoV wX d mX10_advance 357 [(0, .ref 1), (1, .int (nI k))] [] I1 J K := by
      intro k I1 q f1 hqk hk hq hl hdg e4 e6 e7 e8 hden hqp
      have hnq : ¬ g 0 0 ≤ q := by omega
      refine bX10_advance_357 (h _ (f1.trans ⟨fun a ha => u2_row ha, fun j hj => u2_k (by omega)⟩) ?_)
      rw [← hqp]
      refine ⟨⟨by rw [u2_k (by omega)]; exact e4, by omega⟩, ?_, by rw [u2_k (by omega)]; exact e6, ?_, ?_⟩
      · rw [u2_at]; simp only [tsp, hnq, hl, hdg, if_false, if_true, Bool.false_eq_true]; rw [hden]
      · rw [u2_k (by omega), e7]; simp [tpk, hnq, hl]; rfl
      · rw [u2_k (by omega), e8]; simp only [tvl, hnq, hl, hdg, if_false, if_true, Bool.false_eq_true]; rw [hden]
    induction r with
    | zero =>
      intro k I1 q f1 hqk hk hq hl hdg e4 e6 e7 e8 hden hall hqp
      refine bX10_advance_272 ?_
      rw [(hT.A f1).1.1]
      repeat' (first | (refine ⟨vp_in_nI (by omega) (by omega), ?_⟩) | (with_reducible refine And.intro ?_ ?_) | (with_reducible intro I9 e9; subst e9) | (with_reducible intro q9; try (simp (disch := omega) only [Int32.le_iff_toInt_le, Int32.lt_iff_toInt_lt, ← Int32.toInt_inj, nI_toInt, t_bq, t_pc8, t_bel, t_mI, t_ite, t_dec, sm_t, Int32.reduceToInt, t_m1, t_0, t_1, t_2, t_3, t_8, Int.natCast_eq_zero, Int.ofNat_le, Int.ofNat_lt, Int.ofNat_inj, not_true_eq_false, not_false_eq_true, forall_const] at q9); try (exfalso; omega)))
      exact fin k I1 q f1 hqk (by omega) hq hl hdg e4 e6 e7 e8 (by rw [hden, rn_end (by omega)]) hqp
    | succ r ih =>
      intro k I1 q f1 hqk hk hq hl hdg e4 e6 e7 e8 hden hall hqp
      have hT1 := hT.A f1
      have hbk := hT1.2 k (by omega)
      refine bX10_advance_272 ?_
      rw [hT1.1.1, nI_clamp (by omega), hbk.1, e4, nI_sub hqk]
      have stop : isD (g 1 k) = false → GoV wX d mX10_advance 357 [(0, .ref 1), (1, .int (nI k))] [] I1 J K := fun z => fin k I1 q f1 hqk (by omega) hq hl hdg e4 e6 e7 e8 (by rw [hden, rn_no (q := fun k => isD (g 1 k)) z]) hqp
      refine ⟨fun z => ?_, fun _ => ⟨vp_in_nI (by omega) (by omega), fun z => ?_, fun z => ⟨fun z2 => ?_, fun z2 => ?_⟩⟩⟩
      · simp (disch := omega) only [Int32.le_iff_toInt_le, Int32.lt_iff_toInt_lt, ← Int32.toInt_inj, nI_toInt, t_bq, t_pc8, t_bel, t_mI, t_ite, t_dec, sm_t, Int32.reduceToInt, t_m1, t_0, t_1, t_2, t_3, t_8, Int.natCast_eq_zero, Int.ofNat_le, Int.ofNat_lt, Int.ofNat_inj, not_true_eq_false, not_false_eq_true, forall_const] at z
        exfalso; omega
      · simp (disch := omega) only [Int32.le_iff_toInt_le, Int32.lt_iff_toInt_lt, ← Int32.toInt_inj, nI_toInt, t_bq, t_pc8, t_bel, t_mI, t_ite, t_dec, sm_t, Int32.reduceToInt, t_m1, t_0, t_1, t_2, t_3, t_8, Int.natCast_eq_zero, Int.ofNat_le, Int.ofNat_lt, Int.ofNat_inj, not_true_eq_false, not_false_eq_true, forall_const] at z
        exact stop (by simp [isD]; omega)
      · simp (disch := omega) only [Int32.le_iff_toInt_le, Int32.lt_iff_toInt_lt, ← Int32.toInt_inj, nI_toInt, t_bq, t_pc8, t_bel, t_mI, t_ite, t_dec, sm_t, Int32.reduceToInt, t_m1, t_0, t_1, t_2, t_3, t_8, Int.natCast_eq_zero, Int.ofNat_le, Int.ofNat_lt, Int.ofNat_inj, not_true_eq_false, not_false_eq_true, forall_const] at z2
        exact stop (by simp [isD]; omega)
      · simp (disch := omega) only [Int32.le_iff_toInt_le, Int32.lt_iff_toInt_lt, ← Int32.toInt_inj, nI_toInt, t_bq, t_pc8, t_bel, t_mI, t_ite, t_dec, sm_t, Int32.reduceToInt, t_m1, t_0, t_1, t_2, t_3, t_8, Int.natCast_eq_zero, Int.ofNat_le, Int.ofNat_lt, Int.ofNat_inj, not_true_eq_false, not_false_eq_true, forall_const] at z
        simp (disch := omega) only [Int32.le_iff_toInt_le, Int32.lt_iff_toInt_lt, ← Int32.toInt_inj, nI_toInt, t_bq, t_pc8, t_bel, t_mI, t_ite, t_dec, sm_t, Int32.reduceToInt, t_m1, t_0, t_1, t_2, t_3, t_8, Int.natCast_eq_zero, Int.ofNat_le, Int.ofNat_lt, Int.ofNat_inj, not_true_eq_false, not_false_eq_true, forall_const] at z2
        have hdk : isD (g 1 k) = true := by simp [isD]; omega
        have hall' : ∀ i, q ≤ i → i < k + 1 → isD (g 1 i) = true := fun i h1 h2 => by
          by_cases e : i = k
          · subst e; exact hdk
          · exact hall i h1 (by omega)
        have hv := val_lt g q (if k - q ≤ 4 then k - q else 4) (fun i hi => by
          have := (isD_t.mp (hall (q + i) (by omega) (by split at hi <;> omega))); omega)
        have hp10 : 10 ^ (if k - q ≤ 4 then k - q else 4) ≤ 10 ^ 4 := Nat.pow_le_pow_right (by omega) (by split <;> omega)
        refine ⟨fun z3 => ?_, fun z3 => ?_⟩
        · simp (disch := omega) only [Int32.le_iff_toInt_le, Int32.lt_iff_toInt_lt, ← Int32.toInt_inj, nI_toInt, t_bq, t_pc8, t_bel, t_mI, t_ite, t_dec, sm_t, Int32.reduceToInt, t_m1, t_0, t_1, t_2, t_3, t_8, Int.natCast_eq_zero, Int.ofNat_le, Int.ofNat_lt, Int.ofNat_inj, not_true_eq_false, not_false_eq_true, forall_const] at z3
          refine bX10_advance_337 ?_
          rw [nI_1]
          refine ih (k + 1) _ q (f1.trans ⟨fun a ha => u2_row ha, fun j hj => u2_k (by omega)⟩) (by omega) (by omega) hq hl hdg (by rw [u2_k (by omega)]; exact e4) (by rw [u2_k (by omega)]; exact e6) (by rw [u2_k (by omega)]; exact e7) ?_ (by rw [hden, rn_go (q := fun k => isD (g 1 k)) (by omega) hdk]) hall' hqp
          rw [u2_at, e8]
          congr 2
          split <;> split <;> omega
        · simp (disch := omega) only [Int32.le_iff_toInt_le, Int32.lt_iff_toInt_lt, ← Int32.toInt_inj, nI_toInt, t_bq, t_pc8, t_bel, t_mI, t_ite, t_dec, sm_t, Int32.reduceToInt, t_m1, t_0, t_1, t_2, t_3, t_8, Int.natCast_eq_zero, Int.ofNat_le, Int.ofNat_lt, Int.ofNat_inj, not_true_eq_false, not_false_eq_true, forall_const] at z3
          refine bX10_advance_337 ?_
          rw [nI_1]
          refine ih (k + 1) _ q (f1.trans ⟨fun a ha => u2_row ha, fun j hj => u2_k (by omega)⟩) (by omega) (by omega) hq hl hdg (by rw [u2_k (by omega)]; exact e4) (by rw [u2_k (by omega)]; exact e6) (by rw [u2_k (by omega)]; exact e7) ?_ (by rw [hden, rn_go (q := fun k => isD (g 1 k)) (by omega) hdk]) hall' hqp
          rw [u2_at, e8, if_pos (by omega), if_pos (by omega), show k + 1 - q = (k - q) + 1 by omega, show (10 : Int32) = nI 10 from rfl, show (48 : Int32) = nI 48 from rfl, pk_mul, nI_add, nI_sub (by omega)]
          simp only [val]
          rw [show q + (k - q) = k by omega]
          congr 1
          omega
  -- words
  have wrd : ∀ r k I1 q, FrA I I1 → q ≤ k → k + r = g 0 0 → q < g 0 0 → isL (g 1 q) = true → I1 1 4 = nI q → I1 1 6 = tkI (tk g q) → I1 1 8 = 0 → I1 1 7 = nI (if k - q ≤ 6 then pck g q (k - q) else 0) → wen g q = rn (fun k => isL (g 1 k)) (g 0 0) k → (∀ i, q ≤ i → i < k → isL (g 1 i) = true) → q = skp g p → GoV wX d mX10_advance 147 [(0, .ref 1), (1, .int (nI k))] [] I1 J K := by
    intro r
    have fin : ∀ k I1 q, FrA I I1 → q ≤ k → k ≤ g 0 0 → q < g 0 0 → isL (g 1 q) = true → I1 1 4 = nI q → I1 1 6 = tkI (tk g q) → I1 1 8 = 0 → I1 1 7 = nI (if k - q ≤ 6 then pck g q (k - q) else 0) → wen g q = k → q = skp g p → GoV wX d mX10_advance 357 [(0, .ref 1), (1, .int (nI k))] [] I1 J K := by
      intro k I1 q f1 hqk hk hq hl e4 e6 e8 e7 hwen hqp
      have hnq : ¬ g 0 0 ≤ q := by omega
      refine bX10_advance_357 (h _ (f1.trans ⟨fun a ha => u2_row ha, fun j hj => u2_k (by omega)⟩) ?_)
      rw [← hqp]
      refine ⟨⟨by rw [u2_k (by omega)]; exact e4, by omega⟩, ?_, by rw [u2_k (by omega)]; exact e6, ?_, ?_⟩
      · rw [u2_at]; simp only [tsp, hnq, hl, if_false, if_true]; rw [hwen]
      · rw [u2_k (by omega), e7]; simp only [tpk, hnq, hl, if_false, if_true]; rw [hwen]
      · rw [u2_k (by omega), e8]; simp [tvl, hnq, hl]; rfl
    induction r with
    | zero =>
      intro k I1 q f1 hqk hk hq hl e4 e6 e8 e7 hwen hall hqp
      refine bX10_advance_147 ?_
      rw [(hT.A f1).1.1]
      repeat' (first | (refine ⟨vp_in_nI (by omega) (by omega), ?_⟩) | (with_reducible refine And.intro ?_ ?_) | (with_reducible intro I9 e9; subst e9) | (with_reducible intro q9; try (simp (disch := omega) only [Int32.le_iff_toInt_le, Int32.lt_iff_toInt_lt, ← Int32.toInt_inj, nI_toInt, t_bq, t_pc8, t_bel, t_mI, t_ite, t_dec, sm_t, Int32.reduceToInt, t_m1, t_0, t_1, t_2, t_3, t_8, Int.natCast_eq_zero, Int.ofNat_le, Int.ofNat_lt, Int.ofNat_inj, not_true_eq_false, not_false_eq_true, forall_const] at q9); try (exfalso; omega)))
      exact fin k I1 q f1 hqk (by omega) hq hl e4 e6 e8 e7 (by rw [hwen, rn_end (by omega)]) hqp
    | succ r ih =>
      intro k I1 q f1 hqk hk hq hl e4 e6 e8 e7 hwen hall hqp
      have hT1 := hT.A f1
      have hbk := hT1.2 k (by omega)
      refine bX10_advance_147 ?_
      rw [hT1.1.1, nI_clamp (by omega), hbk.1, e4, nI_sub hqk]
      have stop : isL (g 1 k) = false → GoV wX d mX10_advance 357 [(0, .ref 1), (1, .int (nI k))] [] I1 J K := fun z => fin k I1 q f1 hqk (by omega) hq hl e4 e6 e8 e7 (by rw [hwen, rn_no (q := fun k => isL (g 1 k)) z]) hqp
      refine ⟨fun z => ?_, fun _ => ⟨vp_in_nI (by omega) (by omega), fun z => ?_, fun z => ⟨fun z2 => ?_, fun z2 => ?_⟩⟩⟩
      · simp (disch := omega) only [Int32.le_iff_toInt_le, Int32.lt_iff_toInt_lt, ← Int32.toInt_inj, nI_toInt, t_bq, t_pc8, t_bel, t_mI, t_ite, t_dec, sm_t, Int32.reduceToInt, t_m1, t_0, t_1, t_2, t_3, t_8, Int.natCast_eq_zero, Int.ofNat_le, Int.ofNat_lt, Int.ofNat_inj, not_true_eq_false, not_false_eq_true, forall_const] at z
        exfalso; omega
      · simp (disch := omega) only [Int32.le_iff_toInt_le, Int32.lt_iff_toInt_lt, ← Int32.toInt_inj, nI_toInt, t_bq, t_pc8, t_bel, t_mI, t_ite, t_dec, sm_t, Int32.reduceToInt, t_m1, t_0, t_1, t_2, t_3, t_8, Int.natCast_eq_zero, Int.ofNat_le, Int.ofNat_lt, Int.ofNat_inj, not_true_eq_false, not_false_eq_true, forall_const] at z
        exact stop (by simp [isL]; omega)
      · simp (disch := omega) only [Int32.le_iff_toInt_le, Int32.lt_iff_toInt_lt, ← Int32.toInt_inj, nI_toInt, t_bq, t_pc8, t_bel, t_mI, t_ite, t_dec, sm_t, Int32.reduceToInt, t_m1, t_0, t_1, t_2, t_3, t_8, Int.natCast_eq_zero, Int.ofNat_le, Int.ofNat_lt, Int.ofNat_inj, not_true_eq_false, not_false_eq_true, forall_const] at z2
        exact stop (by simp [isL]; omega)
      · simp (disch := omega) only [Int32.le_iff_toInt_le, Int32.lt_iff_toInt_lt, ← Int32.toInt_inj, nI_toInt, t_bq, t_pc8, t_bel, t_mI, t_ite, t_dec, sm_t, Int32.reduceToInt, t_m1, t_0, t_1, t_2, t_3, t_8, Int.natCast_eq_zero, Int.ofNat_le, Int.ofNat_lt, Int.ofNat_inj, not_true_eq_false, not_false_eq_true, forall_const] at z
        simp (disch := omega) only [Int32.le_iff_toInt_le, Int32.lt_iff_toInt_lt, ← Int32.toInt_inj, nI_toInt, t_bq, t_pc8, t_bel, t_mI, t_ite, t_dec, sm_t, Int32.reduceToInt, t_m1, t_0, t_1, t_2, t_3, t_8, Int.natCast_eq_zero, Int.ofNat_le, Int.ofNat_lt, Int.ofNat_inj, not_true_eq_false, not_false_eq_true, forall_const] at z2
        have hdk : isL (g 1 k) = true := by simp [isL]; omega
        have hall' : ∀ i, q ≤ i → i < k + 1 → isL (g 1 i) = true := fun i h1 h2 => by
          by_cases e : i = k
          · subst e; exact hdk
          · exact hall i h1 (by omega)
        rintro _ rfl
        refine ⟨fun z3 => ?_, fun z3 => ?_⟩
        · simp (disch := omega) only [Int32.le_iff_toInt_le, Int32.lt_iff_toInt_lt, ← Int32.toInt_inj, nI_toInt, t_bq, t_pc8, t_bel, t_mI, t_ite, t_dec, sm_t, Int32.reduceToInt, t_m1, t_0, t_1, t_2, t_3, t_8, Int.natCast_eq_zero, Int.ofNat_le, Int.ofNat_lt, Int.ofNat_inj, not_true_eq_false, not_false_eq_true, forall_const] at z3
          refine bX10_advance_220 ?_
          rw [nI_1]
          refine ih (k + 1) _ q (f1.trans ⟨fun a ha => u2_row ha, fun j hj => u2_k (by omega)⟩) (by omega) (by omega) hq hl (by rw [u2_k (by omega)]; exact e4) (by rw [u2_k (by omega)]; exact e6) (by rw [u2_k (by omega)]; exact e8) ?_ (by rw [hwen, rn_go (q := fun k => isL (g 1 k)) (by omega) hdk]) hall' hqp
          rw [u2_at, if_neg (by omega)]; rfl
        · simp (disch := omega) only [Int32.le_iff_toInt_le, Int32.lt_iff_toInt_lt, ← Int32.toInt_inj, nI_toInt, t_bq, t_pc8, t_bel, t_mI, t_ite, t_dec, sm_t, Int32.reduceToInt, t_m1, t_0, t_1, t_2, t_3, t_8, Int.natCast_eq_zero, Int.ofNat_le, Int.ofNat_lt, Int.ofNat_inj, not_true_eq_false, not_false_eq_true, forall_const] at z3
          refine bX10_advance_220 ?_
          rw [nI_1]
          refine ih (k + 1) _ q (f1.trans ⟨fun a ha => u2_row ha, fun j hj => u2_k (by omega)⟩) (by omega) (by omega) hq hl (by rw [u2_k (by omega)]; exact e4) (by rw [u2_k (by omega)]; exact e6) (by rw [u2_k (by omega)]; exact e8) ?_ (by rw [hwen, rn_go (q := fun k => isL (g 1 k)) (by omega) hdk]) hall' hqp
          have hpl := pck_lt g q (k - q) (fun i hi => by have := (isL_t.mp (hall (q + i) (by omega) (by omega))); omega)
          rw [u2_at, e7, if_pos (by omega), if_pos (by omega), show (97 : Int32) = nI 97 from rfl, nI_sub (by omega), nI_1, k_shl _ (by omega) _ (by omega), nI_or, show (32 : Nat) ^ (k - q) = 2 ^ (5 * (k - q)) from by rw [Nat.pow_mul], or_disj (by rw [Nat.pow_mul]; exact hpl), show k + 1 - q = (k - q) + 1 by omega]
          simp only [pck]
          rw [show q + (k - q) = k by omega, Nat.pow_mul, show g 1 k - 97 + 1 = g 1 k - 96 by omega]
  -- what stands at q
  have stand : ∀ q (bf : Int32), q = skp g p → q ≤ g 0 0 → (bf = if 1 ≤ q then nI (g 1 (q - 1)) else -1) → GoV wX d mX10_advance 66 [(0, .ref 1), (1, .int (nI q))] [.int bf] I J K := by
    intro q bf hqp hq hbf
    refine bX10_advance_66 ?_
    rintro _ rfl
    rw [u2_k (by omega), hT.1.1, nI_clamp (by omega), u2_o (by omega)]
    have f0 : FrA I (u2 I 1 4 (nI q)) := ⟨fun a ha => u2_row ha, fun j hj => u2_k (by omega)⟩
    by_cases hend : g 0 0 ≤ q
    · refine ⟨fun _ => ?_, fun z => absurd (nI_le (by omega) (by omega)) z⟩
      refine bX10_advance_91 ?_
      rintro _ rfl
      rw [show u2 (u2 (u2 (u2 I 1 4 (nI q)) 1 6 (-1)) 1 7 0) 1 8 0 1 6 = -1 by rw [u2_k (by omega), u2_k (by omega), u2_at]]
      refine ⟨fun _ => ?_, fun z => absurd (by decide) z⟩
      refine bX10_advance_229 ?_
      rw [show u2 (u2 (u2 (u2 I 1 4 (nI q)) 1 6 (-1)) 1 7 0) 1 8 0 1 6 = -1 by rw [u2_k (by omega), u2_k (by omega), u2_at]]
      refine ⟨fun _ => ?_, fun z => absurd (by decide) z⟩
      refine bX10_advance_346 ?_
      rw [show u2 (u2 (u2 (u2 I 1 4 (nI q)) 1 6 (-1)) 1 7 0) 1 8 0 1 1 = nI (g 0 0) by rw [u2_k (by omega), u2_k (by omega), u2_k (by omega), u2_k (by omega)]; exact hT.1.1]
      refine ⟨fun _ => ?_, fun z => absurd (nI_le (by omega) (by omega)) z⟩
      refine bX10_advance_357 (h _ ⟨fun a ha => by rw [u2_row ha, u2_row ha, u2_row ha, u2_row ha, u2_row ha], fun j hj => by rw [u2_k (by omega), u2_k (by omega), u2_k (by omega), u2_k (by omega), u2_k (by omega)]⟩ ?_)
      rw [← hqp]
      refine ⟨⟨by rw [u2_k (by omega), u2_k (by omega), u2_k (by omega), u2_k (by omega), u2_at], by omega⟩, ?_, ?_, ?_, ?_⟩
      · rw [u2_at]; simp [tsp, hend]
      · rw [u2_k (by omega), u2_k (by omega), u2_k (by omega), u2_at]; simp [tk, hend, tkI]
      · rw [u2_k (by omega), u2_k (by omega), u2_at]; simp [tpk, hend]; rfl
      · rw [u2_k (by omega), u2_at]; simp [tvl, hend]; rfl
    have hbq := hby q (by omega)
    refine ⟨fun z => ?_, fun _ => ⟨vp_in_nI (by omega) (by omega), ?_⟩⟩
    · simp (disch := omega) only [Int32.le_iff_toInt_le, Int32.lt_iff_toInt_lt, ← Int32.toInt_inj, nI_toInt, t_bq, t_pc8, t_bel, t_mI, t_ite, t_dec, sm_t, Int32.reduceToInt, t_m1, t_0, t_1, t_2, t_3, t_8, Int.natCast_eq_zero, Int.ofNat_le, Int.ofNat_lt, Int.ofNat_inj, not_true_eq_false, not_false_eq_true, forall_const] at z
      exfalso; omega
    rw [hbq.1]
    refine bX10_advance_91 ?_
    rintro _ rfl
    generalize hI3 : u2 (u2 (u2 (u2 I 1 4 (nI q)) 1 6 (nI (g 1 q))) 1 7 0) 1 8 0 = I3
    have f3 : FrA I I3 := by rw [← hI3]; exact ⟨fun a ha => by rw [u2_row ha, u2_row ha, u2_row ha, u2_row ha], fun j hj => by rw [u2_k (by omega), u2_k (by omega), u2_k (by omega), u2_k (by omega)]⟩
    have e36 : I3 1 6 = nI (g 1 q) := by rw [← hI3, u2_k (by omega), u2_k (by omega), u2_at]
    have e34 : I3 1 4 = nI q := by rw [← hI3, u2_k (by omega), u2_k (by omega), u2_k (by omega), u2_at]
    have e37 : I3 1 7 = 0 := by rw [← hI3, u2_k (by omega), u2_at]
    have e38 : I3 1 8 = 0 := by rw [← hI3, u2_at]
    rw [e36]
    have hbf0 : ∀ {a b : Nat}, a < 256 → b < 256 → ((¬ bf < nI a) ∧ (¬ nI b < bf) ↔ 1 ≤ q ∧ a ≤ g 1 (q - 1) ∧ g 1 (q - 1) ≤ b) := by
      intro a b ha hb
      by_cases e : 1 ≤ q
      · have := (hby (q - 1) (by omega)).2
        rw [hbf, if_pos e, nI_ltI (by omega) (by omega), nI_ltI (by omega) (by omega)]
        omega
      · rw [hbf, if_neg e]
        constructor
        · rintro ⟨z, -⟩
          exfalso; apply z
          rw [Int32.lt_iff_toInt_lt, t_m1, nI_toInt (by omega)]; omega
        · omega
    -- a word begins
    have goW : isL (g 1 q) = true → ∀ I4, I4 = u2 I3 1 6 (tkI (tk g q)) → GoV wX d mX10_advance 147 [(0, .ref 1), (1, .int (nI q))] [] I4 J K := by
      rintro hl I4 rfl
      refine wrd (g 0 0 - q) q _ q (f3.trans ⟨fun a ha => u2_row ha, fun j hj => u2_k (by omega)⟩) (by omega) (by omega) (by omega) hl (by rw [u2_k (by omega)]; exact e34) (by rw [u2_at]) (by rw [u2_k (by omega)]; exact e38) ?_ rfl (fun i h1 h2 => absurd h2 (by omega)) hqp
      rw [u2_k (by omega), e37]; simp [pck]; rfl
    have goD : isL (g 1 q) = false → isD (g 1 q) = true → ∀ I4, I4 = u2 I3 1 6 (tkI (tk g q)) → GoV wX d mX10_advance 272 [(0, .ref 1), (1, .int (nI q))] [] I4 J K := by
      rintro hl hdg I4 rfl
      refine dig (g 0 0 - q) q _ q (f3.trans ⟨fun a ha => u2_row ha, fun j hj => u2_k (by omega)⟩) (by omega) (by omega) (by omega) hl hdg (by rw [u2_k (by omega)]; exact e34) (by rw [u2_at]) (by rw [u2_k (by omega)]; exact e37) ?_ rfl (fun i h1 h2 => absurd h2 (by omega)) hqp
      rw [u2_k (by omega), e38]; simp [val]; rfl
    have goS : isL (g 1 q) = false → GoV wX d mX10_advance 229 [(0, .ref 1), (1, .int (nI q)), (2, .int bf)] [] I3 J K := by
      intro hl
      have sign : isD (g 1 q) = false → GoV wX d mX10_advance 346 [(0, .ref 1), (1, .int (nI q))] [] I3 J K := by
        intro hdg
        refine bX10_advance_346 ?_
        rw [f3.2 1 (by omega), hT.1.1, nI_1]
        refine ⟨fun z => ?_, fun _ => ?_⟩
        · simp (disch := omega) only [Int32.le_iff_toInt_le, Int32.lt_iff_toInt_lt, ← Int32.toInt_inj, nI_toInt, t_bq, t_pc8, t_bel, t_mI, t_ite, t_dec, sm_t, Int32.reduceToInt, t_m1, t_0, t_1, t_2, t_3, t_8, Int.natCast_eq_zero, Int.ofNat_le, Int.ofNat_lt, Int.ofNat_inj, not_true_eq_false, not_false_eq_true, forall_const] at z
          exfalso; omega
        refine bX10_advance_357 (h _ (f3.trans ⟨fun a ha => u2_row ha, fun j hj => u2_k (by omega)⟩) ?_)
        rw [← hqp]
        refine ⟨⟨by rw [u2_k (by omega)]; exact e34, by omega⟩, ?_, ?_, ?_, ?_⟩
        · rw [u2_at]; simp [tsp, hend, hl, hdg]
        · rw [u2_k (by omega), e36]
          have : tk g q = g 1 q := by simp [tk, hend, hl, hdg]
          rw [this, tkI, if_neg (by omega)]
        · rw [u2_k (by omega), e37]; simp [tpk, hend, hl]; rfl
        · rw [u2_k (by omega), e38]; simp [tvl, hend, hl, hdg]; rfl
      refine bX10_advance_229 ?_
      rw [e36]
      refine ⟨fun z => ?_, fun z => ⟨fun z2 => ?_, fun z2 => ?_⟩⟩
      · simp (disch := omega) only [Int32.le_iff_toInt_le, Int32.lt_iff_toInt_lt, ← Int32.toInt_inj, nI_toInt, t_bq, t_pc8, t_bel, t_mI, t_ite, t_dec, sm_t, Int32.reduceToInt, t_m1, t_0, t_1, t_2, t_3, t_8, Int.natCast_eq_zero, Int.ofNat_le, Int.ofNat_lt, Int.ofNat_inj, not_true_eq_false, not_false_eq_true, forall_const] at z
        exact sign (by simp [isD]; omega)
      · simp (disch := omega) only [Int32.le_iff_toInt_le, Int32.lt_iff_toInt_lt, ← Int32.toInt_inj, nI_toInt, t_bq, t_pc8, t_bel, t_mI, t_ite, t_dec, sm_t, Int32.reduceToInt, t_m1, t_0, t_1, t_2, t_3, t_8, Int.natCast_eq_zero, Int.ofNat_le, Int.ofNat_lt, Int.ofNat_inj, not_true_eq_false, not_false_eq_true, forall_const] at z2
        exact sign (by simp [isD]; omega)
      · simp (disch := omega) only [Int32.le_iff_toInt_le, Int32.lt_iff_toInt_lt, ← Int32.toInt_inj, nI_toInt, t_bq, t_pc8, t_bel, t_mI, t_ite, t_dec, sm_t, Int32.reduceToInt, t_m1, t_0, t_1, t_2, t_3, t_8, Int.natCast_eq_zero, Int.ofNat_le, Int.ofNat_lt, Int.ofNat_inj, not_true_eq_false, not_false_eq_true, forall_const] at z
        simp (disch := omega) only [Int32.le_iff_toInt_le, Int32.lt_iff_toInt_lt, ← Int32.toInt_inj, nI_toInt, t_bq, t_pc8, t_bel, t_mI, t_ite, t_dec, sm_t, Int32.reduceToInt, t_m1, t_0, t_1, t_2, t_3, t_8, Int.natCast_eq_zero, Int.ofNat_le, Int.ofNat_lt, Int.ofNat_inj, not_true_eq_false, not_false_eq_true, forall_const] at z2
        have hdg : isD (g 1 q) = true := by simp [isD]; omega
        have hbb := hbf0 (a := 97) (b := 122) (by omega) (by omega)
        have t257 : ¬ (1 ≤ q ∧ 97 ≤ g 1 (q - 1) ∧ g 1 (q - 1) ≤ 122) → tk g q = 257 := fun z => by
          have z' : ¬ (1 ≤ q ∧ isL (g 1 (q - 1)) = true) := fun y => z ⟨y.1, isL_t.mp y.2⟩
          simp only [tk, hend, hl, hdg, if_false, if_true, Bool.false_eq_true]
          rw [if_neg z']
        have t258 : (1 ≤ q ∧ 97 ≤ g 1 (q - 1) ∧ g 1 (q - 1) ≤ 122) → tk g q = 258 := fun z => by
          have z' : (1 ≤ q ∧ isL (g 1 (q - 1)) = true) := ⟨z.1, isL_t.mpr z.2⟩
          simp only [tk, hend, hl, hdg, if_false, if_true, Bool.false_eq_true]
          rw [if_pos z']
        refine ⟨fun y => ?_, fun y => ⟨fun y2 => ?_, fun y2 => ?_⟩⟩
        · exact bX10_advance_266 (bX10_advance_269 (goD hl hdg _ (by rw [t257 (fun z => (hbb.mpr z).1 y)]; rfl)))
        · exact bX10_advance_266 (bX10_advance_269 (goD hl hdg _ (by rw [t257 (fun z => (hbb.mpr z).2 y2)]; rfl)))
        · exact bX10_advance_269 (goD hl hdg _ (by rw [t258 (hbb.mp ⟨y, y2⟩)]; rfl))
    refine ⟨fun z => ?_, fun z => ⟨fun z2 => ?_, fun z2 => ?_⟩⟩
    · simp (disch := omega) only [Int32.le_iff_toInt_le, Int32.lt_iff_toInt_lt, ← Int32.toInt_inj, nI_toInt, t_bq, t_pc8, t_bel, t_mI, t_ite, t_dec, sm_t, Int32.reduceToInt, t_m1, t_0, t_1, t_2, t_3, t_8, Int.natCast_eq_zero, Int.ofNat_le, Int.ofNat_lt, Int.ofNat_inj, not_true_eq_false, not_false_eq_true, forall_const] at z
      exact goS (by simp [isL]; omega)
    · simp (disch := omega) only [Int32.le_iff_toInt_le, Int32.lt_iff_toInt_lt, ← Int32.toInt_inj, nI_toInt, t_bq, t_pc8, t_bel, t_mI, t_ite, t_dec, sm_t, Int32.reduceToInt, t_m1, t_0, t_1, t_2, t_3, t_8, Int.natCast_eq_zero, Int.ofNat_le, Int.ofNat_lt, Int.ofNat_inj, not_true_eq_false, not_false_eq_true, forall_const] at z2
      exact goS (by simp [isL]; omega)
    · simp (disch := omega) only [Int32.le_iff_toInt_le, Int32.lt_iff_toInt_lt, ← Int32.toInt_inj, nI_toInt, t_bq, t_pc8, t_bel, t_mI, t_ite, t_dec, sm_t, Int32.reduceToInt, t_m1, t_0, t_1, t_2, t_3, t_8, Int.natCast_eq_zero, Int.ofNat_le, Int.ofNat_lt, Int.ofNat_inj, not_true_eq_false, not_false_eq_true, forall_const] at z
      simp (disch := omega) only [Int32.le_iff_toInt_le, Int32.lt_iff_toInt_lt, ← Int32.toInt_inj, nI_toInt, t_bq, t_pc8, t_bel, t_mI, t_ite, t_dec, sm_t, Int32.reduceToInt, t_m1, t_0, t_1, t_2, t_3, t_8, Int.natCast_eq_zero, Int.ofNat_le, Int.ofNat_lt, Int.ofNat_inj, not_true_eq_false, not_false_eq_true, forall_const] at z2
      have hl : isL (g 1 q) = true := by simp [isL]; omega
      have hbb := hbf0 (a := 48) (b := 57) (by omega) (by omega)
      have t256 : ¬ (1 ≤ q ∧ 48 ≤ g 1 (q - 1) ∧ g 1 (q - 1) ≤ 57) → tk g q = 256 := fun z => by
        have z' : ¬ (1 ≤ q ∧ isD (g 1 (q - 1)) = true) := fun y => z ⟨y.1, isD_t.mp y.2⟩
        simp only [tk, hend, hl, if_false, if_true]
        rw [if_neg z']
      have t258 : (1 ≤ q ∧ 48 ≤ g 1 (q - 1) ∧ g 1 (q - 1) ≤ 57) → tk g q = 258 := fun z => by
        have z' : (1 ≤ q ∧ isD (g 1 (q - 1)) = true) := ⟨z.1, isD_t.mpr z.2⟩
        simp only [tk, hend, hl, if_false, if_true]
        rw [if_pos z']
      refine ⟨fun y => ?_, fun y => ⟨fun y2 => ?_, fun y2 => ?_⟩⟩
      · exact bX10_advance_141 (bX10_advance_144 (goW hl _ (by rw [t256 (fun z => (hbb.mpr z).1 y)]; rfl)))
      · exact bX10_advance_141 (bX10_advance_144 (goW hl _ (by rw [t256 (fun z => (hbb.mpr z).2 y2)]; rfl)))
      · exact bX10_advance_144 (goW hl _ (by rw [t258 (hbb.mp ⟨y, y2⟩)]; rfl))
  -- the byte before
  have before : ∀ q, q = skp g p → q ≤ g 0 0 → GoV wX d mX10_advance 41 [(0, .ref 1), (1, .int (nI q))] [] I J K := by
    intro q hqp hq
    refine bX10_advance_41 ?_
    rw [hT.1.1]
    refine ⟨fun z => ?_, fun z => ⟨fun z2 => ?_, fun z2 => ?_⟩⟩
    · simp (disch := omega) only [Int32.le_iff_toInt_le, Int32.lt_iff_toInt_lt, ← Int32.toInt_inj, nI_toInt, t_bq, t_pc8, t_bel, t_mI, t_ite, t_dec, sm_t, Int32.reduceToInt, t_m1, t_0, t_1, t_2, t_3, t_8, Int.natCast_eq_zero, Int.ofNat_le, Int.ofNat_lt, Int.ofNat_inj, not_true_eq_false, not_false_eq_true, forall_const] at z
      exact bX10_advance_65 (stand q _ hqp hq (by rw [if_neg (by omega)]))
    · simp (disch := omega) only [Int32.le_iff_toInt_le, Int32.lt_iff_toInt_lt, ← Int32.toInt_inj, nI_toInt, t_bq, t_pc8, t_bel, t_mI, t_ite, t_dec, sm_t, Int32.reduceToInt, t_m1, t_0, t_1, t_2, t_3, t_8, Int.natCast_eq_zero, Int.ofNat_le, Int.ofNat_lt, Int.ofNat_inj, not_true_eq_false, not_false_eq_true, forall_const] at z2
      exfalso; omega
    · simp (disch := omega) only [Int32.le_iff_toInt_le, Int32.lt_iff_toInt_lt, ← Int32.toInt_inj, nI_toInt, t_bq, t_pc8, t_bel, t_mI, t_ite, t_dec, sm_t, Int32.reduceToInt, t_m1, t_0, t_1, t_2, t_3, t_8, Int.natCast_eq_zero, Int.ofNat_le, Int.ofNat_lt, Int.ofNat_inj, not_true_eq_false, not_false_eq_true, forall_const] at z
      rw [show nI q - 1 = nI (q - 1) from nI_sub (b := 1) (by omega), nI_clamp (by omega), (hby (q - 1) (by omega)).1]
      exact ⟨vp_in_nI (by omega) (by omega), stand q _ hqp hq (by rw [if_pos (by omega)])⟩
  have blank : ∀ r k, k + r = g 0 0 → skp g p = rn (fun k => isB (g 1 k)) (g 0 0) k → GoV wX d mX10_advance 5 [(0, .ref 1), (1, .int (nI k))] [] I J K := by
    intro r
    induction r with
    | zero =>
      intro k hk hs
      refine bX10_advance_5 ?_
      rw [hT.1.1]
      repeat' (first | (refine ⟨vp_in_nI (by omega) (by omega), ?_⟩) | (with_reducible refine And.intro ?_ ?_) | (with_reducible intro I9 e9; subst e9) | (with_reducible intro q9; try (simp (disch := omega) only [Int32.le_iff_toInt_le, Int32.lt_iff_toInt_lt, ← Int32.toInt_inj, nI_toInt, t_bq, t_pc8, t_bel, t_mI, t_ite, t_dec, sm_t, Int32.reduceToInt, t_m1, t_0, t_1, t_2, t_3, t_8, Int.natCast_eq_zero, Int.ofNat_le, Int.ofNat_lt, Int.ofNat_inj, not_true_eq_false, not_false_eq_true, forall_const] at q9); try (exfalso; omega)))
      exact before k (by rw [hs, rn_end (by omega)]) (by omega)
    | succ r ih =>
      intro k hk hs
      have hbk := hby k (by omega)
      refine bX10_advance_5 ?_
      rw [hT.1.1, nI_clamp (by omega), hbk.1]
      have on : isB (g 1 k) = true → GoV wX d mX10_advance 35 [(0, .ref 1), (1, .int (nI k))] [] I J K := fun z => bX10_advance_35 (by rw [nI_1]; exact ih (k + 1) (by omega) (by rw [hs, rn_go (q := fun k => isB (g 1 k)) (by omega) z]))
      refine ⟨fun z => ?_, fun _ => ⟨vp_in_nI (by omega) (by omega), fun z => ?_, fun z => ⟨fun z2 => ?_, fun z2 => ?_⟩⟩⟩
      · simp (disch := omega) only [Int32.le_iff_toInt_le, Int32.lt_iff_toInt_lt, ← Int32.toInt_inj, nI_toInt, t_bq, t_pc8, t_bel, t_mI, t_ite, t_dec, sm_t, Int32.reduceToInt, t_m1, t_0, t_1, t_2, t_3, t_8, Int.natCast_eq_zero, Int.ofNat_le, Int.ofNat_lt, Int.ofNat_inj, not_true_eq_false, not_false_eq_true, forall_const] at z
        exfalso; omega
      · simp (disch := omega) only [Int32.le_iff_toInt_le, Int32.lt_iff_toInt_lt, ← Int32.toInt_inj, nI_toInt, t_bq, t_pc8, t_bel, t_mI, t_ite, t_dec, sm_t, Int32.reduceToInt, t_m1, t_0, t_1, t_2, t_3, t_8, Int.natCast_eq_zero, Int.ofNat_le, Int.ofNat_lt, Int.ofNat_inj, not_true_eq_false, not_false_eq_true, forall_const] at z
        exact on (by simp [isB]; omega)
      · simp (disch := omega) only [Int32.le_iff_toInt_le, Int32.lt_iff_toInt_lt, ← Int32.toInt_inj, nI_toInt, t_bq, t_pc8, t_bel, t_mI, t_ite, t_dec, sm_t, Int32.reduceToInt, t_m1, t_0, t_1, t_2, t_3, t_8, Int.natCast_eq_zero, Int.ofNat_le, Int.ofNat_lt, Int.ofNat_inj, not_true_eq_false, not_false_eq_true, forall_const] at z
        simp (disch := omega) only [Int32.le_iff_toInt_le, Int32.lt_iff_toInt_lt, ← Int32.toInt_inj, nI_toInt, t_bq, t_pc8, t_bel, t_mI, t_ite, t_dec, sm_t, Int32.reduceToInt, t_m1, t_0, t_1, t_2, t_3, t_8, Int.natCast_eq_zero, Int.ofNat_le, Int.ofNat_lt, Int.ofNat_inj, not_true_eq_false, not_false_eq_true, forall_const] at z2
        exact before k (by rw [hs, rn_no (q := fun k => isB (g 1 k)) (by simp [isB]; omega)]) (by omega)
      · simp (disch := omega) only [Int32.le_iff_toInt_le, Int32.lt_iff_toInt_lt, ← Int32.toInt_inj, nI_toInt, t_bq, t_pc8, t_bel, t_mI, t_ite, t_dec, sm_t, Int32.reduceToInt, t_m1, t_0, t_1, t_2, t_3, t_8, Int.natCast_eq_zero, Int.ofNat_le, Int.ofNat_lt, Int.ofNat_inj, not_true_eq_false, not_false_eq_true, forall_const] at z2
        exact on (by simp [isB]; omega)
  refine Cal.of (by decide) (Nat.le_of_ble_eq_true rfl) (bX10_advance_0 ?_)
  rw [hp]
  exact blank (g 0 0 - p) p (by omega) rfl
end SP

/-! the class's face: on -/
def alB (q : Nat → Bool) : Nat → Bool
  | 0 => true
  | n + 1 => alB q n && q n
theorem alB_no {q : Nat → Bool} {k : Nat} (h : alB q k = false) : ∀ n, alB q (k + n) = false
  | 0 => h
  | n + 1 => by show (alB q (k + n) && _) = false; rw [alB_no h n]; rfl
theorem alB_at {q : Nat → Bool} : ∀ {n k : Nat}, alB q n = true → k < n → q k = true
  | 0, _, _, h => absurd h (by omega)
  | n + 1, k, h, hk => by
    simp only [alB, Bool.and_eq_true] at h
    by_cases e : k = n
    · subst e; exact h.2
    · exact alB_at h.1 (by omega)
theorem alB_of {q : Nat → Bool} : ∀ {n : Nat}, (∀ k, k < n → q k = true) → alB q n = true
  | 0, _ => rfl
  | n + 1, h => by simp only [alB, Bool.and_eq_true]; exact ⟨alB_of (fun k hk => h k (by omega)), h n (by omega)⟩
def rwq (sc g : Sx) (p : Nat) : Bool := decide (g 1 (2 + 5 * p) ≤ sc 0 1 ∧ g 1 (3 + 5 * p) < 2 ^ sc 0 0 ∧ g 1 (4 + 5 * p) < 2 ^ sc 0 0 ∧ g 1 (3 + 5 * p) &&& g 1 (4 + 5 * p) = 0 ∧ g 1 (5 + 5 * p) ≤ 9 ∧ g 1 (6 + 5 * p) ≤ 3)
def ldN (g : Sx) (n : Nat) : Sx := fun a k =>
  if a = 0 then (if k < n then g 1 (2 + 5 * k) else 0) else if a = 1 then (if k < n then g 1 (3 + 5 * k) else 0) else if a = 2 then (if k < n then g 1 (4 + 5 * k) else 0) else if a = 3 then (if k < n then g 1 (5 + 5 * k) else 0)
  else if a = 4 then (if k = 0 then 256 * g 1 0 + g 1 1 else if k = 1 then msk (fun p => decide (bq (g 1 (6 + 5 * p)) 0 = 1)) n else if k = 2 then msk (fun p => decide (bq (g 1 (6 + 5 * p)) 1 = 1)) n else 0) else 0
def onq (sc g : Sx) : Bool := decide (g 0 0 = 3 + 5 * sc 0 1) && decide (csm (g 1) (2 + 5 * sc 0 1) = g 1 (2 + 5 * sc 0 1)) && alB (rwq sc g) (sc 0 1) && alB (fun k => !(anc (ldN g (sc 0 1)) k 8 (ldN g (sc 0 1) 0 k))) (sc 0 1) && decide (256 * g 1 0 + g 1 1 ≤ 999)
section SP
variable {d : Nat} {I : Ii} {J : Jj} {sc s t g : Sx} {L : Nat → List Nat} {ps : Nat → Sx}
theorem s_fill {a n : Nat} {v : Int32} {K : KV} (ha : z_Ar wX a 1 n) (hn : n < 10000) (h : ∀ I', (∀ b, b ≠ a → I' b = I b) → (∀ k, k < n → I' a k = v) → K I' J) : CalV wX d mJ7_fill_53178 [.ref a, .int v] I J K := by
  refine Cal.ofF pf_fill (Nat.le_of_ble_eq_true rfl) (bJ7_fill_53178_0 ha ?_)
  have key : ∀ r k I1, k + r = n → (∀ b, b ≠ a → I1 b = I b) → (∀ j, j < k → I1 a j = v) → GoV wX d mJ7_fill_53178 5 [(0, .ref a), (1, .int v), (2, .int (nI k)), (3, .int (nI n))] [] I1 J K := by
    intro r
    induction r with
    | zero =>
      intro k I1 hk f1 hb
      obtain rfl : k = n := by omega
      exact bJ7_fill_53178_5 ha ⟨fun _ => h I1 f1 hb, fun q => absurd (Int32.le_refl _) q⟩
    | succ r ih =>
      intro k I1 hk f1 hb
      refine bJ7_fill_53178_5 ha ?_
      rw [nI_1, nI_clamp (by omega)]
      repeat' (first | (refine ⟨vp_in_nI (by omega) (by omega), ?_⟩) | (with_reducible refine And.intro ?_ ?_) | (with_reducible intro I9 e9; subst e9) | (with_reducible intro q9; try (simp (disch := omega) only [Int32.le_iff_toInt_le, Int32.lt_iff_toInt_lt, ← Int32.toInt_inj, nI_toInt, t_bq, t_pc8, t_bel, t_mI, t_ite, t_dec, sm_t, Int32.reduceToInt, t_m1, t_0, t_1, t_2, t_3, t_8, Int.natCast_eq_zero, Int.ofNat_le, Int.ofNat_lt, Int.ofNat_inj, not_true_eq_false, not_false_eq_true, forall_const] at q9); try (exfalso; omega)))
      refine ih (k + 1) _ (by omega) (fun b hb => by rw [u2_row hb]; exact f1 b hb) (fun j hj => ?_)
      by_cases e : j = k
      · subst e; rw [u2_at]
      · rw [u2_k e]; exact hb j (by omega)
  exact key n 0 I (by omega) (fun _ _ => rfl) (fun j hj => absurd hj (by omega))
theorem s_clear {o : Nat} {K : KV} (ho : z_Ob wX o 9) (h1 : z_Ar wX (o + 1) 1 8) (h2 : z_Ar wX (o + 2) 1 8) (h3 : z_Ar wX (o + 3) 1 8) (h4 : z_Ar wX (o + 4) 1 8) (h5 : ∀ k, k < 30 → I (o + 5) k = 0) (h : ∀ I', EnS I' o (fun _ _ => 0) → FrS o I I' → I' (o + 5) = I (o + 5) → K I' J) : CalV wX (d + 1) mX9_clear [.ref o] I J K := by
  refine Cal.of (by decide) (Nat.le_of_ble_eq_true rfl) (bX9_clear_0 ho ?_)
  rintro _ rfl
  refine s_fill h1 (by omega) (fun I1 f1 b1 => s_fill h2 (by omega) (fun I2 f2 b2 => s_fill h3 (by omega) (fun I3 f3 b3 => s_fill h4 (by omega) (fun I4 f4 b4 => ?_))))
  have row : ∀ a, a ≠ o → a ≠ o + 1 → a ≠ o + 2 → a ≠ o + 3 → a ≠ o + 4 → I4 a = I a := fun a z0 z1 z2 z3 z4 => by
    rw [f4 a z4, f3 a z3, f2 a z2, f1 a z1, u2_row z0, u2_row z0, u2_row z0, u2_row z0]
  have ro : I4 o = u2 (u2 (u2 (u2 I o 0 0) o 1 0) o 2 0) o 3 0 o := by rw [f4 o (by omega), f3 o (by omega), f2 o (by omega), f1 o (by omega)]
  refine h I4 ⟨fun k hk => ?_, fun k hk => ?_, fun k hk => ?_, fun k hk => ?_, ?_, ?_, ?_, ?_, fun k hk => ?_⟩ (fun a ha => row a (by omega) (by omega) (by omega) (by omega) (by omega)) (row _ (by omega) (by omega) (by omega) (by omega) (by omega))
  · rw [f4 _ (by omega), f3 _ (by omega), f2 _ (by omega), b1 k hk]; exact ⟨rfl, by simp⟩
  · rw [f4 _ (by omega), f3 _ (by omega), b2 k hk]; exact ⟨rfl, by simp⟩
  · rw [f4 _ (by omega), b3 k hk]; exact ⟨rfl, by simp⟩
  · rw [b4 k hk]; exact ⟨rfl, by simp⟩
  · rw [ro, u2_k (by omega), u2_k (by omega), u2_k (by omega), u2_at]; exact ⟨rfl, by simp⟩
  · rw [ro, u2_k (by omega), u2_k (by omega), u2_at]; exact ⟨rfl, by simp⟩
  · rw [ro, u2_k (by omega), u2_at]; exact ⟨rfl, by simp⟩
  · rw [ro, u2_at]; exact ⟨rfl, by simp⟩
  · rw [row _ (by omega) (by omega) (by omega) (by omega) (by omega), h5 k hk]; exact ⟨rfl, by simp⟩
theorem s_isSummed {n : Nat} {K : KI} (hT : EnT I g) (hn : n < g 0 0) (h : K (b01 (decide (csm (g 1) n = g 1 n))) I J) : CalI wX (d + 1) mX9_isSummed [.ref 1, .int (nI n)] I J K := by
  have h16 := hT.1.2
  refine Cal.of (by decide) (Nat.le_of_ble_eq_true rfl) (bX9_isSummed_0 ?_)
  have key : ∀ r k, k + r = n → GoI wX (d + 1) mX9_isSummed 5 [(0, .ref 1), (1, .int (nI n)), (2, .int (nI (csm (g 1) k))), (3, .int (nI k))] [] I J K := by
    intro r
    induction r with
    | zero =>
      intro k hk
      obtain rfl : k = n := by omega
      have hl := csm_lt (g 1) k
      have hb := (hT.2 k hn).2
      refine bX9_isSummed_5 ⟨fun _ => s_byteAt hT hn ⟨fun q => ?_, fun q => ?_⟩, fun q => absurd (Int32.le_refl _) q⟩
      · simp (disch := omega) only [Int32.le_iff_toInt_le, Int32.lt_iff_toInt_lt, ← Int32.toInt_inj, nI_toInt, t_bq, t_pc8, t_bel, t_mI, t_ite, t_dec, sm_t, Int32.reduceToInt, t_m1, t_0, t_1, t_2, t_3, t_8, Int.natCast_eq_zero, Int.ofNat_le, Int.ofNat_lt, Int.ofNat_inj, not_true_eq_false, not_false_eq_true, forall_const] at q
        rw [decide_eq_false (by omega)] at h; exact h
      · simp (disch := omega) only [Int32.le_iff_toInt_le, Int32.lt_iff_toInt_lt, ← Int32.toInt_inj, nI_toInt, t_bq, t_pc8, t_bel, t_mI, t_ite, t_dec, sm_t, Int32.reduceToInt, t_m1, t_0, t_1, t_2, t_3, t_8, Int.natCast_eq_zero, Int.ofNat_le, Int.ofNat_lt, Int.ofNat_inj, not_true_eq_false, not_false_eq_true, forall_const] at q
        rw [decide_eq_true (by omega)] at h; exact h
    | succ r ih =>
      intro k hk
      have hl := csm_lt (g 1) k
      have hb := (hT.2 k (by omega)).2
      refine bX9_isSummed_5 ?_
      rw [nI_1]
      repeat' (first | (refine ⟨vp_in_nI (by omega) (by omega), ?_⟩) | (with_reducible refine And.intro ?_ ?_) | (with_reducible intro I9 e9; subst e9) | (with_reducible intro q9; try (simp (disch := omega) only [Int32.le_iff_toInt_le, Int32.lt_iff_toInt_lt, ← Int32.toInt_inj, nI_toInt, t_bq, t_pc8, t_bel, t_mI, t_ite, t_dec, sm_t, Int32.reduceToInt, t_m1, t_0, t_1, t_2, t_3, t_8, Int.natCast_eq_zero, Int.ofNat_le, Int.ofNat_lt, Int.ofNat_inj, not_true_eq_false, not_false_eq_true, forall_const] at q9); try (exfalso; omega)))
      refine s_byteAt hT (by omega) ?_
      rintro _ rfl
      rw [show (3 : Int32) = nI 3 from rfl, show (251 : Int32) = nI 251 from rfl, pk_mul, nI_add, pk_rem (by omega) (by omega) (by omega)]
      exact ih (k + 1) (by omega)
  exact key n 0 (by omega)
theorem EnT.S {I I' : Ii} {o : Nat} (h : EnT I g) (ho : 2 < o) (hk : FrS o I I') : EnT I' g := by unfold EnT; rw [hk 1 (by omega), hk 2 (by omega)]; exact h
theorem nI_m1 {b : Nat} : nI b - 1 = mI b := by
  unfold mI
  split
  · next e => subst e; decide
  · next e =>
    obtain ⟨c, rfl⟩ : ∃ c, b = c + 1 := ⟨b - 1, by omega⟩
    exact nI_pred c
theorem or2 {a b F : Nat} (hF : F ≤ 8) : a ||| b < 2 ^ F ↔ a < 2 ^ F ∧ b < 2 ^ F := by
  constructor
  · intro h
    exact ⟨Nat.lt_of_le_of_lt Nat.left_le_or h, Nat.lt_of_le_of_lt Nat.right_le_or h⟩
  · rintro ⟨h1, h2⟩
    exact Nat.or_lt_two_pow h1 h2
theorem s_readRow {p : Nat} {K : KI} (hT : EnT I g) (hC : EnC I 3 sc L) (hp : p < sc 0 1) (hn : g 0 0 = 3 + 5 * sc 0 1) (hS : EnS I 25 (ldN g p)) (h1 : rwq sc g p = true → ∀ I', EnS I' 25 (ldN g (p + 1)) → FrS 25 I I' → I' 30 = I 30 → K 1 I' J) (h0 : rwq sc g p = false → ∀ I', FrS 25 I I' → I' 30 = I 30 → K 0 I' J) : CalI wX (d + 1) mX9_readRow [.ref 25, .ref 1, .int (nI p), .ref 3] I J K := by
  have hP := hC.2.1.2
  have hF := hC.1.2
  have f8 := p2_8 hF
  have b0 := (hT.2 (2 + 5 * p) (by omega)).2
  have b1 := (hT.2 (3 + 5 * p) (by omega)).2
  have b2 := (hT.2 (4 + 5 * p) (by omega)).2
  have b3 := (hT.2 (5 + 5 * p) (by omega)).2
  have b4 := (hT.2 (6 + 5 * p) (by omega)).2
  have tail : ∀ M : Ii, FrS 25 I M → M 30 = I 30 → M (25 + 1) p = mI (g 1 (2 + 5 * p)) → M (25 + 2) p = nI (g 1 (3 + 5 * p)) → M (25 + 3) p = nI (g 1 (4 + 5 * p)) → M (25 + 4) p = nI (g 1 (5 + 5 * p)) → (rwq sc g p = true → EnS M 25 (ldN g (p + 1))) →
      ((((M 3 1) ≤ (M (25 + 1) p)) → (K (0) M J)) ∧ ((¬ (M 3 1) ≤ (M (25 + 1) p)) → ((((1 <<< ((M 3 0) &&& 31)) ≤ ((M (25 + 2) p) ||| (M (25 + 3) p))) → (K (0) M J)) ∧ ((¬ (1 <<< ((M 3 0) &&& 31)) ≤ ((M (25 + 2) p) ||| (M (25 + 3) p))) → (((¬ ((M (25 + 2) p) &&& (M (25 + 3) p)) = 0) → (K (0) M J)) ∧ ((((M (25 + 2) p) &&& (M (25 + 3) p)) = 0) → (((9 < (M (25 + 4) p)) → (K (0) M J)) ∧ ((¬ 9 < (M (25 + 4) p)) → (((3 < nI (g 1 (6 + 5 * p))) → (K (0) M J)) ∧ ((¬ 3 < nI (g 1 (6 + 5 * p))) → (K (1) M J))))))))))) := by
    intro M fM m30 m1 m2 m3 m4 hE
    have or8 := or_lt8 b1 b2
    have and8 := and_lt8 (b := g 1 (4 + 5 * p)) b1
    have k1 := fun e => h1 e M (hE e) fM m30
    have k0 := fun e => h0 e M fM m30
    have ho2 := or2 (a := g 1 (3 + 5 * p)) (b := g 1 (4 + 5 * p)) hF
    rw [fM 3 (by omega), hC.1.1, hC.2.1.1, m1, m2, m3, m4, k8_sh _ (by omega), nI_or, nI_and, show (9 : Int32) = nI 9 from rfl, show (3 : Int32) = nI 3 from rfl]
    refine ⟨fun q => ?_, fun q => ⟨fun q2 => ?_, fun q2 => ⟨fun q3 => ?_, fun q3 => ⟨fun q4 => ?_, fun q4 => ⟨fun q5 => ?_, fun q5 => ?_⟩⟩⟩⟩⟩
    · simp (disch := omega) only [Int32.le_iff_toInt_le, Int32.lt_iff_toInt_lt, ← Int32.toInt_inj, nI_toInt, t_bq, t_pc8, t_bel, t_mI, t_ite, t_dec, sm_t, Int32.reduceToInt, t_m1, t_0, t_1, t_2, t_3, t_8, Int.natCast_eq_zero, Int.ofNat_le, Int.ofNat_lt, Int.ofNat_inj, not_true_eq_false, not_false_eq_true, forall_const] at q
      exact k0 (by simp only [rwq, decide_eq_false_iff_not]; omega)
    · simp (disch := omega) only [Int32.le_iff_toInt_le, Int32.lt_iff_toInt_lt, ← Int32.toInt_inj, nI_toInt, t_bq, t_pc8, t_bel, t_mI, t_ite, t_dec, sm_t, Int32.reduceToInt, t_m1, t_0, t_1, t_2, t_3, t_8, Int.natCast_eq_zero, Int.ofNat_le, Int.ofNat_lt, Int.ofNat_inj, not_true_eq_false, not_false_eq_true, forall_const] at q2
      exact k0 (by simp only [rwq, decide_eq_false_iff_not]; omega)
    · simp (disch := omega) only [Int32.le_iff_toInt_le, Int32.lt_iff_toInt_lt, ← Int32.toInt_inj, nI_toInt, t_bq, t_pc8, t_bel, t_mI, t_ite, t_dec, sm_t, Int32.reduceToInt, t_m1, t_0, t_1, t_2, t_3, t_8, Int.natCast_eq_zero, Int.ofNat_le, Int.ofNat_lt, Int.ofNat_inj, not_true_eq_false, not_false_eq_true, forall_const] at q3
      exact k0 (by simp only [rwq, decide_eq_false_iff_not]; omega)
    · simp (disch := omega) only [Int32.le_iff_toInt_le, Int32.lt_iff_toInt_lt, ← Int32.toInt_inj, nI_toInt, t_bq, t_pc8, t_bel, t_mI, t_ite, t_dec, sm_t, Int32.reduceToInt, t_m1, t_0, t_1, t_2, t_3, t_8, Int.natCast_eq_zero, Int.ofNat_le, Int.ofNat_lt, Int.ofNat_inj, not_true_eq_false, not_false_eq_true, forall_const] at q4
      exact k0 (by simp only [rwq, decide_eq_false_iff_not]; omega)
    · simp (disch := omega) only [Int32.le_iff_toInt_le, Int32.lt_iff_toInt_lt, ← Int32.toInt_inj, nI_toInt, t_bq, t_pc8, t_bel, t_mI, t_ite, t_dec, sm_t, Int32.reduceToInt, t_m1, t_0, t_1, t_2, t_3, t_8, Int.natCast_eq_zero, Int.ofNat_le, Int.ofNat_lt, Int.ofNat_inj, not_true_eq_false, not_false_eq_true, forall_const] at q5
      exact k0 (by simp only [rwq, decide_eq_false_iff_not]; omega)
    · simp (disch := omega) only [Int32.le_iff_toInt_le, Int32.lt_iff_toInt_lt, ← Int32.toInt_inj, nI_toInt, t_bq, t_pc8, t_bel, t_mI, t_ite, t_dec, sm_t, Int32.reduceToInt, t_m1, t_0, t_1, t_2, t_3, t_8, Int.natCast_eq_zero, Int.ofNat_le, Int.ofNat_lt, Int.ofNat_inj, not_true_eq_false, not_false_eq_true, forall_const] at q
      simp (disch := omega) only [Int32.le_iff_toInt_le, Int32.lt_iff_toInt_lt, ← Int32.toInt_inj, nI_toInt, t_bq, t_pc8, t_bel, t_mI, t_ite, t_dec, sm_t, Int32.reduceToInt, t_m1, t_0, t_1, t_2, t_3, t_8, Int.natCast_eq_zero, Int.ofNat_le, Int.ofNat_lt, Int.ofNat_inj, not_true_eq_false, not_false_eq_true, forall_const] at q2
      simp (disch := omega) only [Int32.le_iff_toInt_le, Int32.lt_iff_toInt_lt, ← Int32.toInt_inj, nI_toInt, t_bq, t_pc8, t_bel, t_mI, t_ite, t_dec, sm_t, Int32.reduceToInt, t_m1, t_0, t_1, t_2, t_3, t_8, Int.natCast_eq_zero, Int.ofNat_le, Int.ofNat_lt, Int.ofNat_inj, not_true_eq_false, not_false_eq_true, forall_const] at q3
      simp (disch := omega) only [Int32.le_iff_toInt_le, Int32.lt_iff_toInt_lt, ← Int32.toInt_inj, nI_toInt, t_bq, t_pc8, t_bel, t_mI, t_ite, t_dec, sm_t, Int32.reduceToInt, t_m1, t_0, t_1, t_2, t_3, t_8, Int.natCast_eq_zero, Int.ofNat_le, Int.ofNat_lt, Int.ofNat_inj, not_true_eq_false, not_false_eq_true, forall_const] at q4
      simp (disch := omega) only [Int32.le_iff_toInt_le, Int32.lt_iff_toInt_lt, ← Int32.toInt_inj, nI_toInt, t_bq, t_pc8, t_bel, t_mI, t_ite, t_dec, sm_t, Int32.reduceToInt, t_m1, t_0, t_1, t_2, t_3, t_8, Int.natCast_eq_zero, Int.ofNat_le, Int.ofNat_lt, Int.ofNat_inj, not_true_eq_false, not_false_eq_true, forall_const] at q5
      exact k1 (by simp only [rwq, decide_eq_true_eq]; omega)
  refine Cal.of (by decide) (Nat.le_of_ble_eq_true rfl) (bX9_readRow_0 obX_25 (s_isPlace (by omega) ⟨fun _ => ?_, fun q => absurd q (by decide)⟩))
  rw [show (2 : Int32) = nI 2 from rfl, show (5 : Int32) = nI 5 from rfl, show ((nI 2 + nI 5 * nI p) + 4 : Int32) = nI (6 + 5 * p) from by rw [pk_mul, nI_add, show (4 : Int32) = nI 4 from rfl, nI_add]; congr 1; omega,
    show ((nI 2 + nI 5 * nI p) + 1 : Int32) = nI (3 + 5 * p) from by rw [pk_mul, nI_add, nI_1]; congr 1; omega,
    show ((nI 2 + nI 5 * nI p) + nI 2 : Int32) = nI (4 + 5 * p) from by rw [pk_mul, nI_add, nI_add]; congr 1; omega,
    show ((nI 2 + nI 5 * nI p) + 3 : Int32) = nI (5 + 5 * p) from by rw [pk_mul, nI_add, show (3 : Int32) = nI 3 from rfl, nI_add]; congr 1; omega, pk_mul, nI_add, nI_clamp (by omega)]
  refine s_byteAt hT (by omega) (s_byteAt hT (by omega) ⟨vp_in_nI (by omega) (by omega), ?_⟩)
  have row : ∀ (M : Ii) (a k : Nat) (v : Int32), EnT M g → 2 < a → EnT (u2 M a k v) g := fun M a k v hM ha => by unfold EnT; rw [u2_row (by omega), u2_row (by omega)]; exact hM
  have hT1 := row I (25 + 1) p (nI (g 1 (2 + 5 * p)) - 1) hT (by omega)
  refine s_byteAt hT1 (by omega) ?_
  have hT2 := row _ (25 + 2) p (nI (g 1 (3 + 5 * p))) hT1 (by omega)
  refine s_byteAt hT2 (by omega) ?_
  have hT3 := row _ (25 + 3) p (nI (g 1 (4 + 5 * p))) hT2 (by omega)
  refine s_byteAt hT3 (by omega) ?_
  intro A eA
  have a1 : A (25 + 1) p = mI (g 1 (2 + 5 * p)) := by rw [eA, u2_o (by omega), u2_o (by omega), u2_o (by omega), u2_at, nI_m1]
  have a2 : A (25 + 2) p = nI (g 1 (3 + 5 * p)) := by rw [eA, u2_o (by omega), u2_o (by omega), u2_at]
  have a3 : A (25 + 3) p = nI (g 1 (4 + 5 * p)) := by rw [eA, u2_o (by omega), u2_at]
  have a4 : A (25 + 4) p = nI (g 1 (5 + 5 * p)) := by rw [eA, u2_at]
  have a0 : A 25 = I 25 := by rw [eA, u2_row (by omega), u2_row (by omega), u2_row (by omega), u2_row (by omega)]
  have aF : FrS 25 I A := fun a ha => by rw [eA, u2_row (by omega), u2_row (by omega), u2_row (by omega), u2_row (by omega)]
  have a30 : A 30 = I 30 := by rw [eA, u2_row (by omega), u2_row (by omega), u2_row (by omega), u2_row (by omega)]
  have ak : ∀ i k, k ≠ p → A (25 + i) k = I (25 + i) k := fun i k hk => by rw [eA, u2_k hk, u2_k hk, u2_k hk, u2_k hk]
  have fin : ∀ M : Ii, M = u2 (u2 A 25 1 (nI (ldN g (p + 1) 4 1))) 25 2 (nI (ldN g (p + 1) 4 2)) → FrS 25 I M ∧ M 30 = I 30 ∧ M (25 + 1) p = mI (g 1 (2 + 5 * p)) ∧ M (25 + 2) p = nI (g 1 (3 + 5 * p)) ∧ M (25 + 3) p = nI (g 1 (4 + 5 * p)) ∧ M (25 + 4) p = nI (g 1 (5 + 5 * p)) ∧ (rwq sc g p = true → EnS M 25 (ldN g (p + 1))) := by
    intro M eM
    have mr : ∀ a, a ≠ 25 → M a = A a := fun a ha => by rw [eM, u2_row ha, u2_row ha]
    refine ⟨fun a ha => by rw [mr a (by omega)]; exact aF a ha, by rw [mr 30 (by omega)]; exact a30, by rw [mr _ (by omega)]; exact a1, by rw [mr _ (by omega)]; exact a2, by rw [mr _ (by omega)]; exact a3, by rw [mr _ (by omega)]; exact a4, fun hq => ?_⟩
    simp only [rwq, decide_eq_true_eq] at hq
    have ll : ∀ q : Nat → Bool, msk q (p + 1) < 256 := fun q => Nat.lt_of_lt_of_le (msk_lt _ _) (p2_8 (by omega))
    refine ⟨fun k hk => ?_, fun k hk => ?_, fun k hk => ?_, fun k hk => ?_, ?_, ?_, ?_, ?_, fun k hk => ?_⟩
    · rw [mr _ (by omega)]
      by_cases e : k = p
      · subst e; rw [a1]; simp [ldN]; omega
      · rw [ak 1 k e]
        have := hS.1 k hk
        have e2 : k < p + 1 ↔ k < p := by omega
        simpa [ldN, e2] using this
    · rw [mr _ (by omega)]
      by_cases e : k = p
      · subst e; rw [a2]; simp [ldN]; omega
      · rw [ak 2 k e]
        have := hS.2.1 k hk
        have e2 : k < p + 1 ↔ k < p := by omega
        simpa [ldN, e2] using this
    · rw [mr _ (by omega)]
      by_cases e : k = p
      · subst e; rw [a3]; simp [ldN]; omega
      · rw [ak 3 k e]
        have := hS.2.2.1 k hk
        have e2 : k < p + 1 ↔ k < p := by omega
        simpa [ldN, e2] using this
    · rw [mr _ (by omega)]
      by_cases e : k = p
      · subst e; rw [a4]; simp [ldN]; omega
      · rw [ak 4 k e]
        have := hS.2.2.2.1 k hk
        have e2 : k < p + 1 ↔ k < p := by omega
        simpa [ldN, e2] using this
    · rw [eM, u2_k (by omega), u2_k (by omega), a0]; simpa [ldN] using hS.2.2.2.2.1
    · rw [eM, u2_k (by omega), u2_at]; exact ⟨rfl, by simpa [ldN] using ll _⟩
    · rw [eM, u2_at]; exact ⟨rfl, by simpa [ldN] using ll _⟩
    · rw [eM, u2_k (by omega), u2_k (by omega), a0]; simpa [ldN] using hS.2.2.2.2.2.2.2.1
    · rw [mr _ (by omega), show (25 + 5 : Nat) = 30 from rfl, a30]; simpa [ldN] using hS.2.2.2.2.2.2.2.2 k hk
  have p1 : A 25 1 = nI (msk (fun p => decide (bq (g 1 (6 + 5 * p)) 0 = 1)) p) := by rw [a0, hS.2.2.2.2.2.1.1]; simp [ldN]
  have p2 : A 25 2 = nI (msk (fun p => decide (bq (g 1 (6 + 5 * p)) 1 = 1)) p) := by rw [a0, hS.2.2.2.2.2.2.1.1]; simp [ldN]
  have n1 : ldN g (p + 1) 4 1 = msk (fun p => decide (bq (g 1 (6 + 5 * p)) 0 = 1)) (p + 1) := by simp [ldN]
  have n2 : ldN g (p + 1) 4 2 = msk (fun p => decide (bq (g 1 (6 + 5 * p)) 1 = 1)) (p + 1) := by simp [ldN]
  have v0 : ∀ {b : Nat}, bq (g 1 (6 + 5 * p)) b = 0 → nI (msk (fun p => decide (bq (g 1 (6 + 5 * p)) b = 1)) p) ||| 0 = nI (msk (fun p => decide (bq (g 1 (6 + 5 * p)) b = 1)) (p + 1)) := fun e => by rw [or0]; exact msk_no _ (by simp [e])
  have v1 : ∀ {b : Nat}, bq (g 1 (6 + 5 * p)) b = 1 → nI (msk (fun p => decide (bq (g 1 (6 + 5 * p)) b = 1)) p) ||| (1 <<< (nI p &&& 31)) = nI (msk (fun p => decide (bq (g 1 (6 + 5 * p)) b = 1)) (p + 1)) := fun e => msk_or _ (by omega) (by simp [e])
  rw [p1]
  refine s_hasBit (j := 0) b4 (by omega) ?_
  rcases bq01 (g 1 (6 + 5 * p)) 0 with e0 | e0
  · rw [e0]
    refine ⟨fun _ => ?_, fun q => absurd rfl q⟩
    rintro _ rfl
    rw [u2_k (by omega), p2, v0 e0]
    refine s_hasBit (j := 1) b4 (by omega) ?_
    rcases bq01 (g 1 (6 + 5 * p)) 1 with e1 | e1
    · rw [e1]
      refine ⟨fun _ => ?_, fun q => absurd rfl q⟩
      rintro M eM
      rw [v0 e1] at eM
      have := fin M (by rw [eM, n1, n2])
      exact tail M this.1 this.2.1 this.2.2.1 this.2.2.2.1 this.2.2.2.2.1 this.2.2.2.2.2.1 this.2.2.2.2.2.2
    · rw [e1]
      refine ⟨fun q => absurd q (by decide), fun _ => ?_⟩
      rintro M eM
      rw [v1 e1] at eM
      have := fin M (by rw [eM, n1, n2])
      exact tail M this.1 this.2.1 this.2.2.1 this.2.2.2.1 this.2.2.2.2.1 this.2.2.2.2.2.1 this.2.2.2.2.2.2
  · rw [e0]
    refine ⟨fun q => absurd q (by decide), fun _ => ?_⟩
    rintro _ rfl
    rw [u2_k (by omega), p2, v1 e0]
    refine s_hasBit (j := 1) b4 (by omega) ?_
    rcases bq01 (g 1 (6 + 5 * p)) 1 with e1 | e1
    · rw [e1]
      refine ⟨fun _ => ?_, fun q => absurd rfl q⟩
      rintro M eM
      rw [v0 e1] at eM
      have := fin M (by rw [eM, n1, n2])
      exact tail M this.1 this.2.1 this.2.2.1 this.2.2.2.1 this.2.2.2.2.1 this.2.2.2.2.2.1 this.2.2.2.2.2.2
    · rw [e1]
      refine ⟨fun q => absurd q (by decide), fun _ => ?_⟩
      rintro M eM
      rw [v1 e1] at eM
      have := fin M (by rw [eM, n1, n2])
      exact tail M this.1 this.2.1 this.2.2.1 this.2.2.2.1 this.2.2.2.2.1 this.2.2.2.2.2.1 this.2.2.2.2.2.2
end SP

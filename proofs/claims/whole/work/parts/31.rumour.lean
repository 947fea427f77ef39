/-! Rumour, the tape -/
/-- g 0 0: how many bytes the tape has, g 1 k: a byte; g 0 3: how many are heard, g 4 (2 k), g 4 (2 k + 1): who, what -/
def EnT (I : Ii) (g : Sx) : Prop := (I 1 1 = nI (g 0 0) ∧ g 0 0 ≤ 1600) ∧ ∀ k, k < g 0 0 → I 2 k = nI (g 1 k) ∧ g 1 k < 256
def EnR (I : Ii) (sc g : Sx) : Prop := (I 43 6 = nI (g 0 3) ∧ g 0 3 ≤ 16) ∧ ∀ k, k < g 0 3 → (I 50 k = nI (g 4 (2 * k)) ∧ g 4 (2 * k) < sc 0 1) ∧ I 51 k = nI (g 4 (2 * k + 1)) ∧ g 4 (2 * k + 1) ≤ 2
def hrN (sc g : Sx) : Nat → Bool
  | 0 => true
  | n + 1 => hrN sc g n && decide (g 1 (2 * n) < sc 0 1) && decide (g 1 (2 * n + 1) ≤ 2)
def hrk (sc g : Sx) : Bool := decide (g 0 0 % 2 = 0) && decide (1 ≤ g 0 0 / 2) && decide (g 0 0 / 2 ≤ 16) && hrN sc g (g 0 0 / 2)
def hrg (g : Sx) : Sx := fun a k => if a = 0 ∧ k = 3 then g 0 0 / 2 else if a = 4 then g 1 k else g a k
theorem hrN_no {sc g : Sx} {k : Nat} (h : hrN sc g k = false) : ∀ n, hrN sc g (k + n) = false
  | 0 => h
  | n + 1 => by show (hrN sc g (k + n) && _ && _) = false; rw [hrN_no h n]; rfl
theorem hrN_at {sc g : Sx} : ∀ {n k : Nat}, hrN sc g n = true → k < n → g 1 (2 * k) < sc 0 1 ∧ g 1 (2 * k + 1) ≤ 2
  | 0, _, _, h => absurd h (by omega)
  | n + 1, k, h, hk => by
    simp only [hrN, Bool.and_eq_true, decide_eq_true_eq] at h
    by_cases e : k = n
    · subst e; exact ⟨h.1.2, h.2⟩
    · exact hrN_at h.1.1 (by omega)
/-- all who had it: rightly, but for one -/
def spN (s : Sx) (src f : Nat) : Nat → Sx
  | 0 => s
  | n + 1 => if bel s n f ≠ 0 then blv (spN s src f n) n f (if n = src then 2 else 1) else spN s src f n
theorem spN_m (s : Sx) (src f i : Nat) (h1 : i ≠ 1) (h2 : i ≠ 2) : ∀ n, spN s src f n i = s i
  | 0 => rfl
  | n + 1 => by
    simp only [spN]
    split
    · rw [blv_m _ _ _ _ _ h1 h2]; exact spN_m s src f i h1 h2 n
    · exact spN_m s src f i h1 h2 n
theorem spN_WFS {sc s : Sx} {src f : Nat} (hF : sc 0 0 ≤ 8) (hP : sc 0 1 ≤ 8) (h : WFS sc s) (hf : f < sc 0 0) : ∀ n, n ≤ sc 0 1 → WFS sc (spN s src f n)
  | 0, _ => h
  | n + 1, hn => by
    have ih := spN_WFS (src := src) hF hP h hf n (by omega)
    simp only [spN]
    split
    · exact blv_WFS hF hP ih (by omega) hf
    · exact ih
/-- what is so, if src had it first -/
def sou (sc : Sx) (L : Nat → List Nat) (s : Sx) (f n src : Nat) : Sx := yrs sc L (spN s src f (sc 0 1)) n
def agr (g t : Sx) (f : Nat) : Nat → Bool
  | 0 => true
  | n + 1 => agr g t f n && decide (bel t (g 4 (2 * n)) f = g 4 (2 * n + 1))
theorem agr_no {g t : Sx} {f k : Nat} (h : agr g t f k = false) : ∀ n, agr g t f (k + n) = false
  | 0 => h
  | n + 1 => by show (agr g t f (k + n) && _) = false; rw [agr_no h n]; rfl
def srq (sc : Sx) (L : Nat → List Nat) (s g : Sx) (f n k : Nat) : Bool := decide (bel s k f ≠ 0) && agr g (sou sc L s f n k) f (g 0 3)
def srs (sc : Sx) (L : Nat → List Nat) (s g : Sx) (f n : Nat) : Nat := msk (srq sc L s g f n) (sc 0 1)
/-- among the sources: how many would have one believe b -/
def cls (sc : Sx) (L : Nat → List Nat) (s : Sx) (f n m p b : Nat) : Nat → Nat
  | 0 => 0
  | k + 1 => cls sc L s f n m p b k + (if bq m k = 1 ∧ bel (sou sc L s f n k) p f = b then 1 else 0)
theorem cls_le (sc : Sx) (L : Nat → List Nat) (s : Sx) (f n m p b : Nat) : ∀ k, cls sc L s f n m p b k ≤ k
  | 0 => by simp [cls]
  | k + 1 => by have := cls_le sc L s f n m p b k; simp only [cls]; split <;> omega
def mx (a b : Nat) : Nat := if a < b then b else a
def mlf (sc : Sx) (L : Nat → List Nat) (s : Sx) (f n m p : Nat) : Nat := mx (mx (mx 0 (cls sc L s f n m p 0 8)) (cls sc L s f n m p 1 8)) (cls sc L s f n m p 2 8)
def prb (sc : Sx) (L : Nat → List Nat) (s : Sx) (f n m : Nat) : Nat → Nat × Nat
  | 0 => (0, 0)
  | k + 1 => if (prb sc L s f n m k).1 = 0 ∨ mlf sc L s f n m k < (prb sc L s f n m k).2 then (k + 1, mlf sc L s f n m k) else prb sc L s f n m k
def FrG (I I' : Ii) : Prop := ∀ a, a ≠ 12 → a ≠ 33 → a ≠ 34 → a ≠ 35 → a ≠ 52 → (a < 44 ∨ 49 < a) → I' a = I a
theorem FrG.refl (I : Ii) : FrG I I := fun _ _ _ _ _ _ _ => rfl
theorem FrG.trans {I I1 I2 : Ii} (h1 : FrG I I1) (h2 : FrG I1 I2) : FrG I I2 := fun a h3 h4 h5 h6 h7 h8 => (h2 a h3 h4 h5 h6 h7 h8).trans (h1 a h3 h4 h5 h6 h7 h8)
theorem FrY.G {I I' : Ii} (h : FrY 44 I I') : FrG I I' := fun a h3 h4 h5 h6 _ h7 => h a h3 h4 h5 h6 (by omega)
theorem FrS.G {I I' : Ii} (h : FrS 44 I I') : FrG I I' := fun a _ _ _ _ _ h7 => h a (by omega)
theorem EnB.G {I I' : Ii} {sc s : Sx} {L : Nat → List Nat} (h : EnB I sc L s) (hk : FrG I I') : EnB I' sc L s := ⟨h.1.kept (fun a h1 h2 => hk a (by omega) (by omega) (by omega) (by omega) (by omega) (by omega)), h.2.1.kept (fun a h1 h2 => hk a (by omega) (by omega) (by omega) (by omega) (by omega) (by omega)), h.2.2.1, h.2.2.2⟩
theorem EnR.G {I I' : Ii} {sc g : Sx} (h : EnR I sc g) (hk : FrG I I') : EnR I' sc g := by
  unfold EnR at h ⊢
  rw [hk 43 (by omega) (by omega) (by omega) (by omega) (by omega) (by omega), hk 50 (by omega) (by omega) (by omega) (by omega) (by omega) (by omega), hk 51 (by omega) (by omega) (by omega) (by omega) (by omega) (by omega)]
  exact h
theorem k8_nbit : ∀ n, n < 256 → ∀ j, j < 8 → ((nI n ^^^ (-1)) >>> (nI j &&& 31)) &&& 1 = nI (1 - bq n j) := by decide +kernel
section SP
variable {d : Nat} {I : Ii} {J : Jj} {sc s t g : Sx} {L : Nat → List Nat}
theorem s_hasBitV {v : Int32} {b j : Nat} {K : KI} (hv : (v >>> (nI j &&& 31)) &&& 1 = nI b) (hb : b = 0 ∨ b = 1) (hj : j < 8) (h : K (nI b) I J) : CalI wX d mX12_hasBit [.int v, .int (nI j)] I J K := by
  refine Cal.of (by decide) (Nat.le_of_ble_eq_true rfl) (bX12_hasBit_0 ⟨fun q => absurd q (nI_pos (by omega)), fun _ => ⟨fun q => absurd ((nI_leI (a := 31) (by decide) (by omega)).mp q) (by omega), fun _ => ?_⟩⟩)
  rw [hv]
  rcases hb with rfl | rfl
  · exact ⟨fun _ => h, fun q => absurd q (by decide)⟩
  · exact ⟨fun q => absurd rfl q, fun _ => h⟩
theorem s_byteAt {k : Nat} {K : KI} (hT : EnT I g) (hk : k < g 0 0) (h : K (nI (g 1 k)) I J) : CalI wX d mX10_byteAt [.ref 1, .int (nI k)] I J K := by
  have h16 := hT.1.2
  refine Cal.of (by decide) (Nat.le_of_ble_eq_true rfl) (bX10_byteAt_0 ?_)
  rw [hT.1.1, nI_clamp (by omega), (hT.2 k hk).1, show (1600 : Int32) = nI 1600 from rfl]
  repeat' (first | (refine ⟨vp_in_nI (by omega) (by omega), ?_⟩) | (with_reducible refine And.intro ?_ ?_) | (with_reducible intro I9 e9; subst e9) | (with_reducible intro q9; try (simp (disch := omega) only [Int32.le_iff_toInt_le, Int32.lt_iff_toInt_lt, ← Int32.toInt_inj, nI_toInt, t_bq, t_pc8, t_bel, t_mI, t_ite, t_dec, sm_t, Int32.reduceToInt, t_m1, t_0, t_1, t_2, t_3, t_8, Int.natCast_eq_zero, Int.ofNat_le, Int.ofNat_lt, Int.ofNat_inj, not_true_eq_false, not_false_eq_true, forall_const] at q9); try (exfalso; omega)))
  exact h
theorem s_take {K : KI} (hT : EnT I g) (hC : EnC I 3 sc L) (h1 : hrk sc g = true → ∀ I', EnR I' sc (hrg g) → (∀ a, a ≠ 50 → a ≠ 51 → a ≠ 43 → I' a = I a) → K 1 I' J) (h0 : hrk sc g = false → K 0 I J) : CalI wX (d + 1) mX6_take [.ref 43, .ref 1] I J K := by
  have h16 := hT.1.2
  have hP := hC.2.1.2
  refine Cal.of (by decide) (Nat.le_of_ble_eq_true rfl) (bX6_take_0 ?_)
  rw [hT.1.1, show (2 : Int32) = nI 2 from rfl, pk_rem (by omega) (by omega) (by omega), pk_div (by omega) (by omega) (by omega), show (1 : Int32) = nI 1 from rfl, show (16 : Int32) = nI 16 from rfl]
  have l2 : hrk sc g = true → ∀ r k I1, k + r = g 0 0 / 2 → (∀ a, a ≠ 50 → a ≠ 51 → a ≠ 43 → I1 a = I a) → (∀ j, j < k → I1 50 j = nI (g 1 (2 * j)) ∧ I1 51 j = nI (g 1 (2 * j + 1))) → GoI wX (d + 1) mX6_take 76 [(0, .ref 43), (1, .ref 1), (2, .int (nI (g 0 0 / 2))), (3, .int (nI k))] [] I1 J K := by
    intro hh r
    have hh' := hh
    simp only [hrk, Bool.and_eq_true, decide_eq_true_eq] at hh'
    induction r with
    | zero =>
      intro k I1 hk fr hr
      obtain rfl : k = g 0 0 / 2 := by omega
      refine bX6_take_76 ?_
      repeat' (first | (refine ⟨vp_in_nI (by omega) (by omega), ?_⟩) | (with_reducible refine And.intro ?_ ?_) | (with_reducible intro I9 e9; subst e9) | (with_reducible intro q9; try (simp (disch := omega) only [Int32.le_iff_toInt_le, Int32.lt_iff_toInt_lt, ← Int32.toInt_inj, nI_toInt, t_bq, t_pc8, t_bel, t_mI, t_ite, t_dec, sm_t, Int32.reduceToInt, t_m1, t_0, t_1, t_2, t_3, t_8, Int.natCast_eq_zero, Int.ofNat_le, Int.ofNat_lt, Int.ofNat_inj, not_true_eq_false, not_false_eq_true, forall_const] at q9); try (exfalso; omega)))
      refine h1 hh _ ⟨⟨by rw [u2_at]; simp [hrg], by simp [hrg]; omega⟩, fun j hj => ?_⟩ (fun a h2 h3 h4 => by rw [u2_row h4]; exact fr a h2 h3 h4)
      have hj' : j < g 0 0 / 2 := by simpa [hrg] using hj
      have ha := hrN_at hh'.2 hj'
      have := hr j hj'
      rw [u2_o (by omega), u2_o (by omega)]
      simp only [hrg, show ¬ (4 : Nat) = 0 by omega, false_and, if_false, if_true]
      exact ⟨⟨this.1, ha.1⟩, this.2, ha.2⟩
    | succ r ih =>
      intro k I1 hk fr hr
      have e1 : I1 1 = I 1 := fr 1 (by omega) (by omega) (by omega)
      have e2 : I1 2 = I 2 := fr 2 (by omega) (by omega) (by omega)
      have hT1 : EnT I1 g := by unfold EnT; rw [e1, e2]; exact hT
      refine bX6_take_76 ?_
      rw [show (2 : Int32) = nI 2 from rfl, pk_mul, nI_1, nI_1, nI_clamp (by omega)]
      repeat' (first | (refine ⟨vp_in_nI (by omega) (by omega), ?_⟩) | (with_reducible refine And.intro ?_ ?_) | (with_reducible intro I9 e9; subst e9) | (with_reducible intro q9; try (simp (disch := omega) only [Int32.le_iff_toInt_le, Int32.lt_iff_toInt_lt, ← Int32.toInt_inj, nI_toInt, t_bq, t_pc8, t_bel, t_mI, t_ite, t_dec, sm_t, Int32.reduceToInt, t_m1, t_0, t_1, t_2, t_3, t_8, Int.natCast_eq_zero, Int.ofNat_le, Int.ofNat_lt, Int.ofNat_inj, not_true_eq_false, not_false_eq_true, forall_const] at q9); try (exfalso; omega)))
      refine s_byteAt hT1 (by omega) ⟨vp_in_nI (by omega) (by omega), ?_⟩
      have hT2 : EnT (u2 I1 50 k (nI (g 1 (2 * k)))) g := by unfold EnT; rw [u2_row (by omega), u2_row (by omega)]; exact hT1
      refine s_byteAt hT2 (by omega) ?_
      refine ih (k + 1) _ (by omega) (fun a h2 h3 h4 => by rw [u2_row h3, u2_row h2]; exact fr a h2 h3 h4) (fun j hj => ?_)
      by_cases e : j = k
      · subst e
        rw [u2_o (by omega), u2_at, u2_at]
        exact ⟨rfl, rfl⟩
      · rw [u2_o (by omega), u2_k e, u2_k e, u2_o (by omega)]
        exact hr j (by omega)
  have l1 : g 0 0 % 2 = 0 → 1 ≤ g 0 0 / 2 → g 0 0 / 2 ≤ 16 → ∀ r k, k + r = g 0 0 / 2 → hrN sc g k = true → GoI wX (d + 1) mX6_take 31 [(0, .ref 43), (1, .ref 1), (2, .int (nI (g 0 0 / 2))), (3, .int (nI k))] [] I J K := by
    intro z1 z2 z3 r
    induction r with
    | zero =>
      intro k hk hN
      obtain rfl : k = g 0 0 / 2 := by omega
      refine bX6_take_31 ?_
      repeat' (first | (refine ⟨vp_in_nI (by omega) (by omega), ?_⟩) | (with_reducible refine And.intro ?_ ?_) | (with_reducible intro I9 e9; subst e9) | (with_reducible intro q9; try (simp (disch := omega) only [Int32.le_iff_toInt_le, Int32.lt_iff_toInt_lt, ← Int32.toInt_inj, nI_toInt, t_bq, t_pc8, t_bel, t_mI, t_ite, t_dec, sm_t, Int32.reduceToInt, t_m1, t_0, t_1, t_2, t_3, t_8, Int.natCast_eq_zero, Int.ofNat_le, Int.ofNat_lt, Int.ofNat_inj, not_true_eq_false, not_false_eq_true, forall_const] at q9); try (exfalso; omega)))
      exact l2 (by simp [hrk, z1, z2, z3, hN]) (g 0 0 / 2) 0 I (by omega) (fun _ _ _ _ => rfl) (fun j hj => absurd hj (by omega))
    | succ r ih =>
      intro k hk hN
      refine bX6_take_31 ?_
      rw [show (2 : Int32) = nI 2 from rfl, pk_mul, nI_1, nI_1]
      have hno : hrN sc g (k + 1) = false → hrk sc g = false := fun z => by
        have := hrN_no z r
        rw [show k + 1 + r = g 0 0 / 2 by omega] at this
        simp [hrk, this]
      have b1 := (hT.2 (2 * k) (by omega)).2
      have b2 := (hT.2 (2 * k + 1) (by omega)).2
      repeat' (first | (refine ⟨vp_in_nI (by omega) (by omega), ?_⟩) | (with_reducible refine And.intro ?_ ?_) | (with_reducible intro I9 e9; subst e9) | (with_reducible intro q9; try (simp (disch := omega) only [Int32.le_iff_toInt_le, Int32.lt_iff_toInt_lt, ← Int32.toInt_inj, nI_toInt, t_bq, t_pc8, t_bel, t_mI, t_ite, t_dec, sm_t, Int32.reduceToInt, t_m1, t_0, t_1, t_2, t_3, t_8, Int.natCast_eq_zero, Int.ofNat_le, Int.ofNat_lt, Int.ofNat_inj, not_true_eq_false, not_false_eq_true, forall_const] at q9); try (exfalso; omega)))
      refine s_byteAt hT (by omega) ?_
      rw [hC.2.1.1]
      repeat' (first | (refine ⟨vp_in_nI (by omega) (by omega), ?_⟩) | (with_reducible refine And.intro ?_ ?_) | (with_reducible intro I9 e9; subst e9) | (with_reducible intro q9; try (simp (disch := omega) only [Int32.le_iff_toInt_le, Int32.lt_iff_toInt_lt, ← Int32.toInt_inj, nI_toInt, t_bq, t_pc8, t_bel, t_mI, t_ite, t_dec, sm_t, Int32.reduceToInt, t_m1, t_0, t_1, t_2, t_3, t_8, Int.natCast_eq_zero, Int.ofNat_le, Int.ofNat_lt, Int.ofNat_inj, not_true_eq_false, not_false_eq_true, forall_const] at q9); try (exfalso; omega)))
      · exact h0 (hno (by simp only [hrN]; simp; intro _; omega))
      · refine s_byteAt hT (by omega) ?_
        repeat' (first | (refine ⟨vp_in_nI (by omega) (by omega), ?_⟩) | (with_reducible refine And.intro ?_ ?_) | (with_reducible intro I9 e9; subst e9) | (with_reducible intro q9; try (simp (disch := omega) only [Int32.le_iff_toInt_le, Int32.lt_iff_toInt_lt, ← Int32.toInt_inj, nI_toInt, t_bq, t_pc8, t_bel, t_mI, t_ite, t_dec, sm_t, Int32.reduceToInt, t_m1, t_0, t_1, t_2, t_3, t_8, Int.natCast_eq_zero, Int.ofNat_le, Int.ofNat_lt, Int.ofNat_inj, not_true_eq_false, not_false_eq_true, forall_const] at q9); try (exfalso; omega)))
        · exact ih (k + 1) (by omega) (by simp only [hrN, hN, Bool.true_and, Bool.and_eq_true, decide_eq_true_eq]; omega)
        · exact h0 (hno (by simp only [hrN]; simp; intro _ _; omega))
  repeat' (first | (refine ⟨vp_in_nI (by omega) (by omega), ?_⟩) | (with_reducible refine And.intro ?_ ?_) | (with_reducible intro I9 e9; subst e9) | (with_reducible intro q9; try (simp (disch := omega) only [Int32.le_iff_toInt_le, Int32.lt_iff_toInt_lt, ← Int32.toInt_inj, nI_toInt, t_bq, t_pc8, t_bel, t_mI, t_ite, t_dec, sm_t, Int32.reduceToInt, t_m1, t_0, t_1, t_2, t_3, t_8, Int.natCast_eq_zero, Int.ofNat_le, Int.ofNat_lt, Int.ofNat_inj, not_true_eq_false, not_false_eq_true, forall_const] at q9); try (exfalso; omega)))
  · exact h0 (by simp [hrk]; omega)
  · exact h0 (by simp [hrk]; omega)
  · exact l1 (by omega) (by omega) (by omega) (g 0 0 / 2) 0 (by omega) rfl
  · exact h0 (by simp [hrk]; omega)
theorem bel_who {k f : Nat} (hk : k < 8) : bq (who s 1 f ||| who s 2 f) k = if bel s k f ≠ 0 then 1 else 0 := by
  have h1 : bq (who s 1 f) k = if bq (s 1 k) f = 1 then 1 else 0 := by unfold who; rw [msk_bq _ 8 k hk]; simp
  have h2 : bq (who s 2 f) k = if bq (s 2 k) f = 1 then 1 else 0 := by unfold who; rw [msk_bq _ 8 k hk]; simp
  rw [bq_or, h1, h2]
  unfold bel
  by_cases e1 : bq (s 1 k) f = 1
  · simp [e1]
  · by_cases e2 : bq (s 2 k) f = 1
    · simp [e1, e2]
    · simp [e1, e2]
theorem s_supposeSource {src f n : Nat} {K : KV} (hB : EnB I sc L s) (hsrc : src < 8) (hf : f < sc 0 0) (hn : s 4 0 + n ≤ 999) (h : ∀ I', EnS I' 44 (sou sc L s f n src) → FrY 44 I I' → K I' J) : CalV wX (d + 5) mX6_supposeSource [.ref 43, .int (nI src), .int (nI (who s 1 f ||| who s 2 f)), .int (nI f), .int (nI n)] I J K := by
  have hP := hB.1.2.1.2
  have hF := hB.1.1.2
  have hl := or_lt8 (who_lt s 1 f) (who_lt s 2 f)
  refine Cal.of (by decide) (Nat.le_of_ble_eq_true rfl) (bX6_supposeSource_0 (s_copyFrom obX_44 obX_19 hB.2.1 (by omega) (fun I1 h1 g1 => ?_)))
  have l2 : ∀ r k I1, k + r = n → FrY 44 I I1 → EnS I1 44 (yrs sc L (spN s src f (sc 0 1)) k) → GoV wX (d + 4 + 1) mX6_supposeSource 65 [(0, .ref 43), (4, .int (nI n)), (5, .int (nI k))] [] I1 J K := by
    intro r
    induction r with
    | zero =>
      intro k I1 hk f1 h1
      obtain rfl : k = n := by omega
      refine bX6_supposeSource_65 ?_
      repeat' (first | (refine ⟨vp_in_nI (by omega) (by omega), ?_⟩) | (with_reducible refine And.intro ?_ ?_) | (with_reducible intro I9 e9; subst e9) | (with_reducible intro q9; try (simp (disch := omega) only [Int32.le_iff_toInt_le, Int32.lt_iff_toInt_lt, ← Int32.toInt_inj, nI_toInt, t_bq, t_pc8, t_bel, t_mI, t_ite, t_dec, sm_t, Int32.reduceToInt, t_m1, t_0, t_1, t_2, t_3, t_8, Int.natCast_eq_zero, Int.ofNat_le, Int.ofNat_lt, Int.ofNat_inj, not_true_eq_false, not_false_eq_true, forall_const] at q9); try (exfalso; omega)))
      exact h I1 h1 f1
    | succ r ih =>
      intro k I1 hk f1 h1
      have hy := (yrs_m (sc := sc) (s := spN s src f (sc 0 1)) (L := L) k).2
      rw [spN_m _ _ _ 4 (by omega) (by omega)] at hy
      refine bX6_supposeSource_65 ?_
      rw [nI_1]
      repeat' (first | (refine ⟨vp_in_nI (by omega) (by omega), ?_⟩) | (with_reducible refine And.intro ?_ ?_) | (with_reducible intro I9 e9; subst e9) | (with_reducible intro q9; try (simp (disch := omega) only [Int32.le_iff_toInt_le, Int32.lt_iff_toInt_lt, ← Int32.toInt_inj, nI_toInt, t_bq, t_pc8, t_bel, t_mI, t_ite, t_dec, sm_t, Int32.reduceToInt, t_m1, t_0, t_1, t_2, t_3, t_8, Int.natCast_eq_zero, Int.ofNat_le, Int.ofNat_lt, Int.ofNat_inj, not_true_eq_false, not_false_eq_true, forall_const] at q9); try (exfalso; omega)))
      refine s_runYear (aw := 0) obX_44 (hB.G f1.G).1 h1 (by omega) (by omega) ((yrs_WFS hF hP (spN_WFS hF hP hB.2.2.1 hf _ (Nat.le_refl _)) k).m hP) (fun I2 h2 g2 => ?_)
      exact ih (k + 1) I2 (by omega) (f1.trans g2) h2
  have l1 : ∀ r k I1, k + r = sc 0 1 → FrY 44 I I1 → EnS I1 44 (spN s src f k) → GoV wX (d + 4 + 1) mX6_supposeSource 14 [(0, .ref 43), (1, .int (nI src)), (2, .int (nI (who s 1 f ||| who s 2 f))), (3, .int (nI f)), (4, .int (nI n)), (5, .int (nI k))] [] I1 J K := by
    intro r
    induction r with
    | zero =>
      intro k I1 hk f1 h1
      obtain rfl : k = sc 0 1 := by omega
      refine bX6_supposeSource_14 ?_
      rw [(hB.G f1.G).1.2.1.1]
      repeat' (first | (refine ⟨vp_in_nI (by omega) (by omega), ?_⟩) | (with_reducible refine And.intro ?_ ?_) | (with_reducible intro I9 e9; subst e9) | (with_reducible intro q9; try (simp (disch := omega) only [Int32.le_iff_toInt_le, Int32.lt_iff_toInt_lt, ← Int32.toInt_inj, nI_toInt, t_bq, t_pc8, t_bel, t_mI, t_ite, t_dec, sm_t, Int32.reduceToInt, t_m1, t_0, t_1, t_2, t_3, t_8, Int.natCast_eq_zero, Int.ofNat_le, Int.ofNat_lt, Int.ofNat_inj, not_true_eq_false, not_false_eq_true, forall_const] at q9); try (exfalso; omega)))
      exact l2 n 0 I1 (by omega) f1 h1
    | succ r ih =>
      intro k I1 hk f1 h1
      refine bX6_supposeSource_14 ?_
      rw [(hB.G f1.G).1.2.1.1, nI_1]
      repeat' (first | (refine ⟨vp_in_nI (by omega) (by omega), ?_⟩) | (with_reducible refine And.intro ?_ ?_) | (with_reducible intro I9 e9; subst e9) | (with_reducible intro q9; try (simp (disch := omega) only [Int32.le_iff_toInt_le, Int32.lt_iff_toInt_lt, ← Int32.toInt_inj, nI_toInt, t_bq, t_pc8, t_bel, t_mI, t_ite, t_dec, sm_t, Int32.reduceToInt, t_m1, t_0, t_1, t_2, t_3, t_8, Int.natCast_eq_zero, Int.ofNat_le, Int.ofNat_lt, Int.ofNat_inj, not_true_eq_false, not_false_eq_true, forall_const] at q9); try (exfalso; omega)))
      refine s_hasBit hl (by omega) ?_
      rw [bel_who (by omega)]
      by_cases e : bel s k f = 0
      · rw [if_neg (by simp [e])]
        refine ⟨fun _ => ?_, fun q => absurd rfl q⟩
        exact ih (k + 1) I1 (by omega) f1 (by simp only [spN]; rw [if_neg (by simp [e])]; exact h1)
      · rw [if_pos e]
        refine ⟨fun q => absurd q (by decide), fun _ => ?_⟩
        repeat' (first | (refine ⟨vp_in_nI (by omega) (by omega), ?_⟩) | (with_reducible refine And.intro ?_ ?_) | (with_reducible intro I9 e9; subst e9) | (with_reducible intro q9; try (simp (disch := omega) only [Int32.le_iff_toInt_le, Int32.lt_iff_toInt_lt, ← Int32.toInt_inj, nI_toInt, t_bq, t_pc8, t_bel, t_mI, t_ite, t_dec, sm_t, Int32.reduceToInt, t_m1, t_0, t_1, t_2, t_3, t_8, Int.natCast_eq_zero, Int.ofNat_le, Int.ofNat_lt, Int.ofNat_inj, not_true_eq_false, not_false_eq_true, forall_const] at q9); try (exfalso; omega)))
        · refine s_believe (b := 1) obX_44 h1 (by omega) (by omega) (by omega) (fun I2 h2 g2 => ?_)
          exact ih (k + 1) I2 (by omega) (f1.trans g2.Y) (by simp only [spN]; rw [if_pos e, if_neg (by omega)]; exact h2)
        · refine s_believe (b := 2) obX_44 h1 (by omega) (by omega) (by omega) (fun I2 h2 g2 => ?_)
          exact ih (k + 1) I2 (by omega) (f1.trans g2.Y) (by simp only [spN]; rw [if_pos e, if_pos (by omega)]; exact h2)
  exact l1 (sc 0 1) 0 I1 (by omega) g1.Y h1
theorem s_agrees {f : Nat} {K : KI} (hR : EnR I sc g) (hP : sc 0 1 ≤ 8) (ht : EnS I 44 t) (hf : f < 8) (h : K (if agr g t f (g 0 3) then 1 else 0) I J) : CalI wX (d + 2) mX6_agrees [.ref 43, .int (nI f)] I J K := by
  have h16 := hR.1.2
  refine Cal.of (by decide) (Nat.le_of_ble_eq_true rfl) (bX6_agrees_0 ?_)
  have key : ∀ r k, k + r = g 0 3 → agr g t f k = true → GoI wX (d + 1 + 1) mX6_agrees 2 [(0, .ref 43), (1, .int (nI f)), (2, .int (nI k))] [] I J K := by
    intro r
    induction r with
    | zero =>
      intro k hk ha
      obtain rfl : k = g 0 3 := by omega
      refine bX6_agrees_2 ?_
      rw [hR.1.1]
      repeat' (first | (refine ⟨vp_in_nI (by omega) (by omega), ?_⟩) | (with_reducible refine And.intro ?_ ?_) | (with_reducible intro I9 e9; subst e9) | (with_reducible intro q9; try (simp (disch := omega) only [Int32.le_iff_toInt_le, Int32.lt_iff_toInt_lt, ← Int32.toInt_inj, nI_toInt, t_bq, t_pc8, t_bel, t_mI, t_ite, t_dec, sm_t, Int32.reduceToInt, t_m1, t_0, t_1, t_2, t_3, t_8, Int.natCast_eq_zero, Int.ofNat_le, Int.ofNat_lt, Int.ofNat_inj, not_true_eq_false, not_false_eq_true, forall_const] at q9); try (exfalso; omega)))
      rw [if_pos ha] at h
      exact h
    | succ r ih =>
      intro k hk ha
      have hrk := hR.2 k (by omega)
      have b3 := bel3 t (g 4 (2 * k)) f
      refine bX6_agrees_2 ?_
      rw [hR.1.1, nI_1, nI_clamp (by omega), hrk.1.1, show (16 : Int32) = nI 16 from rfl]
      repeat' (first | (refine ⟨vp_in_nI (by omega) (by omega), ?_⟩) | (with_reducible refine And.intro ?_ ?_) | (with_reducible intro I9 e9; subst e9) | (with_reducible intro q9; try (simp (disch := omega) only [Int32.le_iff_toInt_le, Int32.lt_iff_toInt_lt, ← Int32.toInt_inj, nI_toInt, t_bq, t_pc8, t_bel, t_mI, t_ite, t_dec, sm_t, Int32.reduceToInt, t_m1, t_0, t_1, t_2, t_3, t_8, Int.natCast_eq_zero, Int.ofNat_le, Int.ofNat_lt, Int.ofNat_inj, not_true_eq_false, not_false_eq_true, forall_const] at q9); try (exfalso; omega)))
      refine s_beliefOf obX_44 ht (by omega) hf ?_
      rw [hrk.2.1]
      repeat' (first | (refine ⟨vp_in_nI (by omega) (by omega), ?_⟩) | (with_reducible refine And.intro ?_ ?_) | (with_reducible intro I9 e9; subst e9) | (with_reducible intro q9; try (simp (disch := omega) only [Int32.le_iff_toInt_le, Int32.lt_iff_toInt_lt, ← Int32.toInt_inj, nI_toInt, t_bq, t_pc8, t_bel, t_mI, t_ite, t_dec, sm_t, Int32.reduceToInt, t_m1, t_0, t_1, t_2, t_3, t_8, Int.natCast_eq_zero, Int.ofNat_le, Int.ofNat_lt, Int.ofNat_inj, not_true_eq_false, not_false_eq_true, forall_const] at q9); try (exfalso; omega)))
      · exact ih (k + 1) (by omega) (by simp only [agr, ha, Bool.true_and, decide_eq_true_eq]; omega)
      · have := agr_no (g := g) (t := t) (f := f) (k := k + 1) (by simp only [agr, ha, Bool.true_and, decide_eq_false_iff_not]; omega) r
        rw [show k + 1 + r = g 0 3 by omega] at this
        rw [this] at h
        exact h
  exact key (g 0 3) 0 (by omega) rfl
end SP

/-! names in two writings; the reference's letter, image, on -/
def lt32 (v i : Nat) : Nat := v / 32 ^ i % 32
def f27 (v : Nat) : Nat → Nat
  | 0 => 0
  | k + 1 => 27 * f27 v k + lt32 v k
def Ln (v l : Nat) : Prop := (∀ i, i < l → 1 ≤ lt32 v i ∧ lt32 v i ≤ 26) ∧ v / 32 ^ l = 0
theorem lt32_s (v i : Nat) : lt32 (v / 32) i = lt32 v (i + 1) := by unfold lt32; rw [Nat.div_div_eq_div_mul, Nat.pow_succ, Nat.mul_comm]
theorem wfn_len : ∀ n v, wfn n v = true → ∃ l, l ≤ n ∧ Ln v l
  | 0, v, h => by
    simp only [wfn, decide_eq_true_eq] at h
    exact ⟨0, by omega, fun i hi => absurd hi (by omega), by rw [h]⟩
  | n + 1, v, h => by
    simp only [wfn, Bool.or_eq_true, Bool.and_eq_true, decide_eq_true_eq] at h
    rcases h with h | ⟨h1, h2⟩
    · exact ⟨0, by omega, fun i hi => absurd hi (by omega), by rw [h]⟩
    · obtain ⟨l, hl, ⟨h3, h4⟩⟩ := wfn_len n (v / 32) h2
      refine ⟨l + 1, by omega, fun i hi => ?_, ?_⟩
      · cases i with
        | zero => simpa [lt32] using h1
        | succ i => rw [← lt32_s]; exact h3 i (by omega)
      · rw [Nat.pow_succ, Nat.mul_comm, ← Nat.div_div_eq_div_mul]; exact h4
theorem Ln_ne {v l i : Nat} (h : Ln v l) (hi : i < l) : v / 32 ^ i ≠ 0 := fun z => by
  have := (h.1 i hi).1
  unfold lt32 at this
  rw [z] at this
  simp at this
theorem c27_f {v l : Nat} (h : Ln v l) : ∀ n i, i ≤ l → l ≤ i + n → c27 n (f27 v i) (v / 32 ^ i) = f27 v l
  | 0, i, h1, h2 => by
    obtain rfl : i = l := by omega
    rfl
  | n + 1, i, h1, h2 => by
    simp only [c27]
    by_cases z : v / 32 ^ i = 0
    · rw [if_pos z]
      have : ¬ i < l := fun y => Ln_ne h y z
      obtain rfl : i = l := by omega
      rfl
    · rw [if_neg z]
      have hi : i < l := by
        rcases Nat.lt_or_ge i l with y | y
        · exact y
        · obtain rfl : i = l := by omega
          exact absurd h.2 z
      have e : v / 32 ^ i / 32 = v / 32 ^ (i + 1) := by rw [Nat.div_div_eq_div_mul, Nat.pow_succ]
      rw [e]
      exact c27_f h n (i + 1) (by omega) (by omega)
theorem n27_f {v l : Nat} (h : Ln v l) (hl : l ≤ 6) : n27 v = f27 v l := by
  have := c27_f h 6 0 (by omega) (by omega)
  simpa [n27, f27] using this
theorem f27_d {v l k : Nat} (h : Ln v l) (hk : k < l) : f27 v (k + 1) / 27 = f27 v k ∧ f27 v (k + 1) % 27 = lt32 v k ∧ 1 ≤ f27 v (k + 1) := by
  have := h.1 k hk
  simp only [f27]
  omega
theorem f27_lt {v l : Nat} (h : Ln v l) : ∀ k, k ≤ l → f27 v k < 27 ^ k
  | 0, _ => by simp [f27]
  | k + 1, hk => by
    have := f27_lt h k (by omega)
    have := (h.1 k (by omega)).2
    simp only [f27]
    rw [Nat.pow_succ]
    omega
theorem f27_inj {v w l m : Nat} (hv : Ln v l) (hw : Ln w m) : ∀ a b, a ≤ l → b ≤ m → f27 v a = f27 w b → a = b ∧ ∀ i, i < a → lt32 v i = lt32 w i
  | 0, 0, _, _, _ => ⟨rfl, fun i hi => absurd hi (by omega)⟩
  | 0, b + 1, _, hb, h => by have := (f27_d hw (show b < m by omega)).2.2; simp only [f27] at h this; omega
  | a + 1, 0, ha, _, h => by have := (f27_d hv (show a < l by omega)).2.2; simp only [f27] at h this; omega
  | a + 1, b + 1, ha, hb, h => by
    have h1 := f27_d hv (show a < l by omega)
    have h2 := f27_d hw (show b < m by omega)
    rw [h] at h1
    obtain ⟨e, ih⟩ := f27_inj hv hw a b (by omega) (by omega) (by omega)
    subst e
    refine ⟨rfl, fun i hi => ?_⟩
    by_cases z : i = a
    · subst z; omega
    · exact ih i (by omega)
theorem lt32_sum (v : Nat) : ∀ k, v % 32 ^ (k + 1) = v % 32 ^ k + 32 ^ k * lt32 v k := fun k => by
  unfold lt32
  rw [Nat.pow_succ, Nat.mod_mul]
theorem lt32_ext {v w : Nat} : ∀ k, (∀ i, i < k → lt32 v i = lt32 w i) → v % 32 ^ k = w % 32 ^ k
  | 0, _ => by rw [Nat.pow_zero, Nat.mod_one, Nat.mod_one]
  | k + 1, h => by rw [lt32_sum, lt32_sum, lt32_ext k (fun i hi => h i (by omega)), h k (by omega)]
theorem Ln_mod {v l : Nat} (h : Ln v l) : v % 32 ^ l = v := by
  have := Nat.div_add_mod v (32 ^ l)
  rw [h.2] at this
  omega
theorem n27_inj {v w : Nat} (hv : nmOK v) (hw : nmOK w) : n27 v = n27 w ↔ v = w := by
  obtain ⟨l, h1, h2⟩ := wfn_len 6 v hv.2.2
  obtain ⟨m, h3, h4⟩ := wfn_len 6 w hw.2.2
  constructor
  · intro h
    rw [n27_f h2 h1, n27_f h4 h3] at h
    obtain ⟨e, hi⟩ := f27_inj h2 h4 l m (by omega) (by omega) h
    subst e
    have := lt32_ext l hi
    rw [Ln_mod h2, Ln_mod h4] at this
    exact this
  · intro h; rw [h]
theorem n27_lt {v : Nat} (hv : nmOK v) : n27 v < 387420489 := by
  obtain ⟨l, h1, h2⟩ := wfn_len 6 v hv.2.2
  rw [n27_f h2 h1]
  have := f27_lt h2 l (by omega)
  have : 27 ^ l ≤ 27 ^ 6 := Nat.pow_le_pow_right (by omega) h1
  omega
section MB
variable {d : Nat} {I I' : Ii} {J J' : Jj} {sc s g g' : Sx} {L : Nat → List Nat} {ps : Nat → Sx} {p f : Nat}
theorem lN_div {a m : Nat} (ha : a < 2 ^ 62) (h0 : 0 < m) (hm : m < 2 ^ 62) : lN a / lN m = lN (a / m) := by
  apply i64_ext
  rw [Jvm.Kit.i64_div (by rw [pk_lT (by omega)]; omega), pk_lT (by omega), pk_lT (by omega), pk_lT (by have := Nat.div_le_self a m; omega), Int.tdiv_eq_ediv_of_nonneg (by omega)]
  rfl
theorem lN_mod {a m : Nat} (ha : a < 2 ^ 62) (h0 : 0 < m) (hm : m < 2 ^ 62) : lN a - lN a / lN m * lN m = lN (a % m) := by
  apply i64_ext
  rw [Jvm.Kit.i64_rem_nonneg (by rw [pk_lT (by omega)]; omega), pk_lT (by omega), pk_lT (by omega), pk_lT (by have := Nat.mod_lt a h0; omega)]
  omega
/-- a letter out of a name -/
theorem m_letr {v k : Nat} {y : Int64} {K : KI} (hv : nmOK v) (hk : k < 6) (ey : y = lN (n27 v)) (h : K (nI (v / 32 ^ k % 32)) I J) : GoI wM (d + 1) mX13_letter 67 [(3, .int (nI k)), (4, .long y), (6, .int (nI 0)), (7, .long y)] [] I J K := by
  obtain ⟨l, h1, h2⟩ := wfn_len 6 v hv.2.2
  rw [n27_f h2 h1] at ey
  subst ey
  have hb : ∀ i, i ≤ l → f27 v i < 2 ^ 62 := fun i hi => by
    have := f27_lt h2 i hi
    have : 27 ^ i ≤ 27 ^ 6 := Nat.pow_le_pow_right (by omega) (by omega)
    omega
  have dn : ∀ e i, i + e = l → 1 ≤ i → k < i → GoI wM (d + 1) mX13_letter 102 [(3, .int (nI k)), (4, .long (lN (f27 v i))), (7, .int (nI (i - 1)))] [] I J K → GoI wM (d + 1) mX13_letter 102 [(3, .int (nI k)), (4, .long (lN (f27 v l))), (7, .int (nI (l - 1)))] [] I J K := by
    intro e
    induction e with
    | zero =>
      intro i hi _ _ hG
      obtain rfl : i = l := by omega
      exact hG
    | succ e ih =>
      intro i hi h1i hki hG
      refine ih (i + 1) (by omega) (by omega) (by omega) (bX13_letter_102 ⟨fun q => absurd ((nI_leI (by omega) (by omega)).mp q) (by omega), fun _ => ?_⟩)
      rw [show (27 : Int64) = lN 27 from rfl, lN_div (hb _ (by omega)) (by omega) (by omega), (f27_d h2 (show i < l by omega)).1, litm1, show i + 1 - 1 = (i - 1) + 1 by omega, pk_m1]
      exact hG
  have cnt : ∀ e i, i + e = l → GoI wM (d + 1) mX13_letter 67 [(3, .int (nI k)), (4, .long (lN (f27 v l))), (6, .int (nI i)), (7, .long (lN (f27 v e)))] [] I J K := by
    intro e
    induction e with
    | zero =>
      intro i hi
      obtain rfl : i = l := by omega
      refine bX13_letter_67 ⟨fun _ => ⟨fun q => ?_, fun q => ?_⟩, fun q => absurd (by rw [lgc_le]; exact Int64.le_refl _) q⟩
      · have hki := (nI_ltI (by omega) (by omega)).mp q
        rw [nIm1 (by omega)]
        refine dn (i - (k + 1)) (k + 1) (by omega) (by omega) (by omega) (bX13_letter_102 ⟨fun _ => ?_, fun q => absurd (nI_le (by omega) (by omega)) q⟩)
        rw [show (27 : Int64) = lN 27 from rfl, lN_mod (hb _ (by omega)) (by omega) (by omega), (f27_d h2 hki).2.1, lN_i]
        exact h
      · have hki : ¬ k < i := fun z => q (nI_lt z (by omega))
        have : v / 32 ^ k = 0 := by
          obtain ⟨c, rfl⟩ : ∃ c, k = i + c := ⟨k - i, by omega⟩
          rw [Nat.pow_add, ← Nat.div_div_eq_div_mul, h2.2, Nat.zero_div]
        rw [this] at h
        exact h
    | succ e ih =>
      intro i hi
      have hd := f27_d h2 (show e < l by omega)
      refine bX13_letter_67 ⟨fun q => ?_, fun _ => ?_⟩
      · rw [lgc_le, show (0 : Int64) = lN 0 from rfl, Int64.le_iff_toInt_le, pk_lT (by have := hb (e + 1) (by omega); omega), pk_lT (by omega)] at q
        omega
      · rw [show (27 : Int64) = lN 27 from rfl, lN_div (hb _ (by omega)) (by omega) (by omega), hd.1, nI_1]
        exact ih (i + 1) (by omega)
  exact cnt l 0 (by omega)
theorem y_letter {a b c : Int32} {K : KI} (hM : EnM I J sc L s ps g) (h : K (r_letter sc a b c) I J) : CalI wM (d + 1) mX13_letter [.ref 0, .int a, .int b, .int c] I J K := by
  obtain ⟨hC, hV, -⟩ := id hM
  have hP := hV.2.2.1
  have hF := hV.2.2.2.1
  unfold r_letter at h
  have e2 : ∀ k, (2 : Int32) + nI k = nI (2 + k) := fun k => by rw [show (2 : Int32) = nI 2 from rfl, nI_add]
  refine Cal.of (by decide) (Nat.le_of_ble_eq_true rfl) (bX13_letter_0 (m_isInC (n := 1) (by omega) ⟨fun q => ?_, fun q => ?_⟩))
  · rw [b01_0, isin_2] at q
    have q' : ¬ (a = 0 ∨ a = 1) := by simpa using q
    have w1 : ¬ (a = 0 ∧ isin b (sc 0 0) = true) := fun z => q' (Or.inl z.1)
    have w2 : ¬ (a = 1 ∧ isin b (sc 0 1) = true) := fun z => q' (Or.inr z.1)
    rw [if_neg w1, if_neg w2] at h
    have : (if isin c 6 = true then (-1 : Int32) else -1) = -1 := by split <;> rfl
    rw [this] at h
    exact h
  rw [b01_n] at q
  have ha := pair_w q
  have part : ∀ (i N : Nat), a = nI i → i < 2 → N ≤ 8 → I 31 (2 + i) = nI N → (∀ k, k < N → ∃ w, nmOK w ∧ J 32 (16 + 8 * i + k) = lN (n27 w) ∧ (isin c 6 = true → isin b N = true → idx b = k → K (nI (w / 32 ^ idx c % 32)) I J)) → (¬ (isin c 6 = true ∧ isin b N = true) → K (-1) I J) → (vp_in (2 + a) 4 ∧ (CalI wM d mX13_isIn [.long (b.toInt64), .long (0), .long (((I 31 (2 + a).toNatClampNeg) - 1).toInt64)] I J (fun x8 I6 J7 => (((x8 = 0) → (K ((-1)) I6 J7)) ∧ ((¬ x8 = 0) → (CalI wM d mX13_isIn [.long (c.toInt64), .long (0), .long (5)] I6 J7 (fun x12 I10 J11 => (((¬ x12 = 0) → (vp_in ((16 + (8 * a)) + b) 32 ∧ (∀ y15 : Int64, y15 = J11 32 ((16 + (8 * a)) + b).toNatClampNeg → (GoI wM (d + 1) mX13_letter 67 [(3, .int (c)), (4, .long (y15)), (6, .int (0)), (7, .long (y15))] [] I10 J11 K)))) ∧ ((x12 = 0) → (K ((-1)) I10 J11)))))))))) := by
    intro i N ei hi hN h31 hk hno
    rw [ei, e2, nI_clamp (by omega), h31]
    refine ⟨vp_in_nI (by omega) (by omega), m_isInN (by omega) ⟨fun z => ?_, fun z => m_isInC (n := 5) (by omega) ⟨fun z2 => ?_, fun z2 => ?_⟩⟩⟩
    · rw [b01_0] at z; exact hno (fun y => by rw [z] at y; exact absurd y.2 (by decide))
    · rw [b01_n] at z z2
      obtain ⟨eb, hb⟩ := isin_t z
      obtain ⟨ec, hc⟩ := isin_t z2
      obtain ⟨w, hw1, hw2, hw3⟩ := hk (idx b) hb
      have e16 : (16 : Int32) + 8 * nI i + b = nI (16 + 8 * i + idx b) := by rw [eb, show (16 : Int32) = nI 16 from rfl, show (8 : Int32) = nI 8 from rfl, pk_mul, nI_add, nI_add, idx_nI (by omega)]
      rw [e16, nI_clamp (by omega), hw2]
      refine ⟨vp_in_nI (by omega) (by omega), fun y ey => ?_⟩
      have := m_letr (d := d) (I := I) (J := J) (v := w) (k := idx c) (y := y) hw1 hc ey (hw3 z2 z rfl)
      rw [← ec] at this
      exact this
    · rw [b01_0] at z2; exact hno (fun y => by rw [z2] at y; exact absurd y.1 (by decide))
  rcases ha with rfl | rfl
  · refine part 0 (sc 0 0) rfl (by omega) hF hC.1.1 (fun k hk => ⟨sc 1 k, (hC.2.2.2.2.2.1 k hk).2.1, (hC.2.2.2.2.2.1 k hk).1, fun z1 z2 z3 => ?_⟩) (fun z => ?_)
    · rw [if_pos z1, if_pos ⟨rfl, z2⟩, z3] at h; exact h
    · have e1 : ¬ ((0 : Int32) = 1 ∧ isin b (sc 0 1) = true) := fun y => absurd y.1 (by decide)
      rw [if_neg e1] at h
      by_cases y1 : isin c 6 = true
      · rw [if_pos y1, if_neg (fun y => z ⟨y1, y.2⟩)] at h; exact h
      · rw [if_neg y1] at h; exact h
  · refine part 1 (sc 0 1) rfl (by omega) hP hC.2.1.1 (fun k hk => ⟨sc 3 k, (hC.2.2.2.2.2.2.1 k hk).2.1, (hC.2.2.2.2.2.2.1 k hk).1, fun z1 z2 z3 => ?_⟩) (fun z => ?_)
    · rw [if_pos z1, if_neg (fun y => absurd y.1 (by decide)), if_pos ⟨rfl, z2⟩, z3] at h; exact h
    · have e1 : ¬ ((1 : Int32) = 0 ∧ isin b (sc 0 0) = true) := fun y => absurd y.1 (by decide)
      rw [if_neg e1] at h
      by_cases y1 : isin c 6 = true
      · rw [if_pos y1, if_neg (fun y => z ⟨y1, y.2⟩)] at h; exact h
      · rw [if_neg y1] at h; exact h
theorem m_checked {a N n : Nat} {b : Nat → Nat} {K : KI} (ha : z_Ar wM a 1 N) (hn : n ≤ N) (hN : N < 10000) (hb : ∀ k, k < n → I a k = nI (b k) ∧ b k < 256) (h : K (nI (csm b n)) I J) : CalI wM d mX13_checked [.ref a, .int (nI n)] I J K := by
  refine Cal.of (by decide) (Nat.le_of_ble_eq_true rfl) (bX13_checked_0 ha ?_)
  have key : ∀ e k, k + e = n → GoI wM d mX13_checked 5 [(0, .ref a), (1, .int (nI n)), (2, .int (nI (csm b k))), (3, .int (nI k))] [] I J K := by
    intro e
    induction e with
    | zero =>
      intro k hk
      obtain rfl : k = n := by omega
      exact bX13_checked_5 ha ⟨fun _ => h, fun q => absurd (nI_le (Nat.le_refl _) (by omega)) q⟩
    | succ e ih =>
      intro k hk
      have hc := csm_lt b k
      have hbk := hb k (by omega)
      refine bX13_checked_5 ha ⟨fun q => absurd ((nI_leI (by omega) (by omega)).mp q) (by omega), fun _ => ⟨vp_in_nI (by omega) (by omega), ?_⟩⟩
      rw [nI_clamp (by omega), hbk.1, nI_1, show (3 : Int32) = nI 3 from rfl, pk_mul, nI_add, show (251 : Int32) = nI 251 from rfl, pk_rem (by omega) (by omega) (by omega)]
      rintro _ rfl
      exact ih (k + 1) (by omega)
  exact key n 0 (by omega)
/-- n bytes of the image are written -/
def Wrt (I : Ii) (s : Sx) (n : Nat) (I1 : Ii) : Prop := (∀ a, a ≠ 0 → a ≠ 78 → I1 a = I a) ∧ (∀ k, k ≠ 104 → I1 0 k = I 0 k) ∧ I1 0 104 = nI n ∧ ∀ k, k < n → I1 78 k = nI (imb s k)
theorem m_writes {n : Nat} {x : Int32} {I1 : Ii} {K : KV} (hW : Wrt I s n I1) (hn : n < 43) (hx : x = nI (imb s n)) (h : ∀ I2, Wrt I s (n + 1) I2 → K I2 J) : CalV wM d mX13_writes [.ref 0, .int x] I1 J K := by
  refine Cal.of (by decide) (Nat.le_of_ble_eq_true rfl) (bX13_writes_0 ?_)
  rw [hW.2.2.1, nI_clamp (by omega)]
  refine ⟨vp_in_nI hn (by omega), ?_⟩
  rintro _ rfl
  rw [u2_row (by omega), hW.2.2.1, nI_1]
  refine h _ ⟨fun a z0 z => by rw [u2_row z0, u2_row z]; exact hW.1 a z0 z, fun k z => by rw [u2_k z, u2_row (by omega)]; exact hW.2.1 k z, u2_at _ _ _ _, fun k hk => ?_⟩
  rw [u2_row (by omega)]
  by_cases z : k = n
  · rw [z, u2_at, hx]
  · rw [u2_k z]; exact hW.2.2.2 k (by omega)
theorem imb_ltM (hV : EnV I sc s) (hy : s 4 0 ≤ 999) {k : Nat} (hk : k < 42) : imb s k < 256 := by
  unfold imb
  split
  · omega
  · split
    · omega
    · have hb := hV.b (p := (k - 2) / 5) (by omega)
      have := bq2 (s 4 1) ((k - 2) / 5)
      have := bq2 (s 4 2) ((k - 2) / 5)
      split
      · omega
      · split
        · omega
        · split
          · omega
          · split <;> omega
theorem y_image {K : KI} (hM : EnM I J sc L s ps g) (h : ∀ I' J', EnM I' J' sc L s ps (g_im sc s g) → K (nI (3 + 5 * sc 0 1)) I' J') : CalI wM (d + 2) mX13_image [.ref 0] I J K := by
  obtain ⟨hC, hV, hy, -⟩ := id hM
  have hP := hV.2.2.1
  have eC : ∀ n I1, Wrt I s n I1 → EnMC I1 J sc L := fun n I1 hW => hC.kept (fun a ha => hW.1 a (by omega) (by omega)) rfl
  have eV : ∀ n I1, Wrt I s n I1 → EnV I1 sc s := fun n I1 hW => hV.row (hW.1 42 (by omega) (by omega))
  have outer : ∀ e k I1, k + e = sc 0 1 → Wrt I s (2 + 5 * k) I1 → GoI wM (d + 1 + 1) mX13_image 35 [(0, .ref 0), (1, .int (nI k))] [] I1 J K := by
    intro e
    induction e with
    | zero =>
      intro k I1 hk hW
      obtain rfl : k = sc 0 1 := by omega
      refine bX13_image_35 (m_pm (eC _ _ hW) ⟨fun _ => ?_, fun q => absurd (nI_le (Nat.le_refl _) (by omega)) q⟩)
      rw [hW.2.2.1]
      refine m_checked (b := imb s) arM_78 (by omega) (by omega) (fun k hk => ⟨hW.2.2.2 k hk, imb_ltM hV hy.1 (by omega)⟩) ?_
      refine Cal.of (by decide) (Nat.le_of_ble_eq_true rfl) (bX13_writes_0 ?_)
      rw [hW.2.2.1, nI_clamp (by omega)]
      refine ⟨vp_in_nI (by omega) (by omega), ?_⟩
      rintro _ rfl
      rw [u2_at, u2_row (show (0 : Nat) ≠ 78 by omega), hW.2.2.1, nI_1, show 2 + 5 * sc 0 1 + 1 = 3 + 5 * sc 0 1 by omega]
      obtain ⟨h1, h2, h3, h4, h5, h6, h7, h8, h9, h10, h11, h12, h13⟩ := id hM
      have e0 : ∀ i k, ¬ (i = 0 ∧ k = 4) → i ≠ 3 → g_im sc s g i k = g i k := fun i k z1 z2 => by simp only [g_im]; rw [if_neg z1, if_neg z2]
      have r0 : ∀ k, k ≠ 104 → u2 (u2 I1 78 (2 + 5 * sc 0 1) (nI (csm (imb s) (2 + 5 * sc 0 1)))) 0 104 (nI (3 + 5 * sc 0 1)) 0 k = I 0 k := fun k z => by rw [u2_k z, u2_row (by omega)]; exact hW.2.1 k z
      have r1 : ∀ a, a ≠ 0 → a ≠ 78 → u2 (u2 I1 78 (2 + 5 * sc 0 1) (nI (csm (imb s) (2 + 5 * sc 0 1)))) 0 104 (nI (3 + 5 * sc 0 1)) a = I a := fun a z0 z => by rw [u2_row z0, u2_row z]; exact hW.1 a z0 z
      refine h _ _ (hM.re (fun a z0 _ _ _ z => r1 a z0 z) (r0 58 (by omega)) (r0 65 (by omega)) (r0 66 (by omega)) rfl (e0 0 6 (by omega) (by omega)) ?_ ?_ ?_ (fun k hk => ?_) ?_ ?_)
      · unfold EnMT; rw [r0 1 (by omega), r1 1 (by omega) (by omega), e0 0 0 (by omega) (by omega)]
        refine ⟨h6.1, fun k hk => ?_⟩
        rw [e0 1 k (by omega) (by omega)]; exact h6.2 k hk
      · unfold EnMR; rw [r0 60 (by omega), r1 46 (by omega) (by omega), e0 0 3 (by omega) (by omega)]
        refine ⟨h7.1, fun k hk => ?_⟩
        rw [e0 4 _ (by omega) (by omega), e0 4 _ (by omega) (by omega)]; exact h7.2 k hk
      · rw [r0 7 (by omega), r0 8 (by omega), e0 0 1 (by omega) (by omega), e0 0 2 (by omega) (by omega)]; exact h8
      · rw [r1 2 (by omega) (by omega), e0 2 k (by omega) (by omega)]; exact h9 k hk
      · have e4 : g_im sc s g 0 4 = 3 + 5 * sc 0 1 := by simp [g_im]
        refine ⟨⟨by rw [u2_at, e4], by rw [e4]; omega⟩, fun k hk => ?_⟩
        rw [e4] at hk
        rw [u2_row (by omega)]
        have e3 : g_im sc s g 3 k = if k = 2 + 5 * sc 0 1 then csm (imb s) (2 + 5 * sc 0 1) else imb s k := by simp [g_im]
        rw [e3]
        by_cases z : k = 2 + 5 * sc 0 1
        · rw [z, u2_at, if_pos rfl]
        · rw [u2_k z, if_neg z]; exact hW.2.2.2 k (by omega)
      · rw [e0 0 5 (by omega) (by omega)]; exact h11
    | succ e ih =>
      intro k I1 hk hW
      have hn := hV.1.2 k (by omega)
      have hk8 : k < 8 := by omega
      refine bX13_image_35 (m_pm (eC _ _ hW) ⟨fun q => absurd ((nI_leI (by omega) (by omega)).mp q) (by omega), fun _ => m_masterOf (eV _ _ hW) (by omega) ?_⟩)
      rw [mI_1]
      have im : ∀ j, j < 5 → imb s (2 + 5 * k + j) = if j = 0 then s 0 k else if j = 1 then s 1 k else if j = 2 then s 2 k else if j = 3 then s 3 k else bq (s 4 1) k + 2 * bq (s 4 2) k := fun j hj => by
        unfold imb
        rw [if_neg (by omega), if_neg (by omega), show (2 + 5 * k + j - 2) % 5 = j by omega, show (2 + 5 * k + j - 2) / 5 = k by omega]
      refine m_writes hW (by omega) (by have := im 0 (by omega); rw [Nat.add_zero, if_pos rfl] at this; rw [this]) (fun I2 hW2 => ?_)
      have inner : ∀ e2 j I3, j + e2 = 5 → 1 ≤ j → Wrt I s (2 + 5 * k + j) I3 → GoI wM (d + 1 + 1) mX13_image 56 [(0, .ref 0), (1, .int (nI k)), (2, .int (nI j))] [] I3 J K := by
        intro e2
        induction e2 with
        | zero =>
          intro j I3 hj h1j hW3
          obtain rfl : j = 5 := by omega
          refine bX13_image_56 ⟨fun _ => ?_, fun q => absurd (by decide) q⟩
          rw [nI_1]
          exact ih (k + 1) I3 (by omega) (by rw [show 2 + 5 * (k + 1) = 2 + 5 * k + 5 by omega]; exact hW3)
        | succ e2 ih2 =>
          intro j I3 hj h1j hW3
          refine bX13_image_56 ⟨fun q => absurd ((nI_leI (a := 5) (by decide) (by omega)).mp q) (by omega), fun _ => ?_⟩
          rw [ixP, nI_add, nI_clamp (by omega), nI_1 j, hW3.1 42 (by omega) (by omega)]
          refine ⟨vp_in_nI (by omega) (by omega), m_writes hW3 (by omega) ?_ (fun I4 hW4 => ih2 (j + 1) I4 (by omega) (by omega) hW4)⟩
          rw [im j (by omega), if_neg (by omega)]
          rcases (show j = 1 ∨ j = 2 ∨ j = 3 ∨ j = 4 by omega) with rfl | rfl | rfl | rfl
          · rw [if_pos rfl, show 1 + 5 * k + 1 = 2 + 5 * k by omega]; exact hn.2.1
          · rw [if_neg (by omega), if_pos rfl, show 1 + 5 * k + 2 = 3 + 5 * k by omega]; exact hn.2.2.1
          · rw [if_neg (by omega), if_neg (by omega), if_pos rfl, show 1 + 5 * k + 3 = 4 + 5 * k by omega]; exact hn.2.2.2.1
          · rw [if_neg (by omega), if_neg (by omega), if_neg (by omega), show 1 + 5 * k + 4 = 5 + 5 * k by omega]; exact hn.2.2.2.2
      exact inner 4 1 I2 (by omega) (by omega) hW2
  refine Cal.of (by decide) (Nat.le_of_ble_eq_true rfl) (bX13_image_0 ?_)
  rintro _ rfl
  have hW0 : Wrt I s 0 (u2 I 0 104 0) := ⟨fun a z0 _ => u2_row z0, fun k z => u2_k z, u2_at _ _ _ _, fun k hk => absurd hk (by omega)⟩
  rw [c0, u2_row (by omega), hV.1.1, show (256 : Int32) = nI 256 from rfl, pk_div (by omega) (by omega) (by omega)]
  refine m_writes hW0 (by omega) (by simp [imb]) (fun I2 hW2 => ?_)
  rw [hW2.1 42 (by omega) (by omega), hV.1.1, pk_rem (by omega) (by omega) (by omega)]
  refine m_writes hW2 (by omega) (by simp [imb]) (fun I3 hW3 => ?_)
  exact outer (sc 0 1) 0 I3 (by omega) hW3
end MB

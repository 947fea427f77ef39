/-! the reference: names -/
section MX
variable {d : Nat} {I : Ii} {J : Jj} {g : Sx} {q : Nat}
theorem m_isOwnHere {K : KI} (hG : TxG I g) (hp : Rpr I g q) (h : ∀ I', FrK I I' → Rlk I' g q → K (b01 (decide (wd g q < 28))) I' J) : CalI wM (d + 2) mX13_isOwnHere [.ref 0] I J K := by
  have y353 : ∀ I1, FrK I I1 → Rlk I1 g q → wd g q < 28 → GoI wM (d + 2) mX13_isOwnHere 353 [] [.int 1] I1 J K := fun I1 f1 r1 z => by
    have := h I1 f1 r1
    rw [decide_eq_true z] at this
    exact bX13_isOwnHere_353 ⟨Or.inr rfl, this⟩
  have y348 : ∀ I1, FrK I I1 → Rlk I1 g q → wd g q < 28 → GoI wM (d + 2) mX13_isOwnHere 348 [] [] I1 J K := fun I1 f1 r1 z => bX13_isOwnHere_348 (y353 I1 f1 r1 z)
  have y294 : ∀ I1, FrK I I1 → Rlk I1 g q → wd g q < 28 → GoI wM (d + 2) mX13_isOwnHere 294 [(0, .ref 0)] [] I1 J K := fun I1 f1 r1 z => bX13_isOwnHere_294 (bX13_isOwnHere_299 ⟨fun _ => y348 I1 f1 r1 z, fun y => absurd y (by decide)⟩)
  have y218 : ∀ I1, FrK I I1 → Rlk I1 g q → wd g q < 28 → GoI wM (d + 2) mX13_isOwnHere 218 [(0, .ref 0)] [] I1 J K := fun I1 f1 r1 z => bX13_isOwnHere_218 (bX13_isOwnHere_223 ⟨fun _ => y294 I1 f1 r1 z, fun y => absurd y (by decide)⟩)
  have y142 : ∀ I1, FrK I I1 → Rlk I1 g q → wd g q < 28 → GoI wM (d + 2) mX13_isOwnHere 142 [(0, .ref 0)] [] I1 J K := fun I1 f1 r1 z => bX13_isOwnHere_142 (bX13_isOwnHere_147 ⟨fun _ => y218 I1 f1 r1 z, fun y => absurd y (by decide)⟩)
  have y66 : ∀ I1, FrK I I1 → Rlk I1 g q → wd g q < 28 → GoI wM (d + 2) mX13_isOwnHere 66 [(0, .ref 0)] [] I1 J K := fun I1 f1 r1 z => bX13_isOwnHere_66 (bX13_isOwnHere_71 ⟨fun _ => y142 I1 f1 r1 z, fun y => absurd y (by decide)⟩)
  refine Cal.of (by decide) (Nat.le_of_ble_eq_true rfl) (bX13_isOwnHere_0 ?_)
  refine m_isHere (a := 3) hG hp (by unfold isW; omega) (fun I1 f1 r1 => here_fi (fun z => y66 I1 ((FrK.refl I).trans f1) r1 (by have z : wd g q = 0 := z; omega)) (fun z1 => ?_))
  have F1 := (FrK.refl I).trans f1
  refine m_isHere (a := 4) (hG.K F1) r1.P (by unfold isW; omega) (fun I2 f2 r2 => here_fi (fun z => y66 I2 (F1.trans f2) r2 (by have z : wd g q = 20 := z; omega)) (fun z2 => ?_))
  have F2 := F1.trans f2
  refine m_isHere (a := 5) (hG.K F2) r2.P (by unfold isW; omega) (fun I3 f3 r3 => here_fi (fun z => y66 I3 (F2.trans f3) r3 (by have z : wd g q = 1 := z; omega)) (fun z3 => ?_))
  have F3 := F2.trans f3
  refine m_isHere (a := 6) (hG.K F3) r3.P (by unfold isW; omega) (fun I4 f4 r4 => here_fi (fun z => y66 I4 (F3.trans f4) r4 (by have z : wd g q = 16 := z; omega)) (fun z4 => ?_))
  have F4 := F3.trans f4
  refine m_isHere (a := 7) (hG.K F4) r4.P (by unfold isW; omega) (fun I5 f5 r5 => here_fi (fun z => y66 I5 (F4.trans f5) r5 (by have z : wd g q = 26 := z; omega)) (fun z5 => ?_))
  have F5 := F4.trans f5
  refine m_isHere (a := 8) (hG.K F5) r5.P (by unfold isW; omega) (fun I6 f6 r6 => here_if (fun z => y66 I6 (F5.trans f6) r6 (by have z : wd g q = 27 := z; omega)) (fun z6 => ?_))
  have F6 := F5.trans f6
  refine bX13_isOwnHere_71 ⟨fun y => absurd rfl y, fun _ => ?_⟩
  refine m_isHere (a := 9) (hG.K F6) r6.P (by unfold isW; omega) (fun I7 f7 r7 => here_fi (fun z => y142 I7 (F6.trans f7) r7 (by have z : wd g q = 2 := z; omega)) (fun z7 => ?_))
  have F7 := F6.trans f7
  refine m_isHere (a := 10) (hG.K F7) r7.P (by unfold isW; omega) (fun I8 f8 r8 => here_fi (fun z => y142 I8 (F7.trans f8) r8 (by have z : wd g q = 3 := z; omega)) (fun z8 => ?_))
  have F8 := F7.trans f8
  refine m_isHere (a := 11) (hG.K F8) r8.P (by unfold isW; omega) (fun I9 f9 r9 => here_fi (fun z => y142 I9 (F8.trans f9) r9 (by have z : wd g q = 4 := z; omega)) (fun z9 => ?_))
  have F9 := F8.trans f9
  refine m_isHere (a := 12) (hG.K F9) r9.P (by unfold isW; omega) (fun I10 f10 r10 => here_fi (fun z => y142 I10 (F9.trans f10) r10 (by have z : wd g q = 5 := z; omega)) (fun z10 => ?_))
  have F10 := F9.trans f10
  refine m_isHere (a := 13) (hG.K F10) r10.P (by unfold isW; omega) (fun I11 f11 r11 => here_fi (fun z => y142 I11 (F10.trans f11) r11 (by have z : wd g q = 6 := z; omega)) (fun z11 => ?_))
  have F11 := F10.trans f11
  refine m_isHere (a := 14) (hG.K F11) r11.P (by unfold isW; omega) (fun I12 f12 r12 => here_if (fun z => y142 I12 (F11.trans f12) r12 (by have z : wd g q = 7 := z; omega)) (fun z12 => ?_))
  have F12 := F11.trans f12
  refine bX13_isOwnHere_147 ⟨fun y => absurd rfl y, fun _ => ?_⟩
  refine m_isHere (a := 15) (hG.K F12) r12.P (by unfold isW; omega) (fun I13 f13 r13 => here_fi (fun z => y218 I13 (F12.trans f13) r13 (by have z : wd g q = 8 := z; omega)) (fun z13 => ?_))
  have F13 := F12.trans f13
  refine m_isHere (a := 16) (hG.K F13) r13.P (by unfold isW; omega) (fun I14 f14 r14 => here_fi (fun z => y218 I14 (F13.trans f14) r14 (by have z : wd g q = 9 := z; omega)) (fun z14 => ?_))
  have F14 := F13.trans f14
  refine m_isHere (a := 17) (hG.K F14) r14.P (by unfold isW; omega) (fun I15 f15 r15 => here_fi (fun z => y218 I15 (F14.trans f15) r15 (by have z : wd g q = 17 := z; omega)) (fun z15 => ?_))
  have F15 := F14.trans f15
  refine m_isHere (a := 18) (hG.K F15) r15.P (by unfold isW; omega) (fun I16 f16 r16 => here_fi (fun z => y218 I16 (F15.trans f16) r16 (by have z : wd g q = 18 := z; omega)) (fun z16 => ?_))
  have F16 := F15.trans f16
  refine m_isHere (a := 19) (hG.K F16) r16.P (by unfold isW; omega) (fun I17 f17 r17 => here_fi (fun z => y218 I17 (F16.trans f17) r17 (by have z : wd g q = 19 := z; omega)) (fun z17 => ?_))
  have F17 := F16.trans f17
  refine m_isHere (a := 20) (hG.K F17) r17.P (by unfold isW; omega) (fun I18 f18 r18 => here_if (fun z => y218 I18 (F17.trans f18) r18 (by have z : wd g q = 21 := z; omega)) (fun z18 => ?_))
  have F18 := F17.trans f18
  refine bX13_isOwnHere_223 ⟨fun y => absurd rfl y, fun _ => ?_⟩
  refine m_isHere (a := 21) (hG.K F18) r18.P (by unfold isW; omega) (fun I19 f19 r19 => here_fi (fun z => y294 I19 (F18.trans f19) r19 (by have z : wd g q = 22 := z; omega)) (fun z19 => ?_))
  have F19 := F18.trans f19
  refine m_isHere (a := 22) (hG.K F19) r19.P (by unfold isW; omega) (fun I20 f20 r20 => here_fi (fun z => y294 I20 (F19.trans f20) r20 (by have z : wd g q = 23 := z; omega)) (fun z20 => ?_))
  have F20 := F19.trans f20
  refine m_isHere (a := 23) (hG.K F20) r20.P (by unfold isW; omega) (fun I21 f21 r21 => here_fi (fun z => y294 I21 (F20.trans f21) r21 (by have z : wd g q = 24 := z; omega)) (fun z21 => ?_))
  have F21 := F20.trans f21
  refine m_isHere (a := 24) (hG.K F21) r21.P (by unfold isW; omega) (fun I22 f22 r22 => here_fi (fun z => y294 I22 (F21.trans f22) r22 (by have z : wd g q = 25 := z; omega)) (fun z22 => ?_))
  have F22 := F21.trans f22
  refine m_isHere (a := 25) (hG.K F22) r22.P (by unfold isW; omega) (fun I23 f23 r23 => here_fi (fun z => y294 I23 (F22.trans f23) r23 (by have z : wd g q = 10 := z; omega)) (fun z23 => ?_))
  have F23 := F22.trans f23
  refine m_isHere (a := 26) (hG.K F23) r23.P (by unfold isW; omega) (fun I24 f24 r24 => here_if (fun z => y294 I24 (F23.trans f24) r24 (by have z : wd g q = 11 := z; omega)) (fun z24 => ?_))
  have F24 := F23.trans f24
  refine bX13_isOwnHere_299 ⟨fun y => absurd rfl y, fun _ => ?_⟩
  refine m_isHere (a := 27) (hG.K F24) r24.P (by unfold isW; omega) (fun I25 f25 r25 => here_fi (fun z => y348 I25 (F24.trans f25) r25 (by have z : wd g q = 12 := z; omega)) (fun z25 => ?_))
  have F25 := F24.trans f25
  refine m_isHere (a := 28) (hG.K F25) r25.P (by unfold isW; omega) (fun I26 f26 r26 => here_fi (fun z => y348 I26 (F25.trans f26) r26 (by have z : wd g q = 13 := z; omega)) (fun z26 => ?_))
  have F26 := F25.trans f26
  refine m_isHere (a := 29) (hG.K F26) r26.P (by unfold isW; omega) (fun I27 f27 r27 => here_fi (fun z => y348 I27 (F26.trans f27) r27 (by have z : wd g q = 14 := z; omega)) (fun z27 => ?_))
  have F27 := F26.trans f27
  refine m_isHere (a := 30) (hG.K F27) r27.P (by unfold isW; omega) (fun I28 f28 r28 => here_if (fun z => y348 I28 (F27.trans f28) r28 (by have z : wd g q = 15 := z; omega)) (fun z28 => ?_))
  have F28 := F27.trans f28
  have := h I28 F28 r28
  have z1 : ¬ wd g q = 0 := z1
  have z2 : ¬ wd g q = 20 := z2
  have z3 : ¬ wd g q = 1 := z3
  have z4 : ¬ wd g q = 16 := z4
  have z5 : ¬ wd g q = 26 := z5
  have z6 : ¬ wd g q = 27 := z6
  have z7 : ¬ wd g q = 2 := z7
  have z8 : ¬ wd g q = 3 := z8
  have z9 : ¬ wd g q = 4 := z9
  have z10 : ¬ wd g q = 5 := z10
  have z11 : ¬ wd g q = 6 := z11
  have z12 : ¬ wd g q = 7 := z12
  have z13 : ¬ wd g q = 8 := z13
  have z14 : ¬ wd g q = 9 := z14
  have z15 : ¬ wd g q = 17 := z15
  have z16 : ¬ wd g q = 18 := z16
  have z17 : ¬ wd g q = 19 := z17
  have z18 : ¬ wd g q = 21 := z18
  have z19 : ¬ wd g q = 22 := z19
  have z20 : ¬ wd g q = 23 := z20
  have z21 : ¬ wd g q = 24 := z21
  have z22 : ¬ wd g q = 25 := z22
  have z23 : ¬ wd g q = 10 := z23
  have z24 : ¬ wd g q = 11 := z24
  have z25 : ¬ wd g q = 12 := z25
  have z26 : ¬ wd g q = 13 := z26
  have z27 : ¬ wd g q = 14 := z27
  have z28 : ¬ wd g q = 15 := z28
  rw [decide_eq_false (by omega)] at this
  exact bX13_isOwnHere_353 ⟨Or.inl rfl, this⟩
theorem own_len : ∀ i, i < 28 → ∃ a, a < 31 ∧ 3 ≤ a ∧ wpl a = i := by decide +kernel
def fl27 (g : Sx) (q : Nat) : Nat → Nat
  | 0 => 0
  | k + 1 => 27 * fl27 g q k + (g 1 (q + k) - 96)
theorem fl27_lt : ∀ k, (∀ i, i < k → isL (g 1 (q + i)) = true) → fl27 g q k < 27 ^ k
  | 0, _ => by simp [fl27]
  | k + 1, h => by
    have h1 := fl27_lt k (fun i hi => h i (by omega))
    have h2 := isL_t.mp (h k (by omega))
    have e : 27 ^ (k + 1) = 27 ^ k * 27 := Nat.pow_succ ..
    simp only [fl27]
    omega
theorem tpk_27 (ht : tk g q = 256) (hb : ∀ k, k < g 0 0 → g 1 k < 256) (hl : wen g q - q ≤ 6) : n27 (tpk g q) = fl27 g q (wen g q - q) ∧ nmOK (tpk g q) := by
  obtain ⟨hq, hL⟩ := tk256 ht hb
  have hw := wen_lt hq hL
  have et : tpk g q = pck g q (wen g q - q) := by unfold tpk; rw [if_neg (by omega), if_pos hL, if_pos hl]
  have hLi : ∀ i, i < wen g q - q → isL (g 1 (q + i)) = true := fun i hi => wen_L (g := g) (q := q) (k := q + i) (by omega) (by omega)
  obtain ⟨pL, pl⟩ := pck_Ln (g := g) (q := q) (n := wen g q - q) hLi
  rw [et]
  refine ⟨?_, ?_, ?_, Ln_wfn 6 _ _ pL hl⟩
  · rw [n27_f pL hl]
    have : ∀ k, k ≤ wen g q - q → f27 (pck g q (wen g q - q)) k = fl27 g q k := by
      intro k
      induction k with
      | zero => intro _; rfl
      | succ k ih =>
        intro hk
        simp only [f27, fl27]
        rw [ih (by omega), pl k (by omega)]
    exact this _ (Nat.le_refl _)
  · have h1 := Ln_mod pL
    have h2 : pck g q (wen g q - q) % 32 ^ (wen g q - q) < 32 ^ (wen g q - q) := Nat.mod_lt _ (Nat.pow_pos (by omega))
    rw [h1] at h2
    have h3 : 32 ^ (wen g q - q) ≤ 32 ^ 6 := Nat.pow_le_pow_right (by omega) hl
    omega
  · intro z
    have h1 := (pL.1 0 (by omega)).1
    rw [z] at h1
    simp [lt32] at h1
theorem tsp_w (hq : q < g 0 0) (hl : isL (g 1 q) = true) : tsp g q = wen g q := by unfold tsp; rw [if_neg (by omega), if_pos hl]
theorem lN_step {a b : Nat} (ha : a < 27 ^ 6) (h1 : 97 ≤ b) (h2 : b < 256) : 27 * lN a + (nI b).toInt64 - 97 + 1 = lN (27 * a + (b - 96)) := by
  rw [nI_l (by omega), ← Int64.toInt_inj]
  have e : ∀ n : Nat, lN n = lI (n : Int) := fun n => (lI_n n).symm
  rw [e, e, e, show (27 : Int64) = lI 27 from rfl, show (97 : Int64) = lI 97 from rfl, show (1 : Int64) = lI 1 from rfl]
  have m1 : lI 27 * lI (a : Int) = lI (27 * (a : Int)) := by rw [← Int64.toInt_inj]; unfold lI; rw [← Int64.ofInt_mul]
  have a1 : ∀ x y : Int, lI x + lI y = lI (x + y) := fun x y => by unfold lI; rw [← Int64.ofInt_add]
  have s1 : ∀ x y : Int, lI x - lI y = lI (x - y) := fun x y => by unfold lI; rw [← Int64.ofInt_sub]
  rw [m1, a1, s1, a1]
  congr 2
  omega
theorem m_name {K : KL} (hG : TxG I g) (hp : Rpr I g q) (h1 : (nam g q).1 = 0 → nmOK (tpk g q) → ∀ I', FrK I I' → Rpr I' g (adv g q) → I' 0 38 = nI q → K (lN (n27 (tpk g q))) I' J) (h0 : (nam g q).1 ≠ 0 → ∀ v I', FrK I I' → Flm I' (nam g q).1 (nam g q).2 → K v I' J) : CalL wM (d + 3) mX13_name [.ref 0] I J K := by
  have h16 := hG.1.2
  have hle := hp.le
  have hb : ∀ k, k < g 0 0 → g 1 k < 256 := fun k hk => (hG.2.1 k hk).2
  have bad : (nam g q) = (1, q) → ∀ I1, FrK I I1 → Rlk I1 g q → CalV wM (d + 2) mX13_fail [.ref 0, .int 1, .int (I1 0 2)] I1 J (fun I9 J10 => K 0 I9 J10) := fun z I1 f1 r1 => by
    rw [r1.a]
    exact m_fail (k := 1) r1.1 (fun I2 f2 e5 e6 _ => h0 (by rw [z]; simp) 0 I2 (f1.trans f2) (by rw [z]; exact ⟨e5, e6⟩))
  refine Cal.of (by decide) (Nat.le_of_ble_eq_true rfl) (bX13_name_0 ⟨fun _ => m_look hG hp (fun I1 f1 r1 => m_isLetterB (hG.K f1) ⟨fun z => ?_, fun z => ?_⟩), fun z => absurd hp.1 z⟩)
  · rw [b01_0] at z
    refine bad ?_ I1 f1 r1
    unfold nam
    rw [if_neg (fun y => ?_)]
    obtain ⟨y1, y2⟩ := tk256 y hb
    rw [decide_eq_true y1, y2] at z
    exact absurd z (by decide)
  rw [b01_n] at z
  simp only [Bool.and_eq_true, decide_eq_true_eq] at z
  obtain ⟨hq, hl⟩ := z
  have htk := tk_L r1 hq hl h16
  rw [htk.1]
  refine ⟨fun z => bad (by unfold nam; rw [if_neg (by omega)]) I1 f1 r1, fun z => ?_⟩
  have ht : tk g q = 256 := by omega
  have hts := tsp_w hq hl
  have hw := wen_le (g := g) (q := q) (by omega)
  have hwl := wen_lt hq hl
  refine m_isOwnHere (hG.K f1) r1.P (fun I2 f2 r2 => here_if (fun y => ?_) (fun y => ?_))
  · obtain ⟨a, a1, a2, a3⟩ := own_len _ y
    have hlen := ((wd_here (a := a) (by unfold isW; omega) ht hb).mp a3.symm).1
    have := (wd_fac (a := a) (by unfold isW; omega)).2.2.1
    exact bad (by unfold nam; rw [if_pos ht, if_pos (by omega), if_pos y]) I2 (f1.trans f2) r2
  rw [r2.a]
  have f12 := f1.trans f2
  -- the letters, one by one
  have key : ∀ n k (I3 : Ii), q + k + n = wen g q → k ≤ 6 → FrK I I3 → I3 0 2 = nI (q + k) → I3 0 38 = nI q → I3 0 5 = 0 → GoL wM (d + 3) mX13_name 58 [(0, .ref 0), (1, .long (lN (fl27 g q k)))] [] I3 J K := by
    intro n
    induction n with
    | zero =>
      intro k I3 hk h6 f3 e2 e38 e5
      have hG3 := hG.K f3
      have hlen : wen g q - q = k := by omega
      obtain ⟨t1, t2⟩ := tpk_27 ht hb (by omega)
      have fin : K (lN (fl27 g q k)) (u2 I3 0 4 (I3 0 2)) J := by
        have := h1 (by unfold nam; rw [if_pos ht, if_pos (by omega), if_neg y]) t2 (u2 I3 0 4 (I3 0 2)) (f3.trans ⟨fun a ha => u2_row ha, fun j _ j4 _ _ _ => u2_k j4⟩) ⟨by rw [u2_k (by omega)]; exact e5, wen g q, AtE.word hq hl rfl (by rw [u2_k (by omega), e2]; congr 1) (by rw [u2_at, e2]; congr 1), (adv_w hq hl).symm⟩ (by rw [u2_k (by omega)]; exact e38)
        rw [t1, hlen] at this
        exact this
      refine bX13_name_58 ?_
      rw [e2, hG3.1.1]
      rw [e2] at fin
      refine ⟨fun _ => fin, fun v => ?_⟩
      have hlt : q + k < g 0 0 := by
        rcases Nat.lt_or_ge (q + k) (g 0 0) with x | x
        · exact x
        · exact absurd (nI_le x (by omega)) v
      have hby := hG3.2.1 (q + k) hlt
      rw [nI_clamp (by omega), hby.1]
      refine ⟨vp_in_nI (by omega) (by omega), m_isLetter (by omega) ?_⟩
      have hno : isL (g 1 (q + k)) = false := by
        have := rn_at (q := fun k => isL (g 1 k)) (n := g 0 0) (p := q) (by omega) (by show wen g q < g 0 0; omega)
        rw [show q + k = wen g q by omega]; exact this
      rw [hno]
      exact ⟨fun _ => by rw [e2]; exact fin, fun x => absurd rfl x⟩
    | succ n ih =>
      intro k I3 hk h6 f3 e2 e38 e5
      have hG3 := hG.K f3
      have hby := hG3.2.1 (q + k) (by omega)
      have hlk := wen_L (g := g) (q := q) (k := q + k) (by omega) (by omega)
      have hlt := isL_t.mp hlk
      refine bX13_name_58 ?_
      rw [e2, hG3.1.1]
      refine ⟨fun v => absurd ((nI_leI (by omega) (by omega)).mp v) (by omega), fun _ => ?_⟩
      rw [nI_clamp (by omega), hby.1]
      refine ⟨vp_in_nI (by omega) (by omega), m_isLetter (by omega) ?_⟩
      rw [hlk, e2, e38, pk_sub (by omega), show q + k - q = k by omega, show (6 : Int32) = nI 6 from rfl, nI_eq (by omega) (by omega), nI_clamp (by omega), hby.1]
      refine ⟨fun v => absurd v (by decide), fun _ => ⟨fun v => ⟨vp_in_nI (by omega) (by omega), ?_⟩, fun v => ?_⟩⟩
      · rintro _ rfl
        have hfl := fl27_lt (g := g) (q := q) k (fun i hi => wen_L (g := g) (q := q) (k := q + i) (by omega) (by omega))
        have h27 : 27 ^ k ≤ 27 ^ 6 := Nat.pow_le_pow_right (by omega) h6
        rw [lN_step (by omega) (by omega) (by omega), nI_1]
        exact ih (k + 1) _ (by omega) (by omega) (f3.trans ⟨fun a ha => u2_row ha, fun j j2 _ _ _ _ => u2_k j2⟩) (by rw [u2_at]; congr 1) (by rw [u2_k (by omega)]; exact e38) (by rw [u2_k (by omega)]; exact e5)
      · have en : nam g q = (1, q + 6) := by unfold nam; rw [if_pos ht, if_neg (by omega)]
        refine m_fail (k := 1) e5 (fun I4 f4 g5 g6 _ => h0 (by rw [en]; simp) 0 I4 (f3.trans f4) (by rw [en]; exact ⟨g5, by rw [g6]; congr 1; omega⟩))
  exact key (wen g q - q) 0 _ (by omega) (by omega) (f12.trans ⟨fun a ha => u2_row ha, fun j _ _ _ _ j38 => u2_k j38⟩) (by rw [u2_k (by omega)]; exact r2.a) (u2_at _ _ _ _) (by rw [u2_k (by omega)]; exact r2.1)
theorem m_name_b {K : KL} (h5 : ¬ I 0 5 = 0) (h : K 0 I J) : CalL wM (d + 1) mX13_name [.ref 0] I J K := Cal.of (by decide) (Nat.le_of_ble_eq_true rfl) (bX13_name_0 ⟨fun z => absurd z h5, fun _ => h⟩)
theorem m_nameOf {i n v : Nat} {f : Nat → Nat} {K : KI} (hi : i < 2) (hn : n ≤ 8) (h31 : I 31 i = nI n) (hr : ∀ k, k < n → J 32 (8 * i + k) = lN (n27 (f k)) ∧ nmOK (f k)) (hv : nmOK v) (h : K (if plc f n v = n then -1 else nI (plc f n v)) I J) : CalI wM d mX13_nameOf [.ref 0, .int (nI i), .long (lN (n27 v))] I J K := by
  have key : ∀ e k, k + e = n → (∀ j, j < k → f j ≠ v) → GoI wM d mX13_nameOf 3 [(0, .ref 0), (1, .int (nI i)), (2, .long (lN (n27 v))), (4, .int (nI k))] [] I J K := by
    intro e
    induction e with
    | zero =>
      intro k hk hj
      obtain rfl : k = n := by omega
      refine bX13_nameOf_3 ⟨vp_in_nI (by omega) (by omega), ?_⟩
      rw [nI_clamp (by omega), h31]
      have ep : plc f k v = k := rn_stop (by omega) (Nat.le_refl _) (fun j _ hj2 => decide_eq_true (hj j hj2)) (Or.inl rfl)
      rw [if_pos ep] at h
      exact ⟨fun _ => h, fun z => absurd (nI_le (Nat.le_refl _) (by omega)) z⟩
    | succ e ih =>
      intro k hk hj
      have hrk := hr k (by omega)
      have hlt := n27_lt hrk.2
      have hlt2 := n27_lt hv
      refine bX13_nameOf_3 ⟨vp_in_nI (by omega) (by omega), ?_⟩
      rw [nI_clamp (by omega), h31, show (8 : Int32) = nI 8 from rfl, pk_mul, nI_add, nI_clamp (by omega), hrk.1, lgc_eq, nI_1]
      have eq : lN (n27 (f k)) = lN (n27 v) ↔ f k = v := by
        rw [← n27_inj hrk.2 hv, ← Int64.toInt_inj, lN_toInt (by omega), lN_toInt (by omega)]
        omega
      rw [eq]
      refine ⟨fun z => absurd ((nI_leI (by omega) (by omega)).mp z) (by omega), fun _ => ⟨vp_in_nI (by omega) (by omega), fun z => ih (k + 1) (by omega) (fun j hj2 => ?_), fun z => ?_⟩⟩
      · by_cases y : j = k
        · subst y; exact z
        · exact hj j (by omega)
      · have ep : plc f n v = k := rn_stop (by omega) (by omega) (fun j _ hj2 => decide_eq_true (hj j hj2)) (Or.inr (decide_eq_false (by simp [z])))
        rw [if_neg (by omega), ep] at h
        exact h
  exact Cal.of (by decide) (Nat.le_of_ble_eq_true rfl) (bX13_nameOf_0 (key n 0 (by omega) (fun j hj => absurd hj (by omega))))
end MX

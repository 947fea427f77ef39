/-! the class's face: school -/
section SP
variable {d : Nat} {I : Ii} {J : Jj} {sc s t g : Sx} {L : Nat → List Nat} {ps : Nat → Sx} {q z : Nat} {D : Dr}
def lfQ (sc s : Sx) (n : Nat) : Sx := fun a k => if a = 3 ∧ k < n then sc 0 3 else s a k
theorem lfQ_0 : lfQ sc s 0 = s := by funext a k; simp [lfQ]
theorem lfQ_s (n : Nat) : up (lfQ sc s n) 3 n (sc 0 3) = lfQ sc s (n + 1) := by
  funext a k
  unfold up lfQ
  by_cases e : a = 3 ∧ k = n
  · rw [if_pos e, if_pos ⟨e.1, by omega⟩]
  · rw [if_neg e]
    by_cases e2 : a = 3 ∧ k < n
    · rw [if_pos e2, if_pos ⟨e2.1, by omega⟩]
    · rw [if_neg e2, if_neg (fun y => by have := y.1; have := y.2; by_cases z : k = n; exact e ⟨y.1, z⟩; exact e2 ⟨y.1, by omega⟩)]
theorem lfQ_ok (h : okS sc s) (h9 : sc 0 3 ≤ 9) : ∀ n, okS sc (lfQ sc s n)
  | 0 => by rw [lfQ_0]; exact h
  | n + 1 => by
    have ih := lfQ_ok h h9 n
    rw [← lfQ_s]
    refine ⟨up3_WFS ih.1 h9, by simpa [up] using ih.2.1, acy_cong (s := lfQ sc s n) (by funext k; simp [up]) ih.2.2⟩
theorem sLp_c : ∀ n c D q, (sLp g n c D q).1 = 0 → (sLp g n c D q).2.1 ≤ c + n
  | 0, c, D, q, h => by
    simp only [sLp] at h ⊢
    split
    · simp
    · next e => rw [if_neg e] at h; exact absurd h (by simp)
  | n + 1, c, D, q, h => by
    simp only [sLp] at h ⊢
    split
    · simp
    · next e =>
      rw [if_neg e] at h
      split
      · next e1 => rw [if_pos e1] at h; exact absurd h e1
      · next e1 =>
        rw [if_neg e1] at h
        split
        · next e2 =>
          rw [if_pos e2] at h
          have := sLp_c n (c + 1) _ _ h
          omega
        · next e2 => rw [if_neg e2] at h; exact absurd h (by simp)
theorem s_sread {K : KI} (hT : EnT I g) (h69 : ∀ k, k < 30 → I 69 k = 0)
    (h1 : (sRd g).1 = 0 → ∀ I', FrD I I' → EnC I' 54 (sRd g).2.2.1 (sRd g).2.2.2.1 → EnS I' 64 (lfQ (sRd g).2.2.1 (sRd g).2.2.2.2 ((sRd g).2.2.1 0 1)) → okS (sRd g).2.2.1 (sRd g).2.2.2.2 → I' 1 2 = 0 → I' 1 3 = -1 → K (nI (sRd g).2.1) I' J)
    (h0 : (sRd g).1 ≠ 0 → ∀ I', FrD I I' → Flt I' (sRd g).1 (sRd g).2.1 → K (-1) I' J) : CalI wX (d + 35) mX8_read [.ref 53] I J K := by
  have last : ∀ (D : Dr) (c : Nat) (I1 : Ii), (∀ I', FrD I I' → EnC I' 54 D.1 D.2.1 → EnS I' 64 (lfQ D.1 D.2.2 (D.1 0 1)) → okS D.1 D.2.2 → I' 1 2 = 0 → I' 1 3 = -1 → K (nI c) I' J) → FrD I I1 → EnC I1 54 D.1 D.2.1 → EnS I1 64 D.2.2 → okS D.1 D.2.2 → I1 1 2 = 0 → I1 1 3 = -1 → GoI wX (d + 34 + 1) mX8_read 91 [(0, .ref 53), (1, .int (nI c)), (2, .int (nI 0))] [] I1 J K := by
    intro D c I1 hK f1 hC hS hok e2 e3
    have hP := hC.2.1.2
    have h9 := hC.2.2.2.1.2
    have key : ∀ n k I2, k + n = D.1 0 1 → FrD I I2 → EnC I2 54 D.1 D.2.1 → EnS I2 64 (lfQ D.1 D.2.2 k) → I2 1 2 = 0 → I2 1 3 = -1 → GoI wX (d + 34 + 1) mX8_read 91 [(0, .ref 53), (1, .int (nI c)), (2, .int (nI k))] [] I2 J K := by
      intro n
      induction n with
      | zero =>
        intro k I2 hk f2 hC2 hS2 e22 e23
        obtain rfl : k = D.1 0 1 := by omega
        refine bX8_read_91 ⟨fun _ => hK I2 f2 hC2 hS2 hok e22 e23, fun q => absurd ?_ q⟩
        rw [hC2.2.1.1]; exact nI_le (by omega) (by omega)
      | succ n ih =>
        intro k I2 hk f2 hC2 hS2 e22 e23
        refine bX8_read_91 ⟨fun q => absurd ?_ (show ¬ D.1 0 1 ≤ k by omega), fun _ => ⟨fun q => absurd ((nI_leI (a := 8) (by decide) (by omega)).mp q) (by omega), fun _ => ⟨vp_in_nI (by omega) (by omega), ?_⟩⟩⟩
        · rw [hC2.2.1.1] at q
          simp (disch := omega) only [Int32.le_iff_toInt_le, Int32.lt_iff_toInt_lt, ← Int32.toInt_inj, nI_toInt, t_bq, t_pc8, t_bel, t_mI, t_ite, t_dec, sm_t, Int32.reduceToInt, t_m1, t_0, t_1, t_2, t_3, t_8, Int.natCast_eq_zero, Int.ofNat_le, Int.ofNat_lt, Int.ofNat_inj, not_true_eq_false, not_false_eq_true, forall_const] at q
          exact q
        · rw [nI_clamp (by omega), nI_1, hC2.2.2.2.1.1]
          refine ih (k + 1) _ (by omega) (f2.trans ⟨fun a y1 y2 => u2_row (by omega), fun j hj => by rw [u2_row (by omega)], fun j hj => by rw [u2_row (by omega)]⟩) (hC2.kept (fun a y1 y2 => u2_row (by omega))) ?_ (by rw [u2_row (by omega)]; exact e22) (by rw [u2_row (by omega)]; exact e23)
          rw [← lfQ_s]
          exact hS2.put ⟨rfl, by omega, by omega⟩
    exact key (D.1 0 1) 0 I1 (by omega) f1 hC (by rw [lfQ_0]; exact hS) e2 e3
  have loop : ∀ n c (D : Dr) (q z : Nat) (I1 : Ii), c + n = 80 → FrD I I1 → TokAt I1 g q → EnDr I1 D z → z ≤ q → I1 1 2 = 0 → I1 1 3 = -1 →
      ((sLp g n c D q).1 = 0 → ∀ I', FrD I I' → EnC I' 54 (sLp g n c D q).2.2.1 (sLp g n c D q).2.2.2.1 → EnS I' 64 (lfQ (sLp g n c D q).2.2.1 (sLp g n c D q).2.2.2.2 ((sLp g n c D q).2.2.1 0 1)) → okS (sLp g n c D q).2.2.1 (sLp g n c D q).2.2.2.2 → I' 1 2 = 0 → I' 1 3 = -1 → K (nI (sLp g n c D q).2.1) I' J) →
      ((sLp g n c D q).1 ≠ 0 → ∀ I', FrD I I' → Flt I' (sLp g n c D q).1 (sLp g n c D q).2.1 → K (-1) I' J) →
      GoI wX (d + 34 + 1) mX8_read 16 [(0, .ref 53), (1, .int (nI c))] [] I1 J K := by
    intro n
    induction n with
    | zero =>
      intro c D q z I1 hc f1 hk hD hz e2 e3 k1 k0
      obtain rfl : c = 80 := by omega
      have ht := tk_le (hT.D f1).lt q
      refine bX8_read_16 ⟨fun _ => ⟨fun y => ?_, fun y => ?_⟩, fun y => absurd (by decide) y⟩
      · rw [hk.2.2.1, tkI_m1 ht] at y
        simp only [sLp, if_pos y] at k1
        exact last D 80 I1 (k1 trivial) f1 hD.1 hD.2.1 hD.2.2.1 e2 e3
      · rw [hk.2.2.1, tkI_m1 ht] at y
        simp only [sLp, if_neg y] at k0
        rw [hk.1.1]
        exact s_fail (k := 5) (fun I2 fB hF => k0 (by simp) I2 (f1.trans fB.D) hF)
    | succ n ih =>
      intro c D q z I1 hc f1 hk hD hz e2 e3 k1 k0
      have hT1 := hT.D f1
      have ht := tk_le hT1.lt q
      refine bX8_read_16 ⟨fun y => absurd ((nI_leI (a := 80) (by decide) (by omega)).mp y) (by omega), fun _ => ⟨fun y => ?_, fun y => ?_⟩⟩
      · rw [hk.2.2.1, tkI_m1 ht] at y
        simp only [sLp, if_pos y] at k1
        exact last D c I1 (k1 trivial) f1 hD.1 hD.2.1 hD.2.2.1 e2 e3
      · rw [hk.2.2.1, tkI_m1 ht] at y
        simp only [sLp, if_neg y] at k1 k0
        refine c_st (d := d) hT1 hk hD hz (fun b2 I2 hS => ⟨fun y2 => ?_, fun y2 => ?_⟩)
        · rw [hS.b0] at y2
          simp only [if_pos y2] at k0
          exact k0 y2 I2 (f1.trans hS.1) (hS.2.2 y2).2
        · have y3 : ¬ (sSt g D q).1 ≠ 0 := fun e => y2 (hS.b0.mpr e)
          simp only [if_neg y3] at k1 k0
          obtain ⟨-, hk2, ⟨z2, hD2, hz2⟩, g2, g3⟩ := hS.2.1 (Classical.not_not.mp y3)
          refine s_expectSign (c := 59) (d := d + 33) (hT1.D hS.1) hk2 (by omega) (fun e I3 fA hk3 => ⟨fun _ => ?_, fun y => absurd y (by decide)⟩) (fun e I3 fB hF => ⟨fun y => absurd rfl y, fun _ => ?_⟩)
          · simp only [if_pos e] at k1 k0
            rw [nI_1]
            exact ih (c + 1) _ _ z2 I3 (by omega) ((f1.trans hS.1).trans fA.D) hk3 (hD2.A fA) (by have := (adv_le (g := g) hk2.1.2).2.1; omega) (by rw [fA.2 2 (by omega), g2]; exact e2) (by rw [fA.2 3 (by omega), g3]; exact e3) k1 k0
          · simp only [if_neg e] at k0
            exact k0 (by simp) I3 ((f1.trans hS.1).trans fB.D) hF
  refine Cal.of (by decide) (Nat.le_of_ble_eq_true rfl) (bX8_read_0 (s_open (d := d + 33) hT (fun I1 f1 e2 e3 hk => ?_)))
  refine s_dclear (d := d + 32) (fun k hk => by rw [f1.1 69 (by omega)]; exact h69 k hk) (fun I2 hD f2 r2 => ?_)
  exact loop 80 0 D0 (skp g 0) 0 I2 (by omega) (f1.D.trans f2) (hk.row r2) hD (by omega) (by rw [r2]; exact e2) (by rw [r2]; exact e3) h1 h0
theorem cpy0' {f h : Nat → Int32} {k n : Nat} (hk : k < n) : va_cpy f h 0 0 n k = f k := by rw [pk_cpy_in (by omega) (by omega), show 0 + (k - 0) = k by omega]
theorem s_fcopy {o o1 : Nat} {L : Nat → List Nat} {K : KV} (ho : z_Ob wX o 3) (ho1 : z_Ob wX o1 3) (hd : o + 4 < o1 ∨ o1 + 4 < o) (hF : ∀ k, k < 3 → EnF I o1 k (L k)) (h : ∀ I', (∀ k, k < 3 → EnF I' o k (L k)) → (∀ a, (a < o ∨ o + 3 < a) → I' a = I a) → K I' J) : CalV wX (d + 1) mX3_copyFrom [.ref o, .ref o1] I J K := by
  refine Cal.of (by decide) (Nat.le_of_ble_eq_true rfl) (bX3_copyFrom_0 ho ho1 (h _ (fun k hk => ?_) (fun a ha => ?_)))
  · obtain ⟨f, t, y1, y2, y3, y4, y5⟩ := hF k hk
    refine ⟨f, t, ?_, ?_, y3, y4, fun i hi => ?_⟩
    · rw [u2_row (by omega), cp_ne (by omega), cp_at, cpy0' hk, cp_ne (by omega)]; exact y1
    · rw [u2_row (by omega), cp_at, cpy0' hk, cp_ne (by omega), cp_ne (by omega)]; exact y2
    · rw [u2_row (by omega), cp_ne (by omega), cp_ne (by omega), cp_at, cpy0' (by omega)]; exact y5 i hi
  · rw [u2_row (by omega), cp_ne (by omega), cp_ne (by omega), cp_ne (by omega)]
theorem s_ccopy {K : KV} (hC : EnC I 54 sc L) (hS : EnS I 64 s) (h : ∀ I', EnC I' 3 sc L → EnS I' 13 s → (∀ a, (a < 3 ∨ 18 < a) → I' a = I a) → K I' J) : CalV wX (d + 2) mX7_copyFrom [.ref 3, .ref 54] I J K := by
  refine Cal.of (by decide) (Nat.le_of_ble_eq_true rfl) (bX7_copyFrom_0 obX_3 obX_54 ?_)
  rintro _ rfl _ rfl _ rfl _ rfl
  have hF := hC.1.2
  have hP := hC.2.1.2
  obtain ⟨y1, y2, y3, y4, y5, y6, y7, y8, y9⟩ := hC
  refine s_fcopy (L := L) obX_8 obX_59 (by omega) (fun k hk => (y8 k hk).kept ?_ ?_ ?_) (fun I1 hF1 r1 => ?_)
  · rw [cp_ne (by omega), cp_ne (by omega), cp_ne (by omega), cp_ne (by omega), u2_row (by omega), u2_row (by omega), u2_row (by omega), u2_row (by omega), u2_row (by omega)]
  · rw [cp_ne (by omega), cp_ne (by omega), cp_ne (by omega), cp_ne (by omega), u2_row (by omega), u2_row (by omega), u2_row (by omega), u2_row (by omega), u2_row (by omega)]
  · rw [cp_ne (by omega), cp_ne (by omega), cp_ne (by omega), cp_ne (by omega), u2_row (by omega), u2_row (by omega), u2_row (by omega), u2_row (by omega), u2_row (by omega)]
  refine s_copyFrom obX_13 obX_64 (hS.kept (fun a z1 z2 => ?_)) (by omega) (fun I2 h2 f2 => ?_)
  · rw [r1 a (by omega), cp_ne (by omega), cp_ne (by omega), cp_ne (by omega), cp_ne (by omega), u2_row (by omega), u2_row (by omega), u2_row (by omega), u2_row (by omega), u2_row (by omega)]
  · refine h I2 ⟨?_, ?_, ?_, ?_, ?_, fun k hk => ?_, fun k hk => ?_, fun k hk => (hF1 k hk).kept (f2 _ (by omega)) (f2 _ (by omega)) (f2 _ (by omega)), y9⟩ h2 (fun a ha => ?_)
    · rw [f2 3 (by omega), r1 3 (by omega)]; simpa [cp, u2] using y1
    · rw [f2 3 (by omega), r1 3 (by omega)]; simpa [cp, u2] using y2
    · rw [f2 3 (by omega), r1 3 (by omega)]; simpa [cp, u2] using y3
    · rw [f2 3 (by omega), r1 3 (by omega)]; simpa [cp, u2] using y4
    · rw [f2 3 (by omega), r1 3 (by omega)]; simpa [cp, u2] using y5
    · rw [f2 4 (by omega), r1 4 (by omega), f2 5 (by omega), r1 5 (by omega)]
      have y := y6 k hk
      rw [cp_ne (by omega), cp_ne (by omega), cp_ne (by omega), cp_at, cpy0' (by omega), cp_ne (by omega), cp_ne (by omega), cp_at, cpy0' (by omega), cp_ne (by omega)]
      rw [u2_row (by omega), u2_row (by omega), u2_row (by omega), u2_row (by omega), u2_row (by omega), u2_row (by omega), u2_row (by omega), u2_row (by omega), u2_row (by omega), u2_row (by omega)]
      exact y
    · rw [f2 6 (by omega), r1 6 (by omega), f2 7 (by omega), r1 7 (by omega)]
      have y := y7 k hk
      rw [cp_ne (by omega), cp_at, cpy0' (by omega), cp_ne (by omega), cp_ne (by omega), cp_at, cpy0' (by omega), cp_ne (by omega), cp_ne (by omega), cp_ne (by omega)]
      rw [u2_row (by omega), u2_row (by omega), u2_row (by omega), u2_row (by omega), u2_row (by omega), u2_row (by omega), u2_row (by omega), u2_row (by omega), u2_row (by omega), u2_row (by omega)]
      exact y
    · rw [f2 a (by omega), r1 a (by omega), cp_ne (by omega), cp_ne (by omega), cp_ne (by omega), cp_ne (by omega), u2_row (by omega), u2_row (by omega), u2_row (by omega), u2_row (by omega), u2_row (by omega)]
theorem EnP.fr2 {I I' : Ii} {sc g : Sx} {ps : Nat → Sx} (h : EnP I sc ps g) (h0 : I' 0 5 = I 0 5 ∧ I' 0 6 = I 0 6) (h69 : ∀ k, k < 30 → I' 69 k = I 69 k) (hk : ∀ a, a = 30 ∨ a = 78 ∨ 81 ≤ a → I' a = I a) : EnP I' sc ps g := by
  obtain ⟨h1, f, hf, h2, h3⟩ := h
  refine ⟨⟨by rw [h0.2]; exact h1.1, h1.2.1, fun k hk' => ?_⟩, f, hf, by rw [h0.1]; exact h2, fun i hi => ⟨(h3 i hi).1.kept (fun a h4 h5 => hk a (by omega)), (h3 i hi).2⟩⟩
  rw [hk 30 (by omega), h69 k hk', hk 78 (by omega)]; exact h1.2.2 k hk'
theorem EnX.txt2 {I I' : Ii} {k pl : Nat} (h : EnX I sc L s ps g) (hk : ∀ a, (a = 0 ∨ (2 ≤ a ∧ a ≤ 11) ∨ (19 ≤ a ∧ a ≤ 24) ∨ a = 30 ∨ a = 50 ∨ a = 51 ∨ 78 ≤ a) → I' a = I a) (h69 : ∀ k, k < 30 → I' 69 k = I 69 k) (h43 : I' 43 6 = I 43 6) (h1 : I' 1 1 = 0) (h2 : I' 1 2 = nI k) (h3 : I' 1 3 = mI pl) : EnX I' sc L s ps (up (up (up g 0 0 0) 0 1 k) 0 2 pl) := by
  obtain ⟨hB, hA, hT, hR, hf, hr, hi, hd, hP⟩ := h
  refine EnX.re (g := g) ⟨hB, hA, hT, hR, hf, hr, hi, hd, hP⟩ (fun a ha => hk a (by omega)) ⟨⟨by rw [h1]; simp [up]; rfl, by simp [up]⟩, fun k hk => absurd hk (by simp [up])⟩ ?_ ⟨by rw [h2]; simp [up], by rw [h3]; simp [up]⟩ (fun j hj => ?_) ?_ ?_ ?_
  · unfold EnR; rw [h43, hk 50 (by omega), hk 51 (by omega)]; simpa [up, EnR] using hR
  · rw [hk 79 (by omega)]; simpa [up] using hr j hj
  · rw [hk 0 (by omega), hk 80 (by omega)]; simpa [up] using hi
  · rw [hk 0 (by omega)]; simpa [up] using hd
  · exact (((hP.fr2 (by rw [hk 0 (by omega)]; exact ⟨rfl, rfl⟩) h69 (fun a ha => hk a (by omega))).put (by omega)).put (by omega)).put (by omega)
def scS (sc g : Sx) : Sx := if (sRd g).1 = 0 then (sRd g).2.2.1 else sc
def LSc (L : Nat → List Nat) (g : Sx) : Nat → List Nat := if (sRd g).1 = 0 then (sRd g).2.2.2.1 else L
def s_sch (s g : Sx) : Sx := if (sRd g).1 = 0 then lfQ (sRd g).2.2.1 (sRd g).2.2.2.2 ((sRd g).2.2.1 0 1) else s
def g_sch (g : Sx) : Sx := if (sRd g).1 = 0 then up (up (up (up (up g 0 0 0) 0 1 0) 0 2 0) 0 3 0) 0 6 0 else rf (up (up (up g 0 0 0) 0 1 (sRd g).1) 0 2 ((sRd g).2.1 + 1)) 1
def r_sch (g : Sx) : Int32 := if (sRd g).1 = 0 then nI (sRd g).2.1 else -1
theorem x_school {K : KI} (hX : EnX I sc L s ps g) (h : ∀ I', EnX I' (scS sc g) (LSc L g) (s_sch s g) ps (g_sch g) → K (r_sch g) I' J) : CalI wX (d + 36) mX12_school [.ref 0] I J K := by
  have h69 : ∀ k, k < 30 → I 69 k = 0 := fun k hk => (hX.2.2.2.2.2.2.2.2.1.2.2 k hk).2.1
  unfold scS LSc s_sch g_sch r_sch at h
  refine Cal.of (by decide) (Nat.le_of_ble_eq_true rfl) (bX12_school_0 (s_sread (d := d) hX.2.2.1 h69 (fun e I1 f1 hC hS hok e2 e3 => ?_) (fun e I1 f1 hF => ?_)))
  · rintro _ rfl
    simp only [if_pos e] at h
    have hn : (sRd g).2.1 ≤ 80 := by have := sLp_c (g := g) 80 0 D0 (skp g 0) e; exact this
    refine ⟨fun _ => ?_, fun y => absurd y (nI_ne_m1 (by omega))⟩
    refine s_ccopy (d := d + 33) (hC.kept (fun a z1 z2 => u2_row (by omega))) (hS.kept (fun a z1 z2 => u2_row (by omega))) (fun I2 hC2 hS2 r2 => ?_)
    refine s_copyFrom obX_19 obX_13 hS2 (by omega) (fun I3 h3 f3 => ?_)
    refine Cal.of (by decide) (Nat.le_of_ble_eq_true rfl) (bX12_forgetPast_0 (h _ ?_))
    have rr : ∀ a, a ≠ 0 → a ≠ 1 → a ≠ 43 → (a < 3 ∨ 24 < a) → (a < 54 ∨ 70 < a) → u2 (u2 (u2 I3 0 5 0) 0 6 0) 43 6 0 a = I a := fun a z0 z1 z43 z3 z4 => by
      rw [u2_row (by omega), u2_row (by omega), u2_row (by omega), f3 a (by omega), r2 a (by omega), u2_row (by omega)]; exact f1.1 a (by omega) (by omega)
    have r0 : ∀ k, k ≠ 5 → k ≠ 6 → u2 (u2 (u2 I3 0 5 0) 0 6 0) 43 6 0 0 k = I 0 k := fun k z0 z1 => by
      rw [u2_row (by omega), u2_k z1, u2_k z0, f3 0 (by omega), r2 0 (by omega), u2_row (by omega), f1.1 0 (by omega) (by omega)]
    have r1 : ∀ k, u2 (u2 (u2 I3 0 5 0) 0 6 0) 43 6 0 1 k = u2 I1 1 1 0 1 k := fun k => by
      rw [u2_row (by omega), u2_row (by omega), u2_row (by omega), f3 1 (by omega), r2 1 (by omega)]
    have h9 := hC.2.2.2.1.2
    have hok' := lfQ_ok hok h9 ((sRd g).2.2.1 0 1)
    obtain ⟨hB, hA, hT, hR, hf, hr, hi, hd, hP⟩ := hX
    refine ⟨⟨hC2.kept (fun a z1 z2 => ?_), h3.kept (fun a z1 z2 => ?_), hok'.1, hok'.2.1⟩, hok'.2.2, ⟨⟨?_, by simp [up]⟩, fun k hk => absurd hk (by simp [up])⟩, ⟨⟨?_, by simp [up]⟩, fun k hk => absurd hk (by simp [up])⟩, ⟨?_, ?_⟩, fun k hk => ?_, ⟨⟨?_, ?_⟩, fun k hk => ?_⟩, ⟨?_, ?_⟩, ⟨?_, by simp [up], fun k hk => ⟨?_, ?_, ?_⟩⟩, 0, by omega, ?_, fun i hi => absurd hi (by simp [up])⟩
    · rw [u2_row (by omega), u2_row (by omega), u2_row (by omega), f3 a (by omega)]
    · rw [u2_row (by omega), u2_row (by omega), u2_row (by omega)]
    · rw [r1, u2_at]; simp [up]; rfl
    · rw [u2_at]; simp [up]; rfl
    · rw [r1, u2_k (by omega), e2]; simp [up]; rfl
    · rw [r1, u2_k (by omega), e3]; simp [up, mI]
    · rw [rr 79 (by omega) (by omega) (by omega) (by omega) (by omega)]; simpa [up] using hr k hk
    · rw [r0 14 (by omega) (by omega)]; simpa [up] using hi.1.1
    · simpa [up] using hi.1.2
    · rw [rr 80 (by omega) (by omega) (by omega) (by omega) (by omega)]
      have := hi.2 k (by simpa [up] using hk)
      simpa [up] using this
    · rw [r0 15 (by omega) (by omega)]; simpa [up] using hd.1
    · simpa [up] using hd.2
    · rw [u2_row (by omega), u2_at]; simp [up]; rfl
    · rw [rr 30 (by omega) (by omega) (by omega) (by omega) (by omega)]; exact (hP.1.2.2 k hk).1
    · rw [u2_row (by omega), u2_row (by omega), u2_row (by omega), f3 69 (by omega), r2 69 (by omega), u2_row (by omega), f1.2.2 k hk]; exact (hP.1.2.2 k hk).2.1
    · rw [rr 78 (by omega) (by omega) (by omega) (by omega) (by omega)]; exact (hP.1.2.2 0 (by omega)).2.2
    · rw [u2_row (by omega), u2_k (by omega), u2_at]; rfl
  · rintro _ rfl
    simp only [if_neg e] at h
    refine ⟨fun y => absurd rfl y, fun _ => ?_⟩
    refine s_refuse (k := 1) (hX.txt2 (k := (sRd g).1) (pl := (sRd g).2.1 + 1) (fun a ha => ?_) (fun k hk => ?_) ?_ ?_ ?_ ?_) (by omega) h
    · by_cases e1 : a = 1
      · omega
      · rw [u2_row e1]; exact f1.1 a e1 (by omega)
    · rw [u2_row (by omega)]; exact f1.2.2 k hk
    · rw [u2_row (by omega), f1.1 43 (by omega) (by omega)]
    · rw [u2_at]
    · rw [u2_k (by omega)]; exact hF.1
    · rw [u2_k (by omega), mI_s]; exact hF.2
end SP

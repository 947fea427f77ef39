/-! the class's Question: read, answerFor; ask -/
def FrQ (I I' : Ii) : Prop := (∀ a, a ≠ 1 → (a < 71 ∨ 76 < a) → I' a = I a) ∧ ∀ k, (k < 2 ∨ 8 < k) → I' 1 k = I 1 k
theorem FrQ.trans {I I1 I2 : Ii} (h1 : FrQ I I1) (h2 : FrQ I1 I2) : FrQ I I2 := ⟨fun a ha hb => (h2.1 a ha hb).trans (h1.1 a ha hb), fun k hk => (h2.2 k hk).trans (h1.2 k hk)⟩
theorem FrB.Q {I I' : Ii} (h : FrB I I') : FrQ I I' := ⟨fun a ha _ => h.1 a ha, h.2⟩
theorem FrP.Q {I I' : Ii} (h : FrP 72 I I') : FrQ I I' := ⟨fun a ha hb => h.1 a ha (by omega) (by omega), h.2.1⟩
section SP
variable {d : Nat} {I : Ii} {J : Jj} {sc s t g : Sx} {L : Nat → List Nat} {ps : Nat → Sx}
theorem TokAt.row {I I' : Ii} {q : Nat} (h : TokAt I g q) (hr : I' 1 = I 1) : TokAt I' g q := by unfold TokAt; rw [hr]; exact h
theorem s_fclear {o : Nat} {K : KV} (ho : z_Ob wX o 3) (h2 : z_Ar wX (o + 2) 1 3) (h3 : z_Ar wX (o + 3) 1 3) (h : ∀ I', (∀ a, a ≠ o → a ≠ o + 2 → a ≠ o + 3 → I' a = I a) → (∀ k, k ≠ 4 → I' o k = I o k) → I' o 4 = 0 → (∀ k, k < 3 → I' (o + 2) k = 0 ∧ I' (o + 3) k = 0) → K I' J) : CalV wX (d + 1) mX3_clear [.ref o] I J K := by
  refine Cal.of (by decide) (Nat.le_of_ble_eq_true rfl) (bX3_clear_0 ho (s_fill h2 (by omega) (fun I1 f1 b1 => s_fill h3 (by omega) (fun I2 f2 b2 => h I2 (fun a z0 z2 z3 => ?_) (fun k hk => ?_) ?_ (fun k hk => ⟨?_, b2 k hk⟩)))))
  · rw [f2 a z3, f1 a z2, u2_row z0]
  · rw [f2 o (by omega), f1 o (by omega), u2_k hk]
  · rw [f2 o (by omega), f1 o (by omega), u2_at]
  · rw [f2 _ (by omega)]; exact b1 k hk
theorem s_begin {o k : Nat} {K : KV} (ho : z_Ob wX o 3) (hk : k < 3) (h : K (u2 I (o + 2) k (I o 4)) J) : CalV wX d mX3_begin [.ref o, .int (nI k)] I J K := by
  refine Cal.of (by decide) (Nat.le_of_ble_eq_true rfl) (bX3_begin_0 ho ?_)
  rw [nI_clamp (by omega)]
  repeat' (first | (refine ⟨vp_in_nI (by omega) (by omega), ?_⟩) | (with_reducible refine And.intro ?_ ?_) | (with_reducible intro I9 e9; subst e9) | (with_reducible intro q9; try (simp (disch := omega) only [Int32.le_iff_toInt_le, Int32.lt_iff_toInt_lt, ← Int32.toInt_inj, nI_toInt, t_bq, t_pc8, t_bel, t_mI, t_ite, t_dec, sm_t, Int32.reduceToInt, t_m1, t_0, t_1, t_2, t_3, t_8, Int.natCast_eq_zero, Int.ofNat_le, Int.ofNat_lt, Int.ofNat_inj, not_true_eq_false, not_false_eq_true, forall_const] at q9); try (exfalso; omega)))
  exact h
theorem s_finish {o k : Nat} {K : KV} (ho : z_Ob wX o 3) (hk : k < 3) (h : K (u2 I (o + 3) k (I o 4)) J) : CalV wX d mX3_finish [.ref o, .int (nI k)] I J K := by
  refine Cal.of (by decide) (Nat.le_of_ble_eq_true rfl) (bX3_finish_0 ho ?_)
  rw [nI_clamp (by omega)]
  repeat' (first | (refine ⟨vp_in_nI (by omega) (by omega), ?_⟩) | (with_reducible refine And.intro ?_ ?_) | (with_reducible intro I9 e9; subst e9) | (with_reducible intro q9; try (simp (disch := omega) only [Int32.le_iff_toInt_le, Int32.lt_iff_toInt_lt, ← Int32.toInt_inj, nI_toInt, t_bq, t_pc8, t_bel, t_mI, t_ite, t_dec, sm_t, Int32.reduceToInt, t_m1, t_0, t_1, t_2, t_3, t_8, Int.natCast_eq_zero, Int.ofNat_le, Int.ofNat_lt, Int.ofNat_inj, not_true_eq_false, not_false_eq_true, forall_const] at q9); try (exfalso; omega)))
  exact h
theorem wop_wk (w : Nat) : z_wk (wop w) := by
  unfold wop
  split
  · exact z_wkS (by omega)
  · intro k e; cases e
theorem wop_i {w i : Nat} (hi : i < 34) : wop w = some (10000 + i) ↔ w = i := by
  unfold wop
  split
  · simp
  · simp; omega
theorem s_qread {K : KI} (hT : EnT I g) (hsc : I 78 2 = nI 4) (h1 : (qrd g).1 = 0 → ∀ I', FrQ I I' → EnF I' 72 0 (qrd g).2.2 → z_wo (I' 71 6) = wop (wd g (skp g 0)) → I' 1 2 = 0 → I' 1 3 = -1 → K 1 I' J) (h0 : (qrd g).1 ≠ 0 → ∀ I', FrQ I I' → Flt I' (qrd g).1 (qrd g).2.1 → K 0 I' J) : CalI wX (d + 33) mX5_read [.ref 71] I J K := by
  have h16 := hT.1.2
  refine Cal.of (by decide) (Nat.le_of_ble_eq_true rfl) (bX5_read_0 (s_open hT (fun I1 f1 e12 e13 hk1 => s_fclear obX_72 arX_74 arX_75 (fun I3 r3 k3 s3 b3 => ?_))))
  have row3 : ∀ a, a ≠ 72 → a ≠ 74 → a ≠ 75 → I3 a = I1 a := r3
  have hT1 := hT.B f1
  have hT3 : EnT I3 g := by unfold EnT; rw [r3 1 (by omega) (by omega) (by omega), r3 2 (by omega) (by omega) (by omega)]; exact hT1
  have hk3 : TokAt I3 g (skp g 0) := hk1.row (r3 1 (by omega) (by omega) (by omega))
  have fQ3 : FrQ I I3 := f1.Q.trans ⟨fun a ha hb => r3 a (by omega) (by omega) (by omega), fun k hk => by rw [r3 1 (by omega) (by omega) (by omega)]⟩
  refine s_knownWord hT3 hk3 ?_
  generalize hI5 : u2 I3 71 6 (z_wn (wop (wd g (skp g 0)))) = I5
  have ew : z_wo (I5 71 6) = wop (wd g (skp g 0)) := by rw [← hI5, u2_at, z_wo_wn (wop_wk _)]
  have r5 : ∀ a, a ≠ 71 → I5 a = I3 a := fun a ha => by rw [← hI5, u2_row ha]
  have fQ5 : FrQ I I5 := fQ3.trans ⟨fun a ha hb => r5 a (by omega), fun k hk => by rw [r5 1 (by omega)]⟩
  have hT5 : EnT I5 g := by unfold EnT; rw [r5 1 (by omega), r5 2 (by omega)]; exact hT3
  have hk5 : TokAt I5 g (skp g 0) := hk3.row (r5 1 (by omega))
  have e52 : I5 1 2 = 0 := by rw [r5 1 (by omega), r3 1 (by omega) (by omega) (by omega)]; exact e12
  have e53 : I5 1 3 = -1 := by rw [r5 1 (by omega), r3 1 (by omega) (by omega) (by omega)]; exact e13
  -- the end
  have fin : ∀ (r : Res) (b : Int32) (I6 I9 : Ii), (∀ a, a ≠ 1 → a ≠ 74 → I6 a = I5 a) → (∀ k, (k < 4 ∨ 8 < k) → I6 1 k = I5 1 k) → I6 74 0 = 0 → PO g 72 0 I6 r b I9 → (r.1 = 0 → r.2.2.length ≤ 1600) → qrd g = qend g r → GoI wX (d + 32 + 1) mX5_read 151 [(0, .ref 71)] [.int b] I9 J K := by
    intro r b I6 I9 r6 k6 z6 hP hlen eq
    refine bX5_read_151 (s_finish (k := 0) obX_72 (by omega) ?_)
    generalize hI10 : u2 I9 (72 + 3) 0 (I9 72 4) = I10
    have r10 : ∀ a, a ≠ 75 → I10 a = I9 a := fun a ha => by rw [← hI10, u2_row ha]
    have fQ10 : FrQ I I10 := by
      refine fQ5.trans ⟨fun a ha hb => ?_, fun k hk => ?_⟩
      · rw [r10 a (by omega), hP.1.1 a ha (by omega) (by omega), r6 a ha (by omega)]
      · rw [r10 1 (by omega), hP.1.2.1 k hk, k6 k (by omega)]
    refine ⟨fun y => ?_, fun y => ?_⟩
    · have n := hP.b0.mp y
      have hF := (hP.2.2 n).2.1
      refine bX5_read_189 (h0 (by rw [eq, qend, if_neg n]; exact n) I10 fQ10 ?_)
      rw [eq, qend, if_neg n]
      unfold Flt; rw [r10 1 (by omega)]; exact hF
    · obtain ⟨eb, q2, cs2, er⟩ := hP.is y
      subst er
      have hk9 := hP.T
      have htl := tk_le hT.lt q2
      have eqn : qend g (0, q2, cs2) = if tk g q2 = 300 then (0, q2, cs2) else (1, q2, []) := by rw [qend, if_pos rfl]
      rw [r10 1 (by omega), hk9.2.2.1, tkI_m1 htl]
      refine ⟨fun y2 => ?_, fun y2 => ?_⟩
      · have e : qrd g = (0, q2, cs2) := by rw [eq, eqn, if_pos y2]
        rw [e] at h1
        refine bX5_read_185 (h1 rfl I10 fQ10 ?_ ?_ ?_ ?_)
        · obtain ⟨-, -, s9, -, c9, -, -⟩ := hP.2.1 rfl
          refine ⟨0, cs2.length, ?_, ?_, by simp, hlen rfl, fun i hi => ?_⟩
          · rw [r10 (72 + 2) (by omega), hP.1.1 _ (by omega) (by omega) (by omega), show (72 + 2 : Nat) = 74 from rfl, z6]; rfl
          · rw [← hI10, u2_at, s9]; simp
          · rw [r10 (72 + 1) (by omega)]; have := c9 i hi; simpa using this
        · rw [r10 71 (by omega), hP.1.1 71 (by omega) (by omega) (by omega), r6 71 (by omega) (by omega)]; exact ew
        · rw [r10 1 (by omega), (hP.2.1 rfl).2.2.2.2.2.1, k6 2 (by omega)]; exact e52
        · rw [r10 1 (by omega), (hP.2.1 rfl).2.2.2.2.2.2, k6 3 (by omega)]; exact e53
      · have e : qrd g = (1, q2, []) := by rw [eq, eqn, if_neg y2]
        rw [e] at h0
        refine s_failHere (hk9.row (r10 1 (by omega))) (fun I11 fB hF => ⟨fun _ => bX5_read_189 (h0 (by simp) I11 (fQ10.trans fB.Q) hF), fun z => absurd rfl z⟩)
  -- what is asked
  have go : ∀ v : Int32, (28 ≤ wd g (skp g 0) ∧ wd g (skp g 0) ≤ 33) → (v = 0 ↔ ¬ wd g (skp g 0) ≤ 30) → GoI wX (d + 32 + 1) mX5_read 113 [(0, .ref 71), (1, .int v)] [] I5 J K := by
    intro v hw hv
    have hlt := wd_lt (g := g) (q := skp g 0) rfl (by omega)
    refine bX5_read_113 (s_adv hT5 hk5 (fun I6 fA hk6 => s_begin (k := 0) obX_72 (by omega) ?_))
    have z64 : I6 72 4 = 0 := by rw [fA.1 72 (by omega), r5 72 (by omega)]; exact s3
    rw [z64]
    generalize hI7 : u2 I6 (72 + 2) 0 0 = I7
    have r7 : ∀ a, a ≠ 74 → I7 a = I6 a := fun a ha => by rw [← hI7, u2_row ha]
    have hT7 : EnT I7 g := by unfold EnT; rw [r7 1 (by omega), r7 2 (by omega)]; exact hT5.A fA
    have hk7 : TokAt I7 g (adv g (skp g 0)) := hk6.row (r7 1 (by omega))
    have s7 : I7 78 2 = nI 4 := by rw [r7 78 (by omega), fA.1 78 (by omega), fQ5.1 78 (by omega) (by omega)]; exact hsc
    have z7 : I7 72 4 = nI 0 := by rw [r7 72 (by omega)]; exact z64
    have a1 : ∀ a, a ≠ 1 → a ≠ 74 → I7 a = I5 a := fun a h1 h2 => by rw [r7 a h2, fA.1 a h1]
    have a2 : ∀ k, (k < 4 ∨ 8 < k) → I7 1 k = I5 1 k := fun k hk => by rw [r7 1 (by omega), fA.2 k hk]
    have a3 : I7 74 0 = 0 := by rw [← hI7, u2_at]
    have hal := (adv_le (g := g) (q := skp g 0) (by omega)).1
    refine ⟨fun y => ?_, fun y => ?_⟩
    · have hw2 := hv.mp y
      refine c_sums (g := g) GO_q (Or.inr (Or.inr rfl)) 6 (by omega) (d + 3) I7 J _ 0 _ hT7 s7 hk7 z7 (by omega) (fun b I9 hP => ?_)
      refine fin _ b I7 I9 a1 a2 a3 hP (fun e => ?_) ?_
      · have := Gd_sum (g := g) (sco := 4) (m := 6) _ hal e; omega
      · rw [qrd, if_pos hw, if_neg hw2]
    · have hw2 : wd g (skp g 0) ≤ 30 := Decidable.byContradiction (fun z => y (hv.mpr z))
      refine c_tests (g := g) GO_q (Or.inr (Or.inr rfl)) 6 (by omega) d I7 J _ 0 _ hT7 s7 hk7 z7 (by omega) (fun b I9 hP => ?_)
      refine fin _ b I7 I9 a1 a2 a3 hP (fun e => ?_) ?_
      · have := Gd_test (g := g) (sco := 4) (m := 6) _ hal e; omega
      · rw [qrd, if_pos hw, if_pos hw2]
  have at60 : ∀ s0 : Int32, (s0 = 0 ∨ s0 = 1) → (s0 = 1 ↔ wd g (skp g 0) = 28 ∨ wd g (skp g 0) = 29 ∨ wd g (skp g 0) = 30) → GoI wX (d + 32 + 1) mX5_read 60 [(0, .ref 71)] [.int s0] I5 J K := by
    intro s0 h01 hs0
    have go1 : (wd g (skp g 0) = 31 ∨ wd g (skp g 0) = 32 ∨ wd g (skp g 0) = 33) → GoI wX (d + 32 + 1) mX5_read 91 [(0, .ref 71), (1, .int s0)] [] I5 J K := by
      intro hw
      have e0 : s0 = 0 := h01.resolve_right (fun z => by have := hs0.mp z; omega)
      subst e0
      exact bX5_read_91 (bX5_read_96 ⟨fun z => absurd rfl z, fun _ => ⟨fun _ => go 0 (by omega) ⟨fun _ => by omega, fun _ => rfl⟩, fun z => absurd z (by decide)⟩⟩)
    refine bX5_read_60 ?_
    rw [ew, wop_i (i := 31) (by omega), wop_i (i := 32) (by omega), wop_i (i := 33) (by omega)]
    refine ⟨wop_wk _, fun z => go1 (Or.inl z), fun z1 => ⟨fun z => go1 (Or.inr (Or.inl z)), fun z2 => ⟨fun z3 => ?_, fun z => go1 (Or.inr (Or.inr z))⟩⟩⟩
    refine bX5_read_96 ⟨fun z => ?_, fun z => ⟨fun z4 => absurd rfl z4, fun _ => ?_⟩⟩
    · have hw := hs0.mp (h01.resolve_left z)
      exact go s0 (by omega) ⟨fun y => absurd y z, fun y => absurd (by omega) y⟩
    · have hw : ¬ (28 ≤ wd g (skp g 0) ∧ wd g (skp g 0) ≤ 33) := fun y => by
        have : ¬ (wd g (skp g 0) = 28 ∨ wd g (skp g 0) = 29 ∨ wd g (skp g 0) = 30) := fun y2 => by have := hs0.mpr y2; rw [z] at this; exact absurd this (by decide)
        omega
      have e : qrd g = (1, skp g 0, []) := by rw [qrd, if_neg hw]
      rw [e] at h0
      exact s_failHere hk5 (fun I6 fB hF => ⟨Or.inl rfl, h0 (by simp) I6 (fQ5.trans fB.Q) hF⟩)
  rw [ew, wop_i (i := 28) (by omega), wop_i (i := 29) (by omega), wop_i (i := 30) (by omega)]
  refine ⟨wop_wk _, wop_wk _, fun z => bX5_read_55 (at60 1 (Or.inr rfl) ⟨fun _ => Or.inl z, fun _ => rfl⟩), fun z1 => ⟨fun z => bX5_read_55 (at60 1 (Or.inr rfl) ⟨fun _ => Or.inr (Or.inl z), fun _ => rfl⟩), fun z2 => ⟨fun z3 => at60 0 (Or.inl rfl) ⟨fun y => absurd y (by decide), fun y => by omega⟩, fun z => bX5_read_55 (at60 1 (Or.inr rfl) ⟨fun _ => Or.inr (Or.inr z), fun _ => rfl⟩)⟩⟩⟩
end SP

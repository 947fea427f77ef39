/-! schools, in neutral words; the class's SchoolReader: names -/
abbrev Dr : Type := Sx × (Nat → List Nat) × Sx
abbrev SR : Type := Nat × Nat × Dr
def plc (f : Nat → Nat) (n v : Nat) : Nat := rn (fun k => decide (f k ≠ v)) n 0
/-- one that is known: fault, where, which -/
def kno (g : Sx) (f : Nat → Nat) (n q : Nat) : Nat × Nat × Nat := if (nam g q).1 ≠ 0 then ((nam g q).1, (nam g q).2, 0) else if plc f n (tpk g q) = n then (3, q, 0) else (0, adv g q, plc f n (tpk g q))
/-- a new name -/
def nwn (g sc : Sx) (q : Nat) : Nat × Nat × Nat := if (nam g q).1 ≠ 0 then ((nam g q).1, (nam g q).2, 0) else if plc (sc 1) (sc 0 0) (tpk g q) ≠ sc 0 0 ∨ plc (sc 3) (sc 0 1) (tpk g q) ≠ sc 0 1 then (3, q, 0) else (0, adv g q, tpk g q)
/-- what is told of number i: its name in row 2 i + 1, the other in row 2 i + 2 -/
def scN (sc : Sx) (i v w : Nat) : Sx := up (up (up sc (2 * i + 1) (sc 0 i) v) (2 * i + 2) (sc 0 i) w) 0 i (sc 0 i + 1)
def sNew (g : Sx) (i wo a b : Nat) (D : Dr) (q : Nat) : SR :=
  if 8 ≤ D.1 0 i then (5, q, D)
  else if (nwn g D.1 (adv g q)).1 ≠ 0 then ((nwn g D.1 (adv g q)).1, (nwn g D.1 (adv g q)).2.1, D)
  else if wd g (adv g (adv g q)) ≠ wo then (1, adv g (adv g q), D)
  else if (nmf g a b (adv g (adv g (adv g q)))).1 ≠ 0 then ((nmf g a b (adv g (adv g (adv g q)))).1, (nmf g a b (adv g (adv g (adv g q)))).2, D)
  else (0, adv g (adv g (adv g (adv g q))), scN D.1 i (tpk g (adv g q)) (tvl g (adv g (adv g (adv g q)))), D.2.1, D.2.2)
def sBel (g : Sx) (b : Nat) (D : Dr) (q : Nat) : SR :=
  if (kno g (D.1 3) (D.1 0 1) (adv g q)).1 ≠ 0 then ((kno g (D.1 3) (D.1 0 1) (adv g q)).1, (kno g (D.1 3) (D.1 0 1) (adv g q)).2.1, D)
  else if (kno g (D.1 1) (D.1 0 0) (adv g (adv g q))).1 ≠ 0 then ((kno g (D.1 1) (D.1 0 0) (adv g (adv g q))).1, (kno g (D.1 1) (D.1 0 0) (adv g (adv g q))).2.1, D)
  else if bel D.2.2 (kno g (D.1 3) (D.1 0 1) (adv g q)).2.2 (kno g (D.1 1) (D.1 0 0) (adv g (adv g q))).2.2 ≠ 0 then (3, adv g (adv g q), D)
  else (0, adv g (adv g (adv g q)), D.1, D.2.1, blv D.2.2 (kno g (D.1 3) (D.1 0 1) (adv g q)).2.2 (kno g (D.1 1) (D.1 0 0) (adv g (adv g q))).2.2 b)
def sTau (g : Sx) (D : Dr) (q : Nat) : SR :=
  if (kno g (D.1 3) (D.1 0 1) (adv g q)).1 ≠ 0 then ((kno g (D.1 3) (D.1 0 1) (adv g q)).1, (kno g (D.1 3) (D.1 0 1) (adv g q)).2.1, D)
  else if D.2.2 0 (kno g (D.1 3) (D.1 0 1) (adv g q)).2.2 ≠ 0 then (3, adv g q, D)
  else if wd g (adv g (adv g q)) ≠ 3 then (1, adv g (adv g q), D)
  else if (kno g (D.1 3) (D.1 0 1) (adv g (adv g (adv g q)))).1 ≠ 0 then ((kno g (D.1 3) (D.1 0 1) (adv g (adv g (adv g q)))).1, (kno g (D.1 3) (D.1 0 1) (adv g (adv g (adv g q)))).2.1, D)
  else if (kno g (D.1 3) (D.1 0 1) (adv g (adv g (adv g q)))).2.2 = (kno g (D.1 3) (D.1 0 1) (adv g q)).2.2 ∨ anc D.2.2 (kno g (D.1 3) (D.1 0 1) (adv g q)).2.2 8 (D.2.2 0 (kno g (D.1 3) (D.1 0 1) (adv g (adv g (adv g q)))).2.2) = true then (3, adv g (adv g (adv g q)), D)
  else (0, adv g (adv g (adv g (adv g q))), D.1, D.2.1, up D.2.2 0 (kno g (D.1 3) (D.1 0 1) (adv g q)).2.2 ((kno g (D.1 3) (D.1 0 1) (adv g (adv g (adv g q)))).2.2 + 1))
def sLaw (g : Sx) (w sco : Nat) (D : Dr) (q : Nat) : SR :=
  if D.2.1 w ≠ [] then (5, q, D)
  else if (pTest g sco 6 (adv g q)).1 ≠ 0 then ((pTest g sco 6 (adv g q)).1, (pTest g sco 6 (adv g q)).2.1, D)
  else (0, (pTest g sco 6 (adv g q)).2.1, D.1, (fun k => if k = w then (pTest g sco 6 (adv g q)).2.2 else D.2.1 k), D.2.2)
def sNum (g : Sx) (i a b : Nat) (D : Dr) (q : Nat) : SR :=
  if (nmf g a b (adv g q)).1 ≠ 0 then ((nmf g a b (adv g q)).1, (nmf g a b (adv g q)).2, D) else (0, adv g (adv g q), up D.1 0 i (tvl g (adv g q)), D.2.1, D.2.2)
def sSt (g : Sx) (D : Dr) (q : Nat) : SR :=
  if wd g q = 0 then sNew g 0 20 1 9 D q else if wd g q = 1 then sNew g 1 16 0 99 D q else if wd g q = 26 then sBel g 1 D q else if wd g q = 27 then sBel g 2 D q else if wd g q = 2 then sTau g D q
  else if wd g q = 4 then sLaw g 0 1 D q else if wd g q = 5 then sLaw g 1 1 D q else if wd g q = 6 then sLaw g 2 2 D q else if wd g q = 7 then sNum g 2 0 99 D q else if wd g q = 8 then sNum g 3 0 9 D q else if wd g q = 9 then sNum g 4 0 100 D q else (1, q, D)
def sLp (g : Sx) : Nat → Nat → Dr → Nat → SR
  | 0, c, D, q => if tk g q = 300 then (0, c, D) else (5, q, D)
  | n + 1, c, D, q => if tk g q = 300 then (0, c, D) else if (sSt g D q).1 ≠ 0 then ((sSt g D q).1, (sSt g D q).2.1, D) else if tk g (sSt g D q).2.1 = 59 then sLp g n (c + 1) (sSt g D q).2.2 (adv g (sSt g D q).2.1) else (1, (sSt g D q).2.1, D)
def D0 : Dr := (fun a k => if a = 0 ∧ k = 2 then 10 else if a = 0 ∧ k = 3 then 3 else 0, fun _ => [], fun _ _ => 0)
def sRd (g : Sx) : SR := sLp g 80 0 D0 (skp g 0)
/-- with tries for all -/
def lfP (sc s : Sx) : Sx := fun a k => if a = 3 ∧ k < sc 0 1 then sc 0 3 else s a k
/-- the draft -/
def EnDr (I : Ii) (D : Dr) (z : Nat) : Prop := EnC I 54 D.1 D.2.1 ∧ EnS I 64 D.2.2 ∧ okS D.1 D.2.2 ∧ (I 59 4 = nI z ∧ z ≤ 1600) ∧ ∀ k, k < 3 → ∃ t, I 62 k = nI t ∧ t ≤ z
def FrD (I I' : Ii) : Prop := (∀ a, a ≠ 1 → (a < 54 ∨ 70 < a) → I' a = I a) ∧ (∀ k, (k < 2 ∨ 8 < k) → I' 1 k = I 1 k) ∧ ∀ k, k < 30 → I' 69 k = I 69 k
theorem FrD.trans {I I1 I2 : Ii} (h1 : FrD I I1) (h2 : FrD I1 I2) : FrD I I2 := ⟨fun a ha hb => (h2.1 a ha hb).trans (h1.1 a ha hb), fun k hk => (h2.2.1 k hk).trans (h1.2.1 k hk), fun k hk => (h2.2.2 k hk).trans (h1.2.2 k hk)⟩
theorem FrD.refl (I : Ii) : FrD I I := ⟨fun _ _ _ => rfl, fun _ _ => rfl, fun _ _ => rfl⟩
theorem FrB.D {I I' : Ii} (h : FrB I I') : FrD I I' := ⟨fun a ha _ => h.1 a ha, h.2, fun k _ => by rw [h.1 69 (by omega)]⟩
theorem FrA.D {I I' : Ii} (h : FrA I I') : FrD I I' := h.B.D
theorem FrP.D {I I' : Ii} (h : FrP 59 I I') : FrD I I' := ⟨fun a ha hb => h.1 a ha (by omega) (by omega), h.2.1, fun k _ => by rw [h.1 69 (by omega) (by omega) (by omega)]⟩
theorem EnT.D {I I' : Ii} {g : Sx} (h : EnT I g) (hk : FrD I I') : EnT I' g := by unfold EnT; rw [hk.2.1 1 (by omega), hk.1 2 (by omega) (by omega)]; exact h
theorem EnDr.kept {I I' : Ii} {D : Dr} {z : Nat} (h : EnDr I D z) (hk : ∀ a, 54 ≤ a → a ≤ 69 → I' a = I a) : EnDr I' D z := by
  obtain ⟨h1, h2, h3, h4, h5⟩ := h
  exact ⟨h1.kept (fun a h1 h2 => hk a (by omega) (by omega)), h2.kept (fun a h1 h2 => hk a (by omega) (by omega)), h3, by rw [hk 59 (by omega) (by omega)]; exact h4, by rw [hk 62 (by omega) (by omega)]; exact h5⟩
theorem EnDr.A {I I' : Ii} {D : Dr} {z : Nat} (h : EnDr I D z) (hk : FrA I I') : EnDr I' D z := h.kept (fun a h1 h2 => hk.1 a (by omega))
/-- what a statement leaves -/
def SO (g : Sx) (I : Ii) (r : SR) (b : Int32) (I' : Ii) : Prop := FrD I I' ∧ (r.1 = 0 → b = 1 ∧ TokAt I' g r.2.1 ∧ (∃ z, EnDr I' r.2.2 z ∧ z ≤ r.2.1) ∧ I' 1 2 = I 1 2 ∧ I' 1 3 = I 1 3) ∧ (r.1 ≠ 0 → b = 0 ∧ Flt I' r.1 r.2.1)
section SP
variable {d : Nat} {I : Ii} {J : Jj} {g : Sx} {q : Nat}
theorem SO.no {I1 : Ii} {r : SR} (hf : FrD I I1) (h : r.1 ≠ 0) (hF : Flt I1 r.1 r.2.1) : SO g I r 0 I1 := ⟨hf, fun e => absurd e h, fun _ => ⟨rfl, hF⟩⟩
theorem s_placeOf {a n v : Nat} {f : Nat → Nat} {K : KI} (ha : z_Ar wX a 1 8) (hn : n ≤ 8) (hv : v < 2 ^ 30) (hr : ∀ k, k < n → I a k = nI (f k) ∧ f k < 2 ^ 30) (h : K (if plc f n v = n then -1 else nI (plc f n v)) I J) : CalI wX d mX7_placeOf [.int (nI v), .ref a, .int (nI n)] I J K := by
  refine Cal.of (by decide) (Nat.le_of_ble_eq_true rfl) (bX7_placeOf_0 ha ?_)
  have key : ∀ r k, k + r = n → plc f n v = rn (fun k => decide (f k ≠ v)) n k → GoI wX d mX7_placeOf 2 [(0, .int (nI v)), (1, .ref a), (2, .int (nI n)), (3, .int (nI k))] [] I J K := by
    intro r
    induction r with
    | zero =>
      intro k hk e
      refine bX7_placeOf_2 ha ?_
      rw [if_pos (by rw [e, rn_end (by omega)]; omega)] at h
      repeat' (first | (refine ⟨vp_in_nI (by omega) (by omega), ?_⟩) | (with_reducible refine And.intro ?_ ?_) | (with_reducible intro I9 e9; subst e9) | (with_reducible intro q9; try (simp (disch := omega) only [Int32.le_iff_toInt_le, Int32.lt_iff_toInt_lt, ← Int32.toInt_inj, nI_toInt, t_bq, t_pc8, t_bel, t_mI, t_ite, t_dec, sm_t, Int32.reduceToInt, t_m1, t_0, t_1, t_2, t_3, t_8, Int.natCast_eq_zero, Int.ofNat_le, Int.ofNat_lt, Int.ofNat_inj, not_true_eq_false, not_false_eq_true, forall_const] at q9); try (exfalso; omega)))
      exact h
    | succ r ih =>
      intro k hk e
      have hrk := hr k (by omega)
      refine bX7_placeOf_2 ha ?_
      rw [nI_clamp (by omega), hrk.1, nI_eq (by omega) (by omega), nI_1]
      refine ⟨fun z => ?_, fun _ => ⟨fun z => ?_, fun _ => ⟨vp_in_nI (by omega) (by omega), fun z => ?_, fun z => ?_⟩⟩⟩
      · simp (disch := omega) only [Int32.le_iff_toInt_le, Int32.lt_iff_toInt_lt, ← Int32.toInt_inj, nI_toInt, t_bq, t_pc8, t_bel, t_mI, t_ite, t_dec, sm_t, Int32.reduceToInt, t_m1, t_0, t_1, t_2, t_3, t_8, Int.natCast_eq_zero, Int.ofNat_le, Int.ofNat_lt, Int.ofNat_inj, not_true_eq_false, not_false_eq_true, forall_const] at z
        exfalso; omega
      · simp (disch := omega) only [Int32.le_iff_toInt_le, Int32.lt_iff_toInt_lt, ← Int32.toInt_inj, nI_toInt, t_bq, t_pc8, t_bel, t_mI, t_ite, t_dec, sm_t, Int32.reduceToInt, t_m1, t_0, t_1, t_2, t_3, t_8, Int.natCast_eq_zero, Int.ofNat_le, Int.ofNat_lt, Int.ofNat_inj, not_true_eq_false, not_false_eq_true, forall_const] at z
        exfalso; omega
      · exact ih (k + 1) (by omega) (by rw [e, rn_go (q := fun k => decide (f k ≠ v)) (by omega) (by simpa using z)])
      · have e2 : plc f n v = k := by rw [e, rn_no (q := fun k => decide (f k ≠ v)) (by simpa using z)]
        rw [e2, if_neg (by omega)] at h
        exact h
  exact key n 0 (by omega) rfl
theorem plc_le (f : Nat → Nat) (n v : Nat) : plc f n v ≤ n := (rn_le _ _ _).2 (by omega)
theorem nam_p {g : Sx} {q : Nat} (h : (nam g q).1 = 0) : q < g 0 0 := by
  unfold nam at h
  split at h
  · next e => exact tk_lt (by omega)
  · exact absurd h (by simp)
theorem s_takeKnown {a n : Nat} {f : Nat → Nat} {K : KI} (hT : EnT I g) (hk : TokAt I g q) (ha : z_Ar wX a 1 8) (ha1 : a ≠ 1) (hn : n ≤ 8) (hr : ∀ k, k < n → I a k = nI (f k) ∧ f k < 2 ^ 30) (h1 : (kno g f n q).1 = 0 → (kno g f n q).2.2 < n → (kno g f n q).2.1 = adv g q → ∀ I', FrA I I' → TokAt I' g (adv g q) → K (nI (kno g f n q).2.2) I' J) (h0 : (kno g f n q).1 ≠ 0 → ∀ I', FrB I I' → Flt I' (kno g f n q).1 (kno g f n q).2.1 → K (-1) I' J) : CalI wX (d + 3) mX8_takeKnown [.ref 53, .ref a, .int (nI n)] I J K := by
  have hpl := tpk_lt (g := g) q
  refine Cal.of (by decide) (Nat.le_of_ble_eq_true rfl) (bX8_takeKnown_0 ha (s_takeName hT hk (fun e I1 fA hT1 => ?_) (fun e I1 fB hF => ?_)))
  · refine ⟨fun _ => s_placeOf (f := f) ha hn hpl (by rw [fA.1 a ha1]; exact hr) ?_, fun z => absurd z (nI_ne_m1 (by omega))⟩
    have hle := plc_le f n (tpk g q)
    by_cases e2 : plc f n (tpk g q) = n
    · rw [if_pos e2]
      have ek : kno g f n q = (3, q, 0) := by rw [kno, if_neg (by simp [e]), if_pos e2]
      rw [ek] at h0
      refine ⟨fun z => absurd rfl z, fun _ => ?_⟩
      rw [hk.1.1]
      exact s_fail (k := 3) (fun I2 fB2 hF2 => h0 (by simp) I2 (fA.B.trans fB2) hF2)
    · rw [if_neg e2]
      have ek : kno g f n q = (0, adv g q, plc f n (tpk g q)) := by rw [kno, if_neg (by simp [e]), if_neg e2]
      rw [ek] at h1
      exact ⟨fun _ => h1 rfl (by simp only; omega) rfl I1 fA hT1, fun z => absurd z (nI_ne_m1 (by omega))⟩
  · have ek : kno g f n q = ((nam g q).1, (nam g q).2, 0) := by rw [kno, if_pos e]
    rw [ek] at h0
    exact ⟨fun z => absurd rfl z, fun _ => h0 e I1 fB hF⟩
theorem s_takeNewName {D : Dr} {z : Nat} {K : KI} (hT : EnT I g) (hk : TokAt I g q) (hD : EnDr I D z) (h1 : (nwn g D.1 q).1 = 0 → ∀ I', FrA I I' → TokAt I' g (adv g q) → K (nI (tpk g q)) I' J) (h0 : (nwn g D.1 q).1 ≠ 0 → ∀ I', FrB I I' → Flt I' (nwn g D.1 q).1 (nwn g D.1 q).2.1 → K (-1) I' J) : CalI wX (d + 3) mX8_takeNewName [.ref 53] I J K := by
  have hpl := tpk_lt (g := g) q
  obtain ⟨hF8, hP8, -, -, -, hfn, hpn, -⟩ := hD.1
  refine Cal.of (by decide) (Nat.le_of_ble_eq_true rfl) (bX8_takeNewName_0 (s_takeName hT hk (fun e I1 fA hT1 => ?_) (fun e I1 fB hF => ?_)))
  · refine ⟨fun _ => ?_, fun z => absurd z (nI_ne_m1 (by omega))⟩
    rw [fA.1 54 (by omega), hF8.1, hk.1.1]
    refine s_placeOf (f := D.1 1) arX_55 hF8.2 hpl (by rw [fA.1 55 (by omega)]; exact fun k hk => ⟨(hfn k hk).1, (hfn k hk).2.1⟩) ?_
    have l1 := plc_le (D.1 1) (D.1 0 0) (tpk g q)
    have l2 := plc_le (D.1 3) (D.1 0 1) (tpk g q)
    have bad : (plc (D.1 1) (D.1 0 0) (tpk g q) ≠ D.1 0 0 ∨ plc (D.1 3) (D.1 0 1) (tpk g q) ≠ D.1 0 1) → CalI wX (d + 2) mX10_fail [.ref 1, .int 3, .int (nI q)] I1 J (fun x11 I9 J10 => K (-1) I9 J10) := by
      intro hb
      have ek : nwn g D.1 q = (3, q, 0) := by rw [nwn, if_neg (by simp [e]), if_pos hb]
      rw [ek] at h0
      exact s_fail (k := 3) (fun I2 fB2 hF2 => h0 (by simp) I2 (fA.B.trans fB2) hF2)
    by_cases e1 : plc (D.1 1) (D.1 0 0) (tpk g q) = D.1 0 0
    · rw [if_pos e1]
      refine ⟨fun z => absurd rfl z, fun _ => ?_⟩
      rw [fA.1 54 (by omega), hP8.1]
      refine s_placeOf (f := D.1 3) arX_57 hP8.2 hpl (by rw [fA.1 57 (by omega)]; exact fun k hk => ⟨(hpn k hk).1, (hpn k hk).2.1⟩) ?_
      by_cases e2 : plc (D.1 3) (D.1 0 1) (tpk g q) = D.1 0 1
      · rw [if_pos e2]
        refine ⟨fun _ => h1 ?_ I1 fA hT1, fun z => absurd rfl z⟩
        rw [nwn, if_neg (by simp [e]), if_neg (by simp [e1, e2])]
      · rw [if_neg e2]
        exact ⟨fun z => absurd z (nI_ne_m1 (by omega)), fun _ => bad (Or.inr e2)⟩
    · rw [if_neg e1]
      exact ⟨fun _ => bad (Or.inl e1), fun z => absurd z (nI_ne_m1 (by omega))⟩
  · have ek : nwn g D.1 q = ((nam g q).1, (nam g q).2, 0) := by rw [nwn, if_pos e]
    rw [ek] at h0
    exact ⟨fun z => absurd rfl z, fun _ => h0 e I1 fB hF⟩
end SP

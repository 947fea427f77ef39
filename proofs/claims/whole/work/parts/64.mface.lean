/-! the reference: all that it is, between calls -/
/-- which word a place holds -/
def wplL : List Nat := [0, 20, 1, 16, 26, 27, 2, 3, 4, 5, 6, 7, 8, 9, 17, 18, 19, 21, 22, 23, 24, 25, 10, 11, 12, 13, 14, 15]
def wplQ : List Nat := [28, 29, 30, 31, 32, 33, 12, 11, 10, 13, 14, 15, 16, 17, 18, 19, 20, 21, 22, 23, 24, 25, 26, 27, 3]
def wpl (a : Nat) : Nat := if a < 50 then wplL.getD (a - 3) 0 else wplQ.getD (a - 50) 0
/-- its letters -/
def wch (i k : Nat) : Nat := pkN i / 32 ^ k % 32 + 96
def EnWo (I : Ii) : Prop := ∀ a, ((3 ≤ a ∧ a ≤ 30) ∨ (50 ≤ a ∧ a ≤ 74)) → ∀ k, k < (wM.1 a).2 → I a k = nI (wch (wpl a) k)
/-- what can be undone -/
def EnU (I : Ii) (sc : Sx) (ps : Nat → Sx) (g : Sx) : Prop := (I 0 65 = nI (g 0 6) ∧ g 0 6 ≤ 20) ∧ ∃ nw, nw < 20 ∧ I 0 66 = nI nw ∧ ∀ i, i < g 0 6 → EnN (fun k => I 49 (132 * ((nw + 21 + i - g 0 6) % 20) + k)) (sc 0 1) (ps i) ∧ EnK (fun k => I 49 (132 * ((nw + 21 + i - g 0 6) % 20) + k)) (ps i) ∧ okS sc (ps i)
def EnMT (I : Ii) (g : Sx) : Prop := (I 0 1 = nI (g 0 0) ∧ g 0 0 ≤ 1600) ∧ ∀ k, k < g 0 0 → I 1 k = nI (g 1 k) ∧ g 1 k < 256
def EnMR (I : Ii) (sc g : Sx) : Prop := (I 0 60 = nI (g 0 3) ∧ g 0 3 ≤ 16) ∧ ∀ k, k < g 0 3 → (I 46 (2 * k) = nI (g 4 (2 * k)) ∧ g 4 (2 * k) < sc 0 1) ∧ I 46 (2 * k + 1) = nI (g 4 (2 * k + 1)) ∧ g 4 (2 * k + 1) ≤ 2
def EnMI (I : Ii) (g : Sx) : Prop := (I 0 104 = nI (g 0 4) ∧ g 0 4 ≤ 43) ∧ ∀ k, k < g 0 4 → I 78 k = nI (g 3 k)
def EnM (I : Ii) (J : Jj) (sc : Sx) (L : Nat → List Nat) (s : Sx) (ps : Nat → Sx) (g : Sx) : Prop :=
  EnMC I J sc L ∧ EnV I sc s ∧ (s 4 0 ≤ 999 ∧ acy s) ∧ EnK (I 42) s ∧ I 0 58 = 0 ∧ EnMT I g ∧ EnMR I sc g ∧ (I 0 7 = nI (g 0 1) ∧ I 0 8 = mI (g 0 2)) ∧ (∀ k, k < 6 → I 2 k = nI (g 2 k)) ∧ EnMI I g ∧ (J 0 67 = lN (g 0 5) ∧ g 0 5 < 2 ^ 31) ∧ EnU I sc ps g ∧ EnWo I
theorem EnU.kept {I I' : Ii} {sc g : Sx} {ps : Nat → Sx} (h : EnU I sc ps g) (h5 : I' 0 65 = I 0 65) (h6 : I' 0 66 = I 0 66) (h49 : I' 49 = I 49) : EnU I' sc ps g := by unfold EnU; rw [h5, h6, h49]; exact h
theorem EnM.ok {I : Ii} {J : Jj} {sc s g : Sx} {L : Nat → List Nat} {ps : Nat → Sx} (h : EnM I J sc L s ps g) : okS sc s := ⟨h.2.1.2.1, h.2.2.1.1, h.2.2.1.2⟩
theorem EnN.ext {R R' : Nat → Int32} {P : Nat} {s : Sx} (h : EnN R P s) (hP : P ≤ 8) (hr : ∀ k, k < 41 → R' k = R k) : EnN R' P s := by
  refine ⟨by rw [hr 0 (by omega)]; exact h.1, fun p hp => ?_⟩
  rw [hr _ (by omega), hr _ (by omega), hr _ (by omega), hr _ (by omega), hr _ (by omega)]
  exact h.2 p hp
/-- scratch may change, and what is now -/
def FrZ (I : Ii) (J : Jj) (I' : Ii) (J' : Jj) : Prop := (∀ a, a ≠ 0 → a ≠ 42 → a ≠ 43 → a ≠ 44 → a ≠ 45 → a ≠ 47 → a ≠ 48 → I' a = I a) ∧ (∀ k, k ≠ 52 → k ≠ 55 → k ≠ 58 → k ≠ 59 → k ≠ 100 → I' 0 k = I 0 k) ∧ ∀ a, a ≠ 77 → J' a = J a
theorem FrZ.refl (I : Ii) (J : Jj) : FrZ I J I J := ⟨fun _ _ _ _ _ _ _ _ => rfl, fun _ _ _ _ _ _ => rfl, fun _ _ => rfl⟩
theorem FrZ.trans {I I1 I2 : Ii} {J J1 J2 : Jj} (h1 : FrZ I J I1 J1) (h2 : FrZ I1 J1 I2 J2) : FrZ I J I2 J2 := ⟨fun a b c d e f g h => (h2.1 a b c d e f g h).trans (h1.1 a b c d e f g h), fun k b c d e f => (h2.2.1 k b c d e f).trans (h1.2.1 k b c d e f), fun a ha => (h2.2.2 a ha).trans (h1.2.2 a ha)⟩
theorem FrW.Z {I I' : Ii} {J J' : Jj} (h : FrW I J I' J') : FrZ I J I' J' := ⟨fun a b c _ e f _ _ => h.1 a b c e f, fun k b c _ e f => h.2.1 k b c e f, h.2.2⟩
theorem FrH.Z {I I' : Ii} {J J' : Jj} (h : FrH I J I' J') : FrZ I J I' J' := h.W.Z
theorem EnMC.Z {I I' : Ii} {J J' : Jj} {sc : Sx} {L : Nat → List Nat} (h : EnMC I J sc L) (hk : FrZ I J I' J') : EnMC I' J' sc L := h.kept (fun a ha => hk.1 a (by omega) (by omega) (by omega) (by omega) (by omega) (by omega) (by omega)) (hk.2.2 32 (by omega))
theorem EnMR.kept {I I' : Ii} {sc g : Sx} (h : EnMR I sc g) (h0 : I' 0 60 = I 0 60) (h46 : I' 46 = I 46) : EnMR I' sc g := by unfold EnMR; rw [h0, h46]; exact h
/-- another now -/
theorem EnM.now {I I' : Ii} {J J' : Jj} {sc s s' g : Sx} {L : Nat → List Nat} {ps : Nat → Sx} (h : EnM I J sc L s ps g) (hk : FrZ I J I' J') (hV : EnV I' sc s') (hK : EnK (I' 42) s') (h58 : I' 0 58 = 0) (ho : okS sc s') : EnM I' J' sc L s' ps g := by
  obtain ⟨h1, h2, h3, h4, h5, h6, h7, h8, h9, h10, h11, h12, h13⟩ := h
  have r : ∀ a, a ≠ 0 → a ≠ 42 → a ≠ 43 → a ≠ 44 → a ≠ 45 → a ≠ 47 → a ≠ 48 → I' a = I a := hk.1
  have r0 := hk.2.1
  refine ⟨h1.Z hk, hV, ⟨ho.2.1, ho.2.2⟩, hK, h58, ?_, ?_, ?_, fun k hk => ?_, ?_, ?_, ?_, fun a ha k hk => ?_⟩
  · unfold EnMT; rw [r0 1 (by omega) (by omega) (by omega) (by omega) (by omega), r 1 (by omega) (by omega) (by omega) (by omega) (by omega) (by omega) (by omega)]; exact h6
  · exact h7.kept (r0 60 (by omega) (by omega) (by omega) (by omega) (by omega)) (r 46 (by omega) (by omega) (by omega) (by omega) (by omega) (by omega) (by omega))
  · rw [r0 7 (by omega) (by omega) (by omega) (by omega) (by omega), r0 8 (by omega) (by omega) (by omega) (by omega) (by omega)]; exact h8
  · rw [r 2 (by omega) (by omega) (by omega) (by omega) (by omega) (by omega) (by omega)]; exact h9 k hk
  · unfold EnMI; rw [r0 104 (by omega) (by omega) (by omega) (by omega) (by omega), r 78 (by omega) (by omega) (by omega) (by omega) (by omega) (by omega) (by omega)]; exact h10
  · rw [hk.2.2 0 (by omega)]; exact h11
  · exact h12.kept (r0 65 (by omega) (by omega) (by omega) (by omega) (by omega)) (r0 66 (by omega) (by omega) (by omega) (by omega) (by omega)) (r 49 (by omega) (by omega) (by omega) (by omega) (by omega) (by omega) (by omega))
  · rw [r a (by omega) (by omega) (by omega) (by omega) (by omega) (by omega) (by omega)]; exact h13 a ha k hk
theorem EnM.H {I I' : Ii} {J J' : Jj} {sc s g : Sx} {L : Nat → List Nat} {ps : Nat → Sx} (h : EnM I J sc L s ps g) (hk : FrH I J I' J') : EnM I' J' sc L s ps g :=
  h.now hk.Z (h.2.1.H hk) (by rw [hk.1 42 (by omega)]; exact h.2.2.2.1) (by rw [hk.2.1 58 (by omega) (by omega) (by omega)]; exact h.2.2.2.2.1) h.ok
/-- while it thinks: I was so before -/
def Th (I : Ii) (J : Jj) (I1 : Ii) (J1 : Jj) : Prop := FrZ I J I1 J1 ∧ I1 0 58 = 1 ∧ (∀ k, k < 41 → I1 43 k = I 42 k) ∧ ∀ k, 41 ≤ k → I1 42 k = I 42 k
theorem Th.W {I I1 I2 : Ii} {J J1 J2 : Jj} {s : Sx} (h : Th I J I1 J1) (hk : FrW I1 J1 I2 J2) (hK : Kp true (I 42) (I2 42) s) : Th I J I2 J2 :=
  ⟨h.1.trans hk.Z, by rw [hk.2.1 58 (by omega) (by omega) (by omega) (by omega)]; exact h.2.1, fun k hk' => by rw [hk.1 43 (by omega) (by omega) (by omega) (by omega)]; exact h.2.2.1 k hk', hK⟩
theorem Th.H {I I1 I2 : Ii} {J J1 J2 : Jj} (h : Th I J I1 J1) (hk : FrH I1 J1 I2 J2) : Th I J I2 J2 := h.W (s := fun _ _ => 0) hk.W (fun k hk' => by rw [hk.1 42 (by omega)]; exact h.2.2.2 k hk')
/-- the row of now, below what is kept -/
theorem Th.V {I I1 I2 : Ii} {J J1 : Jj} (h : Th I J I1 J1) (hk : FrV I1 I2) (h41 : ∀ k, 41 ≤ k → I2 42 k = I1 42 k) : Th I J I2 J1 := h.W (s := fun _ _ => 0) hk.W (fun k hk' => (h41 k hk').trans (h.2.2.2 k hk'))
theorem Th.O {I I1 I2 : Ii} {J J1 : Jj} (h : Th I J I1 J1) (hk : ∀ a, a ≠ 47 → a ≠ 48 → I2 a = I1 a) : Th I J I2 J1 :=
  ⟨h.1.trans ⟨fun a _ _ _ _ _ y z => hk a y z, fun k _ _ _ _ _ => by rw [hk 0 (by omega) (by omega)], fun _ _ => rfl⟩, by rw [hk 0 (by omega) (by omega)]; exact h.2.1, by rw [hk 43 (by omega) (by omega)]; exact h.2.2.1, by rw [hk 42 (by omega) (by omega)]; exact h.2.2.2⟩
theorem Th.K {I I1 : Ii} {J J1 : Jj} (h : Th I J I1 J1) (s : Sx) : Kp true (I 42) (I1 42) s := h.2.2.2
section MB
variable {d : Nat} {I : Ii} {J : Jj} {sc s g : Sx} {L : Nat → List Nat} {ps : Nat → Sx} {p f : Nat}
theorem m_isIn {x a b : Int64} {K : KI} (h : K (b01 (decide (a.toInt ≤ x.toInt ∧ x.toInt ≤ b.toInt))) I J) : CalI wM d mX13_isIn [.long x, .long a, .long b] I J K := by
  refine Cal.of (by decide) (Nat.le_of_ble_eq_true rfl) (bX13_isIn_0 ?_)
  rw [lgc_lt, lgc_gt, Int64.lt_iff_toInt_lt, Int64.lt_iff_toInt_lt]
  refine ⟨fun q => ?_, fun q => ⟨fun q2 => ?_, fun q2 => ?_⟩⟩
  · rw [decide_eq_false (by omega)] at h; exact h
  · rw [decide_eq_false (by omega)] at h; exact h
  · rw [decide_eq_true (by omega)] at h; exact h
theorem m_isInN {v : Int32} {n : Nat} {K : KI} (hn : n < 2 ^ 30) (h : K (b01 (isin v n)) I J) : CalI wM d mX13_isIn [.long v.toInt64, .long 0, .long ((nI n - 1).toInt64)] I J K := by
  refine m_isIn ?_
  have e : (nI n - 1).toInt = (n : Int) - 1 := by rw [show (1 : Int32) = nI 1 from rfl, pk_sub_toInt hn (by omega)]; rfl
  rw [Jvm.Kit.i64_of_i32, Jvm.Kit.i64_of_i32, e, show ((0 : Int64)).toInt = 0 by decide]
  have e2 : isin v n = decide (0 ≤ v.toInt ∧ v.toInt ≤ (n : Int) - 1) := by unfold isin; congr 1; apply propext; omega
  rw [← e2]
  exact h
theorem m_isInC {v : Int32} {n : Nat} {K : KI} (hn : n < 2 ^ 30) (h : K (b01 (isin v (n + 1))) I J) : CalI wM d mX13_isIn [.long v.toInt64, .long 0, .long (lN n)] I J K := by
  refine m_isIn ?_
  rw [Jvm.Kit.i64_of_i32, lN_toInt (by omega), show ((0 : Int64)).toInt = 0 by decide]
  have e2 : isin v (n + 1) = decide (0 ≤ v.toInt ∧ v.toInt ≤ (n : Int)) := by unfold isin; congr 1; apply propext; omega
  rw [← e2]
  exact h
theorem m_isFact {v : Int32} {K : KI} (hC : EnMC I J sc L) (h : K (b01 (isin v (sc 0 0))) I J) : CalI wM (d + 1) mX13_isFact [.ref 0, .int v] I J K :=
  Cal.of (by decide) (Nat.le_of_ble_eq_true rfl) (bX13_isFact_0 (m_fm hC (m_isInN (by have := hC.1.2; omega) ⟨by cases isin v (sc 0 0) <;> simp [b01], h⟩)))
theorem m_isPerson {v : Int32} {K : KI} (hC : EnMC I J sc L) (h : K (b01 (isin v (sc 0 1))) I J) : CalI wM (d + 1) mX13_isPerson [.ref 0, .int v] I J K :=
  Cal.of (by decide) (Nat.le_of_ble_eq_true rfl) (bX13_isPerson_0 (m_pm hC (m_isInN (by have := hC.2.1.2; omega) ⟨by cases isin v (sc 0 1) <;> simp [b01], h⟩)))
theorem isin_2 (w : Int32) : isin w 2 = decide (w = 0 ∨ w = 1) := by
  unfold isin
  congr 1
  apply propext
  rw [← Int32.toInt_inj, ← Int32.toInt_inj, t_0, t_1]
  omega
theorem m_isAhead {v : Int32} {m : Nat} {K : KI} (hV : EnV I sc s) (hy : s 4 0 ≤ 999) (hm : m < 1000) (h : K (b01 (rch s m v)) I J) : CalI wM (d + 1) mX13_isAhead [.ref 0, .int v, .int 0, .int (nI m)] I J K := by
  refine Cal.of (by decide) (Nat.le_of_ble_eq_true rfl) (bX13_isAhead_0 ?_)
  rw [nI_l (by omega), show (0 : Int32).toInt64 = 0 by decide]
  refine m_isInC (by omega) ?_
  unfold rch at h
  by_cases e : isin v (m + 1) = true
  · obtain ⟨ev, hl⟩ := isin_t e
    rw [e] at h ⊢
    refine ⟨fun q => absurd q (by decide), fun _ => ?_⟩
    rw [c0, hV.1.1]
    have e2 : nI (s 4 0) + v = nI (s 4 0 + idx v) := by rw [ev, nI_add]; congr 2; rw [← ev]
    rw [e2]
    refine ⟨fun q => ?_, fun q => ?_⟩
    · have := (nI_ltI (a := 999) (by decide) (by omega)).mp q
      rw [decide_eq_false (by omega)] at h
      exact h
    · have : ¬ 999 < s 4 0 + idx v := fun z => q (nI_lt (a := 999) z (by omega))
      rw [decide_eq_true (by omega)] at h
      exact h
  · have e' : isin v (m + 1) = false := by simpa using e
    rw [e'] at h ⊢
    exact ⟨fun _ => h, fun q => absurd rfl q⟩
/-- of all, who: i 1 passed, i 2 doctors -/
theorem m_thoseWho {i : Nat} {K : KI} (hC : EnMC I J sc L) (hV : EnV I sc s) (hi : i = 1 ∨ i = 2) (h : K (nI (s 4 i)) I J) : CalI wM (d + 1) mX13_thoseWho [.ref 0, .int (nI i)] I J K := by
  have hP := hV.2.2.1
  have h8 := p2_8 hP
  have h41 := hV.2.1.2.1
  have h42 := hV.2.1.2.2.1
  refine Cal.of (by decide) (Nat.le_of_ble_eq_true rfl) (bX13_thoseWho_0 ?_)
  have key : ∀ n k, k + n = sc 0 1 → GoI wM (d + 1) mX13_thoseWho 4 [(0, .ref 0), (1, .int (nI i)), (2, .int (nI (msk (fun j => decide (bq (s 4 i) j = 1)) k))), (3, .int (nI k))] [] I J K := by
    intro n
    induction n with
    | zero =>
      intro k hk
      obtain rfl : k = sc 0 1 := by omega
      refine bX13_thoseWho_4 (m_pm hC ⟨fun _ => ?_, fun q => absurd (nI_le (Nat.le_refl _) (by omega)) q⟩)
      have hl : s 4 i < 2 ^ sc 0 1 := by rcases hi with rfl | rfl <;> assumption
      have e : msk (fun j => decide (bq (s 4 i) j = 1)) (sc 0 1) = s 4 i := by
        have hm := msk_lt (fun j => decide (bq (s 4 i) j = 1)) (sc 0 1)
        refine b8_ext (by omega) (by omega) (fun j hj => ?_)
        by_cases z : j < sc 0 1
        · rw [msk_bq _ _ j z]; rcases bq01 (s 4 i) j with e | e <;> simp [e]
        · have hp : 2 ^ sc 0 1 ≤ 2 ^ j := Nat.pow_le_pow_right (by omega) (by omega)
          rw [bq_lo (by omega), bq_lo (by omega)]
      rw [e]
      exact h
    | succ n ih =>
      intro k hk
      refine bX13_thoseWho_4 (m_pm hC ⟨fun q => absurd ((nI_leI (by omega) (by omega)).mp q) (by omega), fun _ => ?_⟩)
      rw [ixP, nI_4, nI_clamp (by omega), show 1 + 5 * k + 4 = 5 + 5 * k by omega, (hV.1.2 k (by omega)).2.2.2.2, nI_1]
      have hb : ∀ b, bq (s 4 i) k = b → (nI (bq (s 4 1) k + 2 * bq (s 4 2) k) &&& nI i = 0 ↔ b = 0) := fun b eb => by
        rcases hi with rfl | rfl
        · rw [show nI 1 = 1 from rfl, (k2_fl _ (bq2 _ _) _ (bq2 _ _)).1, ← eb]
          rcases bq01 (s 4 1) k with e | e <;> rw [e] <;> decide
        · rw [show nI 2 = 2 from rfl, (k2_fl _ (bq2 _ _) _ (bq2 _ _)).2.1, ← eb]
          rcases bq01 (s 4 2) k with e | e <;> rw [e] <;> decide
      rw [hb _ rfl]
      refine ⟨vp_in_nI (by omega) (by omega), fun q => ?_, fun q => ?_⟩
      · rw [msk_no _ (by simp [q])]
        exact ih (k + 1) (by omega)
      · rw [msk_or _ (by omega) (by have := bq01 (s 4 i) k; simp; omega)]
        exact ih (k + 1) (by omega)
  exact key (sc 0 1) 0 (by omega)
theorem cnt_P (s : Sx) (i P : Nat) (h : ∀ k, P ≤ k → k < 8 → s i k = 0) : ∀ n, P + n ≤ 8 → cnt s i (P + n) = cnt s i P
  | 0, _ => rfl
  | n + 1, hn => by
    show cnt s i (P + n) + pc8 (s i (P + n)) = _
    rw [h (P + n) (by omega) (by omega), cnt_P s i P h n (by omega)]
    rfl
theorem cnt_8 {i : Nat} (hV : EnV I sc s) (hi : i = 1 ∨ i = 2) : cnt s i (sc 0 1) = cnt s i 8 := by
  have hP := hV.2.2.1
  have := cnt_P s i (sc 0 1) (fun k h1 h2 => by
    have := ((hV.2.1.1 k h2).2.2.2.2.2 h1)
    rcases hi with rfl | rfl
    · exact this.2.1
    · exact this.2.2) (8 - sc 0 1) (by omega)
  rw [← this, show sc 0 1 + (8 - sc 0 1) = 8 by omega]
theorem m_beliefs {i : Nat} {v : Int32} {K : KI} (hC : EnMC I J sc L) (hV : EnV I sc s) (hi : (i = 2 ∧ v = 0) ∨ (i = 1 ∧ v = 1)) (h : K (nI (cnt s i 8)) I J) : CalI wM (d + 1) mX13_beliefs [.ref 0, .int v] I J K := by
  have hP := hV.2.2.1
  rw [← cnt_8 hV (by omega)] at h
  refine Cal.of (by decide) (Nat.le_of_ble_eq_true rfl) (bX13_beliefs_0 ?_)
  have key : ∀ n k, k + n = sc 0 1 → GoI wM (d + 1) mX13_beliefs 4 [(0, .ref 0), (1, .int v), (2, .int (nI (cnt s i k))), (3, .int (nI k))] [] I J K := by
    intro n
    induction n with
    | zero =>
      intro k hk
      obtain rfl : k = sc 0 1 := by omega
      exact bX13_beliefs_4 (m_pm hC ⟨fun _ => h, fun q => absurd (nI_le (Nat.le_refl _) (by omega)) q⟩)
    | succ n ih =>
      intro k hk
      have hb := hV.b (p := k) (by omega)
      refine bX13_beliefs_4 (m_pm hC ⟨fun q => absurd ((nI_leI (by omega) (by omega)).mp q) (by omega), fun _ => ?_⟩)
      rcases hi with ⟨rfl, rfl⟩ | ⟨rfl, rfl⟩
      · refine ⟨fun _ => m_wrongOf hV (by omega) (m_bits hb.2.2.1 ?_), fun q => absurd rfl q⟩
        rw [nI_add, nI_1]
        exact ih (k + 1) (by omega)
      · refine ⟨fun q => absurd q (by decide), fun _ => m_rightOf hV (by omega) (m_bits hb.2.1 ?_)⟩
        rw [nI_add, nI_1]
        exact ih (k + 1) (by omega)
  exact key (sc 0 1) 0 (by omega)
theorem m_putsAside {K : KV} (h : ∀ I', Th I J I' J → (∀ k, I' 42 k = I 42 k) → K I' J) : CalV wM d mX13_putsAside [.ref 0] I J K := by
  refine Cal.of (by decide) (Nat.le_of_ble_eq_true rfl) (bX13_putsAside_0 ?_)
  have key : ∀ n k I1, k + n = 41 → (∀ a, a ≠ 43 → I1 a = u2 I 0 58 1 a) → (∀ j, j < k → I1 43 j = I 42 j) → GoV wM d mX13_putsAside 7 [(0, .ref 0), (1, .int (nI k))] [] I1 J K := by
    intro n
    induction n with
    | zero =>
      intro k I1 hk hr hj
      obtain rfl : k = 41 := by omega
      refine bX13_putsAside_7 ⟨fun _ => h I1 ⟨⟨fun a z0 z1 z2 _ _ _ _ => ?_, fun k _ _ z _ _ => ?_, fun _ _ => rfl⟩, ?_, hj, fun k _ => ?_⟩ (fun k => ?_), fun q => absurd (by decide) q⟩
      · rw [hr a z2, u2_row z0]
      · rw [hr 0 (by omega), u2_k z]
      · rw [hr 0 (by omega), u2_at]
      · rw [hr 42 (by omega), u2_row (by omega)]
      · rw [hr 42 (by omega), u2_row (by omega)]
    | succ n ih =>
      intro k I1 hk hr hj
      refine bX13_putsAside_7 ⟨fun q => absurd ((nI_leI (a := 41) (by decide) (by omega)).mp q) (by omega), fun _ => ⟨vp_in_nI (by omega) (by omega), vp_in_nI (by omega) (by omega), ?_⟩⟩
      rw [nI_clamp (by omega), nI_1]
      refine ih (k + 1) _ (by omega) (fun a ha => by rw [u2_row ha]; exact hr a ha) (fun j hj' => ?_)
      by_cases z : j = k
      · rw [z, u2_at, hr 42 (by omega), u2_row (by omega)]
      · rw [u2_k z]; exact hj j (by omega)
  exact key 41 0 _ (by omega) (fun _ _ => rfl) (fun j hj => absurd hj (by omega))
theorem m_triesAnew {I1 : Ii} {J1 : Jj} {K : KV} (hT : Th I J I1 J1) (h : ∀ I', Th I J I' J1 → (∀ k, k < 41 → I' 42 k = I 42 k) → (∀ a, a ≠ 42 → I' a = I1 a) → K I' J1) : CalV wM d mX13_triesAnew [.ref 0] I1 J1 K := by
  refine Cal.of (by decide) (Nat.le_of_ble_eq_true rfl) (bX13_triesAnew_0 ?_)
  have key : ∀ n k I2, k + n = 41 → (∀ a, a ≠ 42 → I2 a = I1 a) → (∀ j, j < k → I2 42 j = I 42 j) → (∀ j, 41 ≤ j → I2 42 j = I1 42 j) → GoV wM d mX13_triesAnew 2 [(0, .ref 0), (1, .int (nI k))] [] I2 J1 K := by
    intro n
    induction n with
    | zero =>
      intro k I2 hk hr hj h41
      obtain rfl : k = 41 := by omega
      exact bX13_triesAnew_2 ⟨fun _ => h I2 (hT.V hr h41) hj hr, fun q => absurd (by decide) q⟩
    | succ n ih =>
      intro k I2 hk hr hj h41
      refine bX13_triesAnew_2 ⟨fun q => absurd ((nI_leI (a := 41) (by decide) (by omega)).mp q) (by omega), fun _ => ⟨vp_in_nI (by omega) (by omega), vp_in_nI (by omega) (by omega), ?_⟩⟩
      rw [nI_clamp (by omega), nI_1]
      refine ih (k + 1) _ (by omega) (fun a ha => by rw [u2_row ha]; exact hr a ha) (fun j hj' => ?_) (fun j hj' => by rw [u2_k (by omega)]; exact h41 j hj')
      by_cases z : j = k
      · rw [z, u2_at, hr 43 (by omega)]; exact hT.2.2.1 k (by omega)
      · rw [u2_k z]; exact hj j (by omega)
  exact key 41 0 _ (by omega) (fun _ _ => rfl) (fun j hj => absurd hj (by omega)) (fun _ _ => rfl)
theorem EnM.back {I1 : Ii} {J1 : Jj} (hM : EnM I J sc L s ps g) (hT : Th I J I1 J1) (h4 : ∀ k, k < 41 → I1 42 k = I 42 k) : EnV I1 sc s := ⟨hM.2.1.1.ext hM.2.1.2.2.1 h4, hM.2.1.2⟩
theorem m_takesBack {I1 : Ii} {J1 : Jj} {K : KV} (hM : EnM I J sc L s ps g) (hT : Th I J I1 J1) (h : ∀ I', EnM I' J1 sc L s ps g → K I' J1) : CalV wM (d + 1) mX13_takesBack [.ref 0] I1 J1 K := by
  refine Cal.of (by decide) (Nat.le_of_ble_eq_true rfl) (bX13_takesBack_0 (m_triesAnew hT (fun I2 hT2 h2 _ => h _ ?_)))
  refine hM.now (hT2.1.trans ⟨fun a z _ _ _ _ _ _ => u2_row z, fun k _ _ z _ _ => u2_k z, fun _ _ => rfl⟩) ((hM.back hT2 h2).row (u2_row (by omega))) ?_ (u2_at _ _ _ _) hM.ok
  rw [u2_row (by omega)]
  exact hM.2.2.2.1.cong hT2.2.2.2 rfl rfl
end MB

/-! the reference: lessons, what is made of them, what is kept -/
theorem EnL.m1 {I : Ii} {w : Nat} {cs : List Nat} (h : EnL I w cs) : I 39 (3 + w) = -1 ↔ cs = [] := by
  rcases h with ⟨e, e1⟩ | ⟨e, fr, e1, -, e2, -⟩
  · exact ⟨fun _ => e, fun _ => e1⟩
  · refine ⟨fun q => ?_, fun q => absurd q e⟩
    rw [e1] at q
    exact absurd q (nI_ne_m1 (by omega))
theorem opn_bel {s : Sx} {p m f : Nat} (hf : f < 8) (h1 : s 1 p < 256) (h2 : s 2 p < 256) (hx : ¬ (bq (s 1 p) f = 1 ∧ bq (s 2 p) f = 1)) : bq (opn s p m) f = 1 ↔ ¬ (bel s m f = 0 ∨ bel s p f = 1 ∨ (bel s p f = 2 ∧ bel s m f = 2)) := by
  unfold opn bel
  rw [bq_or, bq_and, bq_or, bq_not8 _ (or_lt8 h1 h2) f hf, bq_or, bq_and]
  rcases bq01 (s 1 p) f with e1 | e1 <;> rcases bq01 (s 2 p) f with e2 | e2 <;> rcases bq01 (s 1 m) f with e3 | e3 <;> rcases bq01 (s 2 m) f with e4 | e4 <;> simp [e1, e2, e3, e4] at hx ⊢
theorem EnN.upd {I : Ii} {P : Nat} {s : Sx} (h : EnN (I 42) P s) (i p v : Nat) (hi : i < 4) : EnN (u2 I 42 (1 + i + 5 * p) (if i = 0 then mI v else nI v) 42) P (up s i p v) := by
  have e4 : ∀ k, up s i p v 4 k = s 4 k := fun k => by simp only [up, show ¬ 4 = i by omega, false_and, if_false]
  refine ⟨by rw [u2_k (by omega), e4]; exact h.1, fun q hq => ?_⟩
  obtain ⟨h1, h2, h3, h4, h5⟩ := h.2 q hq
  have f0 : (True ∧ 1 + 5 * q = 1 + i + 5 * p) ↔ (0 = i ∧ q = p) := by rw [true_and]; omega
  have f1 : (True ∧ 2 + 5 * q = 1 + i + 5 * p) ↔ (1 = i ∧ q = p) := by rw [true_and]; omega
  have f2 : (True ∧ 3 + 5 * q = 1 + i + 5 * p) ↔ (2 = i ∧ q = p) := by rw [true_and]; omega
  have f3 : (True ∧ 4 + 5 * q = 1 + i + 5 * p) ↔ (3 = i ∧ q = p) := by rw [true_and]; omega
  refine ⟨?_, ?_, ?_, ?_, by rw [u2_k (by omega), e4, e4]; exact h5⟩
  · simp only [u2, up, f0]
    by_cases z : 0 = i ∧ q = p
    · rw [if_pos z, if_pos z, if_pos z.1.symm]
    · rw [if_neg z, if_neg z]; exact h1
  · simp only [u2, up, f1]
    by_cases z : 1 = i ∧ q = p
    · rw [if_pos z, if_pos z, if_neg (by omega)]
    · rw [if_neg z, if_neg z]; exact h2
  · simp only [u2, up, f2]
    by_cases z : 2 = i ∧ q = p
    · rw [if_pos z, if_pos z, if_neg (by omega)]
    · rw [if_neg z, if_neg z]; exact h3
  · simp only [u2, up, f3]
    by_cases z : 3 = i ∧ q = p
    · rw [if_pos z, if_pos z, if_neg (by omega)]
    · rw [if_neg z, if_neg z]; exact h4
theorem EnN.pas {I : Ii} {P : Nat} {s : Sx} (h : EnN (I 42) P s) (hP : P ≤ 8) (p : Nat) (hp : p < 8) (h1 : s 4 1 < 256) : EnN (u2 I 42 (5 + 5 * p) (nI (1 + 2 * bq (s 4 2) p)) 42) P (up s 4 1 (bs (s 4 1) p)) := by
  refine ⟨by rw [u2_k (by omega)]; simpa [up] using h.1, fun q hq => ?_⟩
  obtain ⟨g1, g2, g3, g4, g5⟩ := h.2 q hq
  refine ⟨by rw [u2_k (by omega)]; simpa [up] using g1, by rw [u2_k (by omega)]; simpa [up] using g2, by rw [u2_k (by omega)]; simpa [up] using g3, by rw [u2_k (by omega)]; simpa [up] using g4, ?_⟩
  have hb := (k8_bsq _ h1 p hp q (by omega)).1
  have e1 : up s 4 1 (bs (s 4 1) p) 4 1 = bs (s 4 1) p := by simp [up]
  have e2 : up s 4 1 (bs (s 4 1) p) 4 2 = s 4 2 := by simp [up]
  rw [e1, e2, hb]
  by_cases z : q = p
  · subst z; rw [u2_at, if_pos rfl]
  · rw [u2_k (by omega), if_neg z]; exact g5
theorem EnN.doc {I : Ii} {P : Nat} {s : Sx} (h : EnN (I 42) P s) (hP : P ≤ 8) (p : Nat) (hp : p < 8) (h1 : s 4 2 < 256) : EnN (u2 I 42 (5 + 5 * p) (nI (bq (s 4 1) p + 2)) 42) P (up s 4 2 (bs (s 4 2) p)) := by
  refine ⟨by rw [u2_k (by omega)]; simpa [up] using h.1, fun q hq => ?_⟩
  obtain ⟨g1, g2, g3, g4, g5⟩ := h.2 q hq
  refine ⟨by rw [u2_k (by omega)]; simpa [up] using g1, by rw [u2_k (by omega)]; simpa [up] using g2, by rw [u2_k (by omega)]; simpa [up] using g3, by rw [u2_k (by omega)]; simpa [up] using g4, ?_⟩
  have hb := (k8_bsq _ h1 p hp q (by omega)).1
  have e1 : up s 4 2 (bs (s 4 2) p) 4 1 = s 4 1 := by simp [up]
  have e2 : up s 4 2 (bs (s 4 2) p) 4 2 = bs (s 4 2) p := by simp [up]
  rw [e1, e2, hb]
  by_cases z : q = p
  · subst z; rw [u2_at, if_pos rfl]
  · rw [u2_k (by omega), if_neg z]; exact g5
theorem EnN.kep {R : Nat → Int32} {P : Nat} {s : Sx} (h : EnN R P s) (p b : Nat) : EnN R P (kep s p b) := by
  unfold EnN
  rw [kep_0 s p b 0 (by omega), kep_0 s p b 1 (by omega), kep_0 s p b 2 (by omega), kep_0 s p b 3 (by omega), kep_4 s p b 0 (by omega), kep_4 s p b 1 (by omega), kep_4 s p b 2 (by omega)]
  exact h
/-- kept, or only thought -/
def Kp (th : Bool) (R0 R : Nat → Int32) (s : Sx) : Prop := if th then ∀ k, 41 ≤ k → R k = R0 k else EnK R s
theorem EnK.cong {R R' : Nat → Int32} {s s' : Sx} (h : EnK R s) (hr : ∀ k, 41 ≤ k → R' k = R k) (h3 : s' 4 3 = s 4 3) (h5 : s' 5 = s 5) : EnK R' s' := by
  unfold EnK
  rw [h3, h5, hr 41 (by omega)]
  refine ⟨h.1, fun k hk => ?_⟩
  rw [hr _ (by omega), hr _ (by omega), hr _ (by omega)]
  exact h.2 k hk
theorem Kp.cong {th : Bool} {R0 R R' : Nat → Int32} {s s' : Sx} (h : Kp th R0 R s) (hr : ∀ k, 41 ≤ k → R' k = R k) (h3 : s' 4 3 = s 4 3) (h5 : s' 5 = s 5) : Kp th R0 R' s' := by
  cases th
  · exact EnK.cong h hr h3 h5
  · exact fun k hk => (hr k hk).trans (h k hk)
/-- what a year may change -/
def FrW (I : Ii) (J : Jj) (I' : Ii) (J' : Jj) : Prop := (∀ a, a ≠ 0 → a ≠ 42 → a ≠ 44 → a ≠ 45 → I' a = I a) ∧ (∀ k, k ≠ 52 → k ≠ 55 → k ≠ 59 → k ≠ 100 → I' 0 k = I 0 k) ∧ ∀ a, a ≠ 77 → J' a = J a
theorem FrW.refl (I : Ii) (J : Jj) : FrW I J I J := ⟨fun _ _ _ _ _ => rfl, fun _ _ _ _ _ => rfl, fun _ _ => rfl⟩
theorem FrW.trans {I I1 I2 : Ii} {J J1 J2 : Jj} (h1 : FrW I J I1 J1) (h2 : FrW I1 J1 I2 J2) : FrW I J I2 J2 := ⟨fun a x y z w => (h2.1 a x y z w).trans (h1.1 a x y z w), fun k x y z w => (h2.2.1 k x y z w).trans (h1.2.1 k x y z w), fun a ha => (h2.2.2 a ha).trans (h1.2.2 a ha)⟩
theorem FrH.W {I I' : Ii} {J J' : Jj} (h : FrH I J I' J') : FrW I J I' J' := ⟨fun a x _ _ _ => h.1 a x, fun k x y _ w => h.2.1 k x y w, h.2.2⟩
theorem EnMC.W {I I' : Ii} {J J' : Jj} {sc : Sx} {L : Nat → List Nat} (h : EnMC I J sc L) (hk : FrW I J I' J') : EnMC I' J' sc L := h.kept (fun a ha => hk.1 a (by omega) (by omega) (by omega) (by omega)) (hk.2.2 32 (by omega))
/-- only the row of now changes -/
def FrV (I I' : Ii) : Prop := ∀ a, a ≠ 42 → I' a = I a
theorem FrV.W {I I' : Ii} {J : Jj} (h : FrV I I') : FrW I J I' J := ⟨fun a _ y _ _ => h a y, fun k _ _ _ _ => by rw [h 0 (by omega)], fun _ _ => rfl⟩
section MB
variable {d : Nat} {I : Ii} {J : Jj} {sc s : Sx} {L : Nat → List Nat} {p f : Nat} {th : Bool} {R0 : Nat → Int32}
theorem m_taughtNext {K : KI} (hC : EnMC I J sc L) (hV : EnV I sc s) (hp : p < sc 0 1) (h : ∀ I' J', FrH I J I' J' → K (mI (lsn sc L s p)) I' J') : CalI wM (d + 4) mX13_taughtNext [.ref 0, .int (nI p)] I J K := by
  have hP := hV.2.2.1
  have hF := hV.2.2.2.1
  have hb := hV.b (p := p) (by omega)
  have hw := hV.2.1.1 p (by omega)
  refine Cal.of (by decide) (Nat.le_of_ble_eq_true rfl) (bX13_taughtNext_0 (m_masterOf hV hp ⟨fun q => ?_, fun q => ?_⟩))
  case refine_2 =>
    rw [mI_m1 hb.1] at q
    have := h I J (FrH.refl I J)
    rw [lsn, if_pos q] at this
    exact this
  rw [mI_m1 hb.1] at q
  rw [lsn, if_neg q] at h
  obtain ⟨m, em⟩ : ∃ m, s 0 p = m + 1 := ⟨s 0 p - 1, by omega⟩
  have hm : m < sc 0 1 := by omega
  have key : ∀ n k I1 J1, k + n = sc 0 0 → FrH I J I1 J1 → (∀ I' J', FrH I J I' J' → K (mI (lsf (lsq sc L s p) n k)) I' J') → GoI wM (d + 3 + 1) mX13_taughtNext 15 [(0, .ref 0), (1, .int (nI p)), (2, .int (nI m)), (3, .int (nI k))] [] I1 J1 K := by
    intro n
    induction n with
    | zero =>
      intro k I1 J1 hk hfr hK
      refine bX13_taughtNext_15 (m_fm (hC.H hfr) ⟨fun _ => hK I1 J1 hfr, fun q => absurd (nI_le (by omega) (by omega)) q⟩)
    | succ n ih =>
      intro k I1 J1 hk hfr hK
      have hV1 := hV.H hfr
      have hC1 := hC.H hfr
      have hop := opn_bel (s := s) (p := p) (m := m) (f := k) (by omega) hb.2.1 hb.2.2.1 (hw.2.2.2.1 k (by omega))
      have no : (bel s m k = 0 ∨ bel s p k = 1 ∨ (bel s p k = 2 ∧ bel s m k = 2)) → ∀ I' J', FrH I J I' J' → GoI wM (d + 3 + 1) mX13_taughtNext 15 [(0, .ref 0), (1, .int (nI p)), (2, .int (nI m)), (3, .int (nI k + 1))] [] I' J' K := fun z I' J' hf' => by
        rw [nI_1]
        refine ih (k + 1) I' J' (by omega) hf' ?_
        have e : lsq sc L s p k = false := by
          unfold lsq
          rw [em, Nat.add_sub_cancel]
          have : ¬ bq (opn s p m) k = 1 := fun y => (hop.mp y) z
          simp [this]
        simp only [lsf, e] at hK
        simpa using hK
      have yes : ¬ (bel s m k = 0 ∨ bel s p k = 1 ∨ (bel s p k = 2 ∧ bel s m k = 2)) → (((I1 39 (3 : Int32).toNatClampNeg = -1) → K (nI k) I1 J1) ∧ ((¬ I1 39 (3 : Int32).toNatClampNeg = -1) → CalI wM (d + 3) mX13_holds [.ref 0, .int 0, .int (nI p), .int (nI k)] I1 J1 (fun x18 I16 J17 => (((x18 = 0) → (GoI wM (d + 3 + 1) mX13_taughtNext 15 [(0, .ref 0), (1, .int (nI p)), (2, .int (nI m)), (3, .int (nI k + 1))] [] I16 J17 K)) ∧ ((¬ x18 = 0) → (K (nI k) I16 J17)))))) := fun z => by
        have eo : bq (opn s p m) k = 1 := hop.mpr z
        rw [c3, (hC1.2.2.2.2.2.2.2.1 0 (by omega)).m1]
        refine ⟨fun y => ?_, fun y => ?_⟩
        · have e : lsq sc L s p k = true := by unfold lsq; rw [em, Nat.add_sub_cancel]; simp [eo, y]
          have := hK I1 J1 hfr
          simp only [lsf, e, if_true, mI_s] at this
          exact this
        · refine m_holds (w := 0) (d := d) hC1 hV1 (by omega) y hp (fun _ => q) (fun _ => by omega) (fun I2 J2 f2 => ⟨fun y2 => ?_, fun y2 => ?_⟩)
          · rw [b01_0] at y2
            have e : lsq sc L s p k = false := by unfold lsq; simp [y, y2]
            rw [nI_1]
            refine ih (k + 1) I2 J2 (by omega) (hfr.trans f2) ?_
            simp only [lsf, e] at hK
            simpa using hK
          · rw [b01_n] at y2
            have e : lsq sc L s p k = true := by unfold lsq; rw [em, Nat.add_sub_cancel]; simp [eo, y2]
            have := hK I2 J2 (hfr.trans f2)
            simp only [lsf, e, if_true, mI_s] at this
            exact this
      refine bX13_taughtNext_15 (m_fm hC1 ⟨fun q => absurd ((nI_leI (by omega) (by omega)).mp q) (by omega), fun _ => m_isOf (d := d + 2) hV1 hp (by omega) (m_isOf (d := d + 2) hV1 hm (by omega) ?_)⟩)
      rcases bel3 s m k with e1 | e1 | e1 <;> rcases bel3 s p k with e2 | e2 | e2 <;> rw [e1, e2] <;> rw [e1, e2] at no yes
      · exact ⟨fun _ => no (by simp) I1 J1 hfr, fun y => absurd rfl y⟩
      · exact ⟨fun _ => no (by simp) I1 J1 hfr, fun y => absurd rfl y⟩
      · exact ⟨fun _ => no (by simp) I1 J1 hfr, fun y => absurd rfl y⟩
      · exact ⟨fun y => absurd y (by decide), fun _ => ⟨fun y => absurd y (by decide), fun _ => ⟨fun _ => yes (by simp), fun y => absurd y (by decide)⟩⟩⟩
      · exact ⟨fun y => absurd y (by decide), fun _ => ⟨fun _ => no (by simp) I1 J1 hfr, fun y => absurd rfl y⟩⟩
      · exact ⟨fun y => absurd y (by decide), fun _ => ⟨fun y => absurd y (by decide), fun _ => ⟨fun y => absurd rfl y, fun _ => ⟨fun _ => yes (by simp), fun y => absurd y (by decide)⟩⟩⟩⟩
      · exact ⟨fun y => absurd y (by decide), fun _ => ⟨fun y => absurd y (by decide), fun _ => ⟨fun _ => yes (by simp), fun y => absurd y (by decide)⟩⟩⟩
      · exact ⟨fun y => absurd y (by decide), fun _ => ⟨fun _ => no (by simp) I1 J1 hfr, fun y => absurd rfl y⟩⟩
      · exact ⟨fun y => absurd y (by decide), fun _ => ⟨fun y => absurd y (by decide), fun _ => ⟨fun y => absurd rfl y, fun _ => ⟨fun y => absurd rfl y, fun _ => no (by simp) I1 J1 hfr⟩⟩⟩⟩
  rw [em, mI_s]
  exact key (sc 0 0) 0 I J (by omega) (FrH.refl I J) h
theorem m_makes {b : Nat} {K : KV} (hV : EnV I sc s) (hp : p < sc 0 1) (hf : f < sc 0 0) (hb : b = 1 ∨ b = 2) (h : ∀ I', EnV I' sc (blv s p f b) → FrV I I' → (∀ k, 41 ≤ k → I' 42 k = I 42 k) → K I' J) : CalV wM d mX13_makes [.ref 0, .int (nI p), .int (nI f), .int (nI b)] I J K := by
  have hP := hV.2.2.1
  have hF := hV.2.2.2.1
  have hbb := hV.b (p := p) (by omega)
  have hn := hV.1.2 p hp
  have z1 := (k8_bsl _ hbb.2.1 f (by omega)).2
  have z2 := (k8_bsl _ hbb.2.2.1 f (by omega)).2
  refine Cal.of (by decide) (Nat.le_of_ble_eq_true rfl) (bX13_makes_0 ?_)
  rw [ixP, nI_1, nI_1, nI_clamp (by omega), nI_clamp (by omega), show 1 + 5 * p + 1 = 1 + 1 + 5 * p by omega, show 1 + 1 + 5 * p + 1 = 1 + 2 + 5 * p by omega]
  refine ⟨vp_in_nI (by omega) (by omega), ?_⟩
  rintro _ rfl
  refine ⟨vp_in_nI (by omega) (by omega), ?_⟩
  rintro _ rfl
  rw [u2_k (show 1 + 2 + 5 * p ≠ 1 + 1 + 5 * p by omega), show I 42 (1 + 1 + 5 * p) = nI (s 1 p) from hn.2.1, show I 42 (1 + 2 + 5 * p) = nI (s 2 p) from hn.2.2.1, k8_clr _ hbb.2.1 f (by omega), k8_clr _ hbb.2.2.1 f (by omega)]
  have hW := blv_WFS (b := b) hF hP hV.2.1 hp hf
  have hy : blv s p f b 4 0 = s 4 0 := by rw [blv_m _ _ _ _ _ (by omega) (by omega)]
  have fin : ∀ I', EnN (I' 42) (sc 0 1) (blv s p f b) → FrV I I' → (∀ k, 41 ≤ k → I' 42 k = I 42 k) → K I' J := fun I' h1 h2 h3 => h I' ⟨h1, hW, hP, hF, by rw [hy]; exact hV.2.2.2.2⟩ h2 h3
  rcases hb with rfl | rfl
  · refine ⟨fun q => absurd rfl q, fun _ => ?_⟩
    rintro _ rfl
    refine ⟨fun _ => fin _ ?_ ?_ ?_, fun q => absurd q (by decide)⟩
    · rw [u2_k (show 1 + 1 + 5 * p ≠ 1 + 2 + 5 * p by omega), u2_at, k8_set _ z1 f (by omega)]
      have h1 := (hV.1.upd 1 p (bs (bz (s 1 p) f) f) (by omega))
      have h2 := EnN.upd (I := u2 I 42 (1 + 1 + 5 * p) (nI (bs (bz (s 1 p) f) f))) h1 2 p (bz (s 2 p) f) (by omega)
      have e : u2 (u2 (u2 I 42 (1 + 1 + 5 * p) (nI (bz (s 1 p) f))) 42 (1 + 2 + 5 * p) (nI (bz (s 2 p) f))) 42 (1 + 1 + 5 * p) (nI (bs (bz (s 1 p) f) f)) 42 = u2 (u2 I 42 (1 + 1 + 5 * p) (nI (bs (bz (s 1 p) f) f))) 42 (1 + 2 + 5 * p) (nI (bz (s 2 p) f)) 42 := by
        funext k
        simp only [u2]
        split
        · next z => rw [if_neg (by omega)]
        · next z => rfl
      rw [e]
      exact h2
    · intro a ha; rw [u2_row ha, u2_row ha, u2_row ha]
    · intro k hk; rw [u2_k (by omega), u2_k (by omega), u2_k (by omega)]
  · refine ⟨fun _ => ⟨fun q => absurd rfl q, fun _ => fin _ ?_ ?_ ?_⟩, fun q => absurd q (by decide)⟩
    · rw [u2_at, k8_set _ z2 f (by omega)]
      have h1 := (hV.1.upd 1 p (bz (s 1 p) f) (by omega))
      have h2 := EnN.upd (I := u2 I 42 (1 + 1 + 5 * p) (nI (bz (s 1 p) f))) h1 2 p (bs (bz (s 2 p) f) f) (by omega)
      have e : u2 (u2 (u2 I 42 (1 + 1 + 5 * p) (nI (bz (s 1 p) f))) 42 (1 + 2 + 5 * p) (nI (bz (s 2 p) f))) 42 (1 + 2 + 5 * p) (nI (bs (bz (s 2 p) f) f)) 42 = u2 (u2 I 42 (1 + 1 + 5 * p) (nI (bz (s 1 p) f))) 42 (1 + 2 + 5 * p) (nI (bs (bz (s 2 p) f) f)) 42 := by
        funext k
        simp only [u2]
        split
        · rfl
        · next z => rfl
      rw [e]
      exact h2
    · intro a ha; rw [u2_row ha, u2_row ha, u2_row ha]
    · intro k hk; rw [u2_k (by omega), u2_k (by omega), u2_k (by omega)]
/-- one more row -/
theorem EnK_add {I : Ii} {s : Sx} {p b : Nat} (h : EnK (I 42) s) (h0 : I 42 0 = nI (s 4 0)) (hn : s 4 3 < 30) (hp : p < 8) (hb : b < 4) : EnK (u2 (u2 (u2 (u2 I 42 41 (nI (s 4 3 + 1))) 42 (42 + 3 * s 4 3) (nI (s 4 0))) 42 (43 + 3 * s 4 3) (nI p)) 42 (44 + 3 * s 4 3) (nI b) 42) (kep s p b) := by
  have e3 : kep s p b 4 3 = s 4 3 + 1 := by simp [kep, hn, up]
  have e5 : ∀ k, kep s p b 5 k = if k = s 4 3 then (s 4 0 * 8 + p) * 4 + b else s 5 k := fun k => by simp [kep, hn, up]
  refine ⟨by rw [u2_k (by omega), u2_k (by omega), u2_k (by omega), u2_at, e3], fun k hk => ?_⟩
  rw [e3] at hk
  rw [e5]
  by_cases z : k = s 4 3
  · rw [if_pos z, z]
    refine ⟨?_, ?_, ?_⟩
    · rw [u2_k (by omega), u2_k (by omega), u2_at]; congr 1; omega
    · rw [u2_k (by omega), u2_at]; congr 1; omega
    · rw [u2_at]; congr 1; omega
  · rw [if_neg z]
    obtain ⟨g1, g2, g3⟩ := h.2 k (by omega)
    refine ⟨?_, ?_, ?_⟩
    · rw [u2_k (by omega), u2_k (by omega), u2_k (by omega), u2_k (by omega)]; exact g1
    · rw [u2_k (by omega), u2_k (by omega), u2_k (by omega), u2_k (by omega)]; exact g2
    · rw [u2_k (by omega), u2_k (by omega), u2_k (by omega), u2_k (by omega)]; exact g3
theorem EnK_shift {I I' : Ii} {s : Sx} {p b : Nat} (h : EnK (I 42) s) (hn : ¬ s 4 3 < 30) (h30 : s 4 3 ≤ 30) (hp : p < 8) (hb : b < 4) (h41 : I' 42 41 = I 42 41) (hs : ∀ k, 42 ≤ k → k < 129 → I' 42 k = I 42 (k + 3)) : EnK (u2 (u2 (u2 I' 42 129 (nI (s 4 0))) 42 130 (nI p)) 42 131 (nI b) 42) (kep s p b) := by
  have e3 : kep s p b 4 3 = s 4 3 := by simp [kep, hn]
  have e5 : ∀ k, kep s p b 5 k = if k < 29 then s 5 (k + 1) else if k = 29 then (s 4 0 * 8 + p) * 4 + b else s 5 k := fun k => by simp [kep, hn]
  refine ⟨by rw [u2_k (by omega), u2_k (by omega), u2_k (by omega), e3, h41]; exact h.1, fun k hk => ?_⟩
  rw [e3] at hk
  rw [e5]
  by_cases z : k < 29
  · rw [if_pos z]
    obtain ⟨g1, g2, g3⟩ := h.2 (k + 1) (by omega)
    refine ⟨?_, ?_, ?_⟩
    · rw [u2_k (by omega), u2_k (by omega), u2_k (by omega), hs _ (by omega) (by omega), show 42 + 3 * k + 3 = 42 + 3 * (k + 1) by omega]; exact g1
    · rw [u2_k (by omega), u2_k (by omega), u2_k (by omega), hs _ (by omega) (by omega), show 43 + 3 * k + 3 = 43 + 3 * (k + 1) by omega]; exact g2
    · rw [u2_k (by omega), u2_k (by omega), u2_k (by omega), hs _ (by omega) (by omega), show 44 + 3 * k + 3 = 44 + 3 * (k + 1) by omega]; exact g3
  · obtain rfl : k = 29 := by omega
    rw [if_neg z, if_pos rfl]
    refine ⟨?_, ?_, ?_⟩
    · rw [u2_k (by omega), u2_k (by omega), u2_at]; congr 1; omega
    · rw [u2_k (by omega), u2_at]; congr 1; omega
    · rw [u2_at]; congr 1; omega
theorem m_isKept {b : Nat} {K : KV} (h58 : I 0 58 = b01 th) (hV : EnV I sc s) (hk : Kp th R0 (I 42) s) (hp : p < 8) (hb : b < 4) (h : ∀ I', EnV I' sc (kep s p b) → Kp th R0 (I' 42) (kep s p b) → FrV I I' → K I' J) : CalV wM d mX13_isKept [.ref 0, .int (nI p), .int (nI b)] I J K := by
  have c41 : (41 : Int32).toNatClampNeg = 41 := rfl
  have hW := kep_WFS (p := p) (b := b) hV.2.1
  have hy : kep s p b 4 0 = s 4 0 := kep_4 s p b 0 (by omega)
  have vv : ∀ I', (∀ k, k < 41 → I' 42 k = I 42 k) → EnV I' sc (kep s p b) := fun I' hr => by
    refine ⟨?_, hW, hV.2.2.1, hV.2.2.2.1, by rw [hy]; exact hV.2.2.2.2⟩
    have hP := hV.2.2.1
    have hN := hV.1.kep p b
    refine ⟨by rw [hr 0 (by omega)]; exact hN.1, fun q hq => ?_⟩
    rw [hr _ (by omega), hr _ (by omega), hr _ (by omega), hr _ (by omega), hr _ (by omega)]
    exact hN.2 q hq
  cases th
  case true =>
    refine Cal.of (by decide) (Nat.le_of_ble_eq_true rfl) (bX13_isKept_0 ⟨fun q => ?_, fun q => h I (vv I (fun _ _ => rfl)) hk (fun _ _ => rfl)⟩)
    rw [h58] at q
    exact absurd q (by decide)
  case false =>
    have hK : EnK (I 42) s := hk
    have h30 := hV.2.1.2.2.2
    refine Cal.of (by decide) (Nat.le_of_ble_eq_true rfl) (bX13_isKept_0 ⟨fun _ => ⟨fun q => ?_, fun q => ?_⟩, fun q => absurd h58 q⟩)
    · rw [c41, hK.1] at q
      have hn : s 4 3 < 30 := by
        rcases Nat.lt_or_ge (s 4 3) 30 with z | z
        · exact z
        · exact absurd (show nI (s 4 3) = 30 by rw [show s 4 3 = 30 by omega]; rfl) q
      rw [c41, hK.1, nI_1]
      rintro _ rfl
      rw [u2_at]
      intro y ey
      have ey2 : y = nI (42 + 3 * s 4 3) := by
        rw [ey, show (3 : Int32) = nI 3 from rfl, show (42 : Int32) = nI 42 from rfl, pk_mul, nI_add, pk_sub (by omega)]
        congr 1
      rw [ey2, nI_1, nI_2, nI_clamp (by omega), nI_clamp (by omega), nI_clamp (by omega), c0, u2_k (show (0 : Nat) ≠ 41 by omega), hV.1.1]
      refine ⟨vp_in_nI (by omega) (by omega), vp_in_nI (by omega) (by omega), vp_in_nI (by omega) (by omega), h _ (vv _ (fun k hk => ?_)) ?_ (fun a ha => ?_)⟩
      · rw [u2_k (by omega), u2_k (by omega), u2_k (by omega), u2_k (by omega)]
      · have := EnK_add hK hV.1.1 hn hp hb
        rw [show 42 + 3 * s 4 3 + 1 = 43 + 3 * s 4 3 by omega, show 42 + 3 * s 4 3 + 2 = 44 + 3 * s 4 3 by omega]
        exact this
      · rw [u2_row ha, u2_row ha, u2_row ha, u2_row ha]
    · rw [c41, hK.1] at q
      have hn : ¬ s 4 3 < 30 := fun z => by
        have := (nI_eq (b := 30) (by omega) (by decide)).mp q
        omega
      have key : ∀ n k I1, k + n = 129 → 42 ≤ k → (∀ a, a ≠ 42 → I1 a = I a) → (∀ j, j < 42 ∨ k ≤ j → I1 42 j = I 42 j) → (∀ j, 42 ≤ j → j < k → I1 42 j = I 42 (j + 3)) → GoV wM d mX13_isKept 23 [(0, .ref 0), (1, .int (nI p)), (2, .int (nI b)), (3, .int (nI k))] [] I1 J K := by
        intro n
        induction n with
        | zero =>
          intro k I1 hk h42 hr ho hs
          obtain rfl : k = 129 := by omega
          refine bX13_isKept_23 ⟨fun _ => ?_, fun q => absurd (by decide) q⟩
          intro y ey
          have ey2 : y = nI 129 := by
            rw [ey, c41, ho 41 (by omega), hK.1, show s 4 3 = 30 by omega]; decide
          rw [ey2, nI_1, nI_2, nI_clamp (by omega), nI_clamp (by omega), nI_clamp (by omega), c0, ho 0 (by omega), hV.1.1]
          refine ⟨vp_in_nI (by omega) (by omega), vp_in_nI (by omega) (by omega), vp_in_nI (by omega) (by omega), h _ (vv _ (fun k hk => ?_)) ?_ (fun a ha => ?_)⟩
          · rw [u2_k (by omega), u2_k (by omega), u2_k (by omega)]; exact ho k (by omega)
          · exact EnK_shift hK hn (by omega) hp hb (ho 41 (by omega)) (fun k h1 h2 => hs k h1 h2)
          · rw [u2_row ha, u2_row ha, u2_row ha]; exact hr a ha
        | succ n ih =>
          intro k I1 hk h42 hr ho hs
          refine bX13_isKept_23 ⟨fun q => absurd ((nI_leI (a := 129) (by decide) (by omega)).mp q) (by omega), fun _ => ?_⟩
          rw [nI_3, nI_clamp (by omega), nI_clamp (by omega), nI_1]
          refine ⟨vp_in_nI (by omega) (by omega), vp_in_nI (by omega) (by omega), ih (k + 1) _ (by omega) (by omega) (fun a ha => by rw [u2_row ha]; exact hr a ha) (fun j hj => by rw [u2_k (by omega)]; exact ho j (by omega)) (fun j h1 h2 => ?_)⟩
          by_cases z : j = k
          · rw [z, u2_at]; exact ho _ (by omega)
          · rw [u2_k z]; exact hs j h1 (by omega)
      exact key 87 42 I (by omega) (by omega) (fun _ _ => rfl) (fun _ _ => rfl) (fun j h1 h2 => absurd h2 (by omega))
end MB

/-! the reference: a year -/
theorem lsf_q {q : Nat → Bool} : ∀ n k, lsf q n k ≠ 0 → q (lsf q n k - 1) = true ∧ lsf q n k ≤ k + n ∧ k < lsf q n k
  | 0, k, h => absurd rfl h
  | n + 1, k, h => by
    simp only [lsf] at h ⊢
    by_cases e : q k = true
    · rw [if_pos e]; exact ⟨by simpa using e, by omega, by omega⟩
    · rw [if_neg e] at h ⊢
      have := lsf_q n (k + 1) h
      exact ⟨this.1, by omega, by omega⟩
theorem nmd_up {s : Sx} {m k : Nat} (h : nmd s m k = true) : ∀ n, nmd s m (k + n) = true
  | 0 => h
  | n + 1 => by show (nmd s m (k + n) || _) = true; rw [nmd_up h n]; rfl
theorem nmd_cong {s s' : Sx} (h0 : s' 0 = s 0) (h1 : s' 4 1 = s 4 1) (m : Nat) : ∀ n, nmd s' m n = nmd s m n
  | 0 => rfl
  | n + 1 => by simp only [nmd, h0, h1]; rw [nmd_cong h0 h1 m n]
theorem EnN.yer {I : Ii} {P : Nat} {s : Sx} (h : EnN (I 42) P s) (v : Nat) : EnN (u2 I 42 0 (nI v) 42) P (up s 4 0 v) := by
  refine ⟨by rw [u2_at]; simp [up], fun q hq => ?_⟩
  rw [u2_k (by omega), u2_k (by omega), u2_k (by omega), u2_k (by omega), u2_k (by omega)]
  simpa [up] using h.2 q hq
section MB
variable {d : Nat} {I : Ii} {J : Jj} {sc s : Sx} {L : Nat → List Nat} {p f : Nat} {th : Bool} {R0 : Nat → Int32}
theorem m_allTaught {aw : Nat} {K : KV} (hC : EnMC I J sc L) (hV : EnV I sc s) (haw : aw < 256) (h : ∀ I' J', EnV I' sc (yr1 sc L s aw) → (∀ k, 41 ≤ k → I' 42 k = I 42 k) → FrW I J I' J' → I' 0 59 = I 0 59 → K I' J') : CalV wM (d + 5) mX13_allTaught [.ref 0, .int (nI aw)] I J K := by
  have hP := hV.2.2.1
  have hF := hV.2.2.2.1
  have hle := fun k => lsn_le sc L s k
  generalize hlf : (fun k => if bq aw k = 1 then 0 else lsn sc L s k) = lf at *
  generalize htf : (fun k => tkn sc L s k (lsn sc L s k - 1)) = tf at *
  have elf : ∀ k, lf k = if bq aw k = 1 then 0 else lsn sc L s k := fun k => by rw [← hlf]
  have etf : ∀ k, tf k = tkn sc L s k (lsn sc L s k - 1) := fun k => by rw [← htf]
  have hlle : ∀ k, lf k ≤ sc 0 0 := fun k => by rw [elf]; split; omega; exact hle k
  have ey : yr1 sc L s aw = tch lf tf s (sc 0 1) := by rw [yr1, hlf, htf]
  rw [ey] at h
  have second : ∀ n k I1 J1, k + n = sc 0 1 → EnV I1 sc (tch lf tf s k) → (∀ k, 41 ≤ k → I1 42 k = I 42 k) → FrW I J I1 J1 → I1 0 59 = I 0 59 → (∀ k, k < sc 0 1 → I1 44 k = mI (lf k) ∧ (lf k ≠ 0 → I1 45 k = nI (tf k) ∧ (tf k = 1 ∨ tf k = 2))) → GoV wM (d + 4 + 1) mX13_allTaught 118 [(0, .ref 0), (2, .int (nI k))] [] I1 J1 K := by
    intro n
    induction n with
    | zero =>
      intro k I1 J1 hk hV1 h41 hfr h59 ht
      obtain rfl : k = sc 0 1 := by omega
      exact bX13_allTaught_118 (m_pm (hC.W hfr) ⟨fun _ => h I1 J1 hV1 h41 hfr h59, fun q => absurd (nI_le (Nat.le_refl _) (by omega)) q⟩)
    | succ n ih =>
      intro k I1 J1 hk hV1 h41 hfr h59 ht
      obtain ⟨t1, t2⟩ := ht k (by omega)
      have hlk := hlle k
      refine bX13_allTaught_118 (m_pm (hC.W hfr) ⟨fun q => absurd ((nI_leI (by omega) (by omega)).mp q) (by omega), fun _ => ⟨vp_in_nI (by omega) (by omega), ?_⟩⟩)
      rw [nI_clamp (by omega), t1, mI_m1 (by omega), nI_1]
      refine ⟨fun q => ?_, fun q => ?_⟩
      · refine ih (k + 1) I1 J1 (by omega) ?_ h41 hfr h59 ht
        simp only [tch, if_pos q]
        exact hV1
      · obtain ⟨t3, t4⟩ := t2 q
        obtain ⟨f, ef⟩ : ∃ f, lf k = f + 1 := ⟨lf k - 1, by omega⟩
        rw [t3, ef, mI_s]
        refine m_makes hV1 (by omega) (by omega) t4 (fun I2 hV2 f2 h2 => ?_)
        refine ih (k + 1) I2 J1 (by omega) ?_ (fun k hk => (h2 k hk).trans (h41 k hk)) (hfr.trans f2.W) (by rw [f2 0 (by omega)]; exact h59) (fun j hj => by rw [f2 44 (by omega), f2 45 (by omega)]; exact ht j hj)
        simp only [tch, if_neg q]
        rw [ef, Nat.add_sub_cancel]
        exact hV2
  have first : ∀ n k I1 J1, k + n = sc 0 1 → I1 42 = I 42 → FrW I J I1 J1 → I1 0 59 = I 0 59 → (∀ j, j < k → I1 44 j = mI (lf j) ∧ (lf j ≠ 0 → I1 45 j = nI (tf j) ∧ (tf j = 1 ∨ tf j = 2))) → GoV wM (d + 4 + 1) mX13_allTaught 2 [(0, .ref 0), (1, .int (nI aw)), (2, .int (nI k))] [] I1 J1 K := by
    intro n
    induction n with
    | zero =>
      intro k I1 J1 hk h42 hfr h59 ht
      obtain rfl : k = sc 0 1 := by omega
      exact bX13_allTaught_2 (m_pm (hC.W hfr) ⟨fun _ => second (sc 0 1) 0 I1 J1 (by omega) (hV.row h42) (fun k _ => by rw [h42]) hfr h59 ht, fun q => absurd (nI_le (Nat.le_refl _) (by omega)) q⟩)
    | succ n ih =>
      intro k I1 J1 hk h42 hfr h59 ht
      have hC1 := hC.W hfr
      have hV1 := hV.row h42
      have c44 : ∀ (I2 : Ii) (x : Int32), (u2 I2 44 k x) 42 = I2 42 := fun I2 x => u2_row (by omega)
      -- go on, with what is noted of k
      have go : ∀ I2 J2, I2 42 = I 42 → FrW I J I2 J2 → I2 0 59 = I 0 59 → (∀ j, j < k → I2 44 j = I1 44 j ∧ I2 45 j = I1 45 j) → I2 44 k = mI (lf k) → (lf k ≠ 0 → I2 45 k = nI (tf k) ∧ (tf k = 1 ∨ tf k = 2)) → GoV wM (d + 4 + 1) mX13_allTaught 2 [(0, .ref 0), (1, .int (nI aw)), (2, .int (nI k + 1))] [] I2 J2 K := by
        intro I2 J2 e42 e1 e59 e2 e3 e4
        rw [nI_1]
        refine ih (k + 1) I2 J2 (by omega) e42 e1 e59 (fun j hj => ?_)
        by_cases z : j = k
        · rw [z]; exact ⟨e3, e4⟩
        · rw [(e2 j (by omega)).1, (e2 j (by omega)).2]; exact ht j (by omega)
      refine bX13_allTaught_2 (m_pm hC1 ⟨fun q => absurd ((nI_leI (by omega) (by omega)).mp q) (by omega), fun _ => ?_⟩)
      rw [k8_bit _ haw k (by omega), nI_clamp (show k < 2 ^ 31 by omega)]
      rcases bq01 aw k with e | e
      case inr =>
        rw [e]
        refine ⟨fun q => absurd rfl q, fun _ => ⟨vp_in_nI (by omega) (by omega), ?_⟩⟩
        have el : lf k = 0 := by rw [elf, if_pos e]
        refine go _ J1 (by rw [c44]; exact h42) (hfr.trans ⟨fun a _ _ z _ => u2_row z, fun j _ _ _ _ => by rw [u2_row (by omega)], fun _ _ => rfl⟩) (by rw [u2_row (by omega)]; exact h59) (fun j hj => ⟨u2_k (by omega), by rw [u2_row (by omega)]⟩) (by rw [u2_at, el]; rfl) (fun z => absurd el z)
      rw [e]
      have el : lf k = lsn sc L s k := by rw [elf, if_neg (by omega)]
      refine ⟨fun _ => m_taughtNext (d := d) hC1 hV1 (by omega) (fun I2 J2 f2 => ⟨vp_in_nI (by omega) (by omega), ?_⟩), fun q => absurd q (by decide)⟩
      rintro _ rfl
      have hV2 : EnV (u2 I2 44 k (mI (lsn sc L s k))) sc s := (hV1.H f2).row (c44 _ _)
      have f3 : FrW I J (u2 I2 44 k (mI (lsn sc L s k))) J2 := (hfr.trans f2.W).trans ⟨fun a _ _ z _ => u2_row z, fun j _ _ _ _ => by rw [u2_row (by omega)], fun _ _ => rfl⟩
      have hC2 := hC.W f3
      have e42 : u2 I2 44 k (mI (lsn sc L s k)) 42 = I 42 := by rw [c44, f2.1 42 (by omega)]; exact h42
      have e59 : u2 I2 44 k (mI (lsn sc L s k)) 0 59 = I 0 59 := by rw [u2_row (by omega), f2.2.1 59 (by omega) (by omega) (by omega)]; exact h59
      have ej : ∀ j, j < k → u2 I2 44 k (mI (lsn sc L s k)) 44 j = I1 44 j ∧ u2 I2 44 k (mI (lsn sc L s k)) 45 j = I1 45 j := fun j hj => ⟨by rw [u2_k (by omega), f2.1 44 (by omega)], by rw [u2_row (by omega), f2.1 45 (by omega)]⟩
      have hlk := hle k
      rw [mI_m1 (by omega)]
      refine ⟨fun q => ?_, fun q => ?_⟩
      case refine_2 =>
        exact go _ J2 e42 f3 e59 ej (by rw [u2_at, el]) (fun z => absurd (el.trans q) z)
      obtain ⟨f, ef⟩ : ∃ f, lsn sc L s k = f + 1 := ⟨lsn sc L s k - 1, by omega⟩
      have hf8 : f < 8 ∧ f < sc 0 0 := by omega
      have hm0 : s 0 k ≠ 0 := fun z => by rw [lsn, if_pos z] at ef; omega
      have hls : lsq sc L s k f = true := by
        have e0 : lsn sc L s k = lsf (lsq sc L s k) (sc 0 0) 0 := by rw [lsn, if_neg hm0]
        have := (lsf_q (q := lsq sc L s k) (sc 0 0) 0 (by rw [← e0]; omega)).1
        rw [← e0, ef, Nat.add_sub_cancel] at this
        exact this
      have hbb := hV.b (p := k) (by omega)
      have hwk := hV.2.1.1 k (by omega)
      obtain ⟨m, em⟩ : ∃ m, s 0 k = m + 1 := ⟨s 0 k - 1, by omega⟩
      have hnb : bel s k f ≠ 1 := by
        have ho := opn_bel (s := s) (p := k) (m := m) (f := f) (by omega) hbb.2.1 hbb.2.2.1 (hwk.2.2.2.1 f (by omega))
        unfold lsq at hls
        rw [em, Nat.add_sub_cancel] at hls
        simp only [Bool.and_eq_true, decide_eq_true_eq] at hls
        have := ho.mp hls.1
        omega
      have etk : tf k = tkn sc L s k f := by rw [etf, ef, Nat.add_sub_cancel]
      -- learned as x
      have put : ∀ (x : Nat) I4 J4, FrH (u2 I2 44 k (mI (lsn sc L s k))) J2 I4 J4 → tf k = x → (x = 1 ∨ x = 2) → GoV wM (d + 4 + 1) mX13_allTaught 2 [(0, .ref 0), (1, .int (nI aw)), (2, .int (nI k + 1))] [] (u2 I4 45 k (nI x)) J4 K := by
        intro x I4 J4 f4 ex hx
        refine go _ J4 (by rw [u2_row (by omega), f4.1 42 (by omega)]; exact e42) ((f3.trans f4.W).trans ⟨fun a _ _ _ z => u2_row z, fun j _ _ _ _ => by rw [u2_row (by omega)], fun _ _ => rfl⟩) (by rw [u2_row (by omega), f4.2.1 59 (by omega) (by omega) (by omega)]; exact e59) (fun j hj => ⟨by rw [u2_row (by omega), f4.1 44 (by omega)]; exact (ej j hj).1, by rw [u2_k (by omega), f4.1 45 (by omega)]; exact (ej j hj).2⟩) (by rw [u2_row (by omega), f4.1 44 (by omega), u2_at, el]) (fun _ => by rw [u2_at, ex]; exact ⟨rfl, hx⟩)
      have fr0 := FrH.refl (u2 I2 44 k (mI (lsn sc L s k))) J2
      generalize u2 I2 44 k (mI (lsn sc L s k)) = I3 at *
      rw [ef, mI_s]
      refine m_isOf (d := d + 3) hV2 (by omega) (by omega) ?_
      rcases bel3 s k f with e1 | e1 | e1
      · rw [e1]
        refine ⟨fun q => absurd rfl q, fun _ => m_masterOf hV2 (by omega) ?_⟩
        rw [em, mI_s]
        refine m_isOf (d := d + 3) hV2 (by omega) (by omega) ?_
        rcases Nat.lt_or_ge (bel s m f) 2 with z2 | z2
        · refine ⟨fun q => absurd ((nI_eq (b := 2) (by omega) (by decide)).mp q) (by omega), fun _ => ?_⟩
          rw [c4, (hC2.2.2.2.2.2.2.2.1 1 (by omega)).m1]
          refine ⟨fun y => put 1 _ _ fr0 (by rw [etk, tkn, em, Nat.add_sub_cancel, if_neg (by omega), if_neg (by omega), if_neg (fun y2 => y2.1 y)]) (Or.inl rfl), fun y => ?_⟩
          refine m_holds (w := 1) (d := d + 1) hC2 hV2 (by omega) y (by omega) (fun _ => hm0) (fun _ => by omega) (fun I4 J4 f4 => ⟨fun y2 => ?_, fun y2 => ?_⟩)
          · rw [b01_0] at y2
            exact put 1 I4 J4 f4 (by rw [etk, tkn, em, Nat.add_sub_cancel, if_neg (by omega), if_neg (by omega), if_neg (fun y3 => by rw [y2] at y3; exact absurd y3.2 (by decide))]) (Or.inl rfl)
          · rw [b01_n] at y2
            exact put 2 I4 J4 f4 (by rw [etk, tkn, em, Nat.add_sub_cancel, if_neg (by omega), if_neg (by omega), if_pos ⟨y, y2⟩]) (Or.inr rfl)
        · have e2 : bel s m f = 2 := by rcases bel3 s m f with e | e | e <;> omega
          rw [e2]
          exact ⟨fun _ => put 2 _ _ fr0 (by rw [etk, tkn, em, Nat.add_sub_cancel, if_neg (by omega), if_pos e2]) (Or.inr rfl), fun q => absurd rfl q⟩
      · exact absurd e1 hnb
      · rw [e1]
        exact ⟨fun _ => put 1 _ _ fr0 (by rw [etk, tkn, if_pos e1]) (Or.inl rfl), fun q => absurd q (by decide)⟩
  exact Cal.of (by decide) (Nat.le_of_ble_eq_true rfl) (bX13_allTaught_0 (first (sc 0 1) 0 I J (by omega) rfl (FrW.refl I J) rfl (fun j hj => absurd hj (by omega))))
theorem m_becomes1 {K : KV} (hV : EnV I sc s) (hp : p < sc 0 1) (h : ∀ I', EnV I' sc (up s 4 1 (bs (s 4 1) p)) → FrV I I' → (∀ k, 41 ≤ k → I' 42 k = I 42 k) → K I' J) : CalV wM d mX13_becomes [.ref 0, .int (nI p), .int 1] I J K := by
  have hP := hV.2.2.1
  have h4 := hV.2.1.2.1
  have h8 := p2_8 hP
  refine Cal.of (by decide) (Nat.le_of_ble_eq_true rfl) (bX13_becomes_0 ?_)
  rw [ixP, nI_4, nI_clamp (by omega), show 1 + 5 * p + 4 = 5 + 5 * p by omega, (hV.1.2 p hp).2.2.2.2, (k2_fl _ (bq2 _ _) _ (bq2 _ _)).2.2.1]
  refine ⟨vp_in_nI (by omega) (by omega), h _ ⟨hV.1.pas hP p (by omega) (by omega), up4_WFS hV.2.1 (Or.inl rfl) (bsF hP h4 hp), hP, hV.2.2.2.1, by simpa [up] using hV.2.2.2.2⟩ (fun a ha => u2_row ha) (fun k hk => u2_k (by omega))⟩
theorem m_becomes2 {K : KV} (hV : EnV I sc s) (hp : p < sc 0 1) (h : ∀ I', EnV I' sc (up s 4 2 (bs (s 4 2) p)) → FrV I I' → (∀ k, 41 ≤ k → I' 42 k = I 42 k) → K I' J) : CalV wM d mX13_becomes [.ref 0, .int (nI p), .int 2] I J K := by
  have hP := hV.2.2.1
  have h4 := hV.2.1.2.2.1
  have h8 := p2_8 hP
  refine Cal.of (by decide) (Nat.le_of_ble_eq_true rfl) (bX13_becomes_0 ?_)
  rw [ixP, nI_4, nI_clamp (by omega), show 1 + 5 * p + 4 = 5 + 5 * p by omega, (hV.1.2 p hp).2.2.2.2, (k2_fl _ (bq2 _ _) _ (bq2 _ _)).2.2.2]
  refine ⟨vp_in_nI (by omega) (by omega), h _ ⟨hV.1.doc hP p (by omega) (by omega), up4_WFS hV.2.1 (Or.inr rfl) (bsF hP h4 hp), hP, hV.2.2.2.1, by simpa [up] using hV.2.2.2.2⟩ (fun a ha => u2_row ha) (fun k hk => u2_k (by omega))⟩
/-- one sits, or not -/
theorem m_sitsFor {aw : Nat} {K : KV} (hC : EnMC I J sc L) (hV : EnV I sc s) (h58 : I 0 58 = b01 th) (hk : Kp th R0 (I 42) s) (hp : p < sc 0 1) (haw : bq aw p = 0) (h : ∀ I' J', EnV I' sc (ex1 sc L aw s p) → Kp th R0 (I' 42) (ex1 sc L aw s p) → FrW I J I' J' → I' 0 59 = I 0 59 + nI (if sit sc L aw s p = true ∧ ¬ mrk sc s p < sc 0 2 then 1 else 0) → K I' J') : CalV wM (d + 4) mX13_sitsFor [.ref 0, .int (nI p)] I J K := by
  have hP := hV.2.2.1
  have hF := hV.2.2.2.1
  have hb := hV.b (p := p) (by omega)
  have hbd := mrkN_b (sc := sc) (s := s) (p := p) (n := sc 0 0) (fun j hj => (hC.2.2.2.2.2.1 j (by omega)).2.2.2)
  have hsm : sm (mrk sc s p) := by unfold sm mrk; omega
  have no : sit sc L aw s p = false → ∀ I' J', FrH I J I' J' → K I' J' := fun e I' J' f' => by
    refine h I' J' ?_ ?_ f'.W ?_
    · rw [ex1, if_pos e]; exact hV.H f'
    · rw [ex1, if_pos e, f'.1 42 (by omega)]; exact hk
    · rw [if_neg (by simp [e]), f'.2.1 59 (by omega) (by omega) (by omega)]; exact (Int32.add_zero _).symm
  have yes : sit sc L aw s p = true → ∀ I1 J1, FrH I J I1 J1 → CalI wM (d + 3) mX13_marksOf [.ref 0, .int (nI p)] I1 J1 (fun x13 I11 J12 => ((((I11 38 (3 : Int32).toNatClampNeg) ≤ x13) → (CalV wM (d + 3) mX13_becomes [.ref (0), .int (nI p), .int (1)] I11 J12 (fun I16 J17 => (CalV wM (d + 3) mX13_isKept [.ref (0), .int (nI p), .int (1)] (u2 I16 0 59 ((I16 0 59) + 1)) J17 (fun I19 J20 => (K I19 J20)))))) ∧ ((¬ (I11 38 (3 : Int32).toNatClampNeg) ≤ x13) → (vp_in ((1 + (5 * nI p)) + 3) 132 ∧ (K (u2 I11 42 ((1 + (5 * nI p)) + 3).toNatClampNeg ((I11 42 ((1 + (5 * nI p)) + 3).toNatClampNeg) - 1)) J12))))) := fun e I1 J1 f1 => by
    have hC1 := hC.H f1
    have hV1 := hV.H f1
    refine m_marksOf (d := d + 2) hC1 hV1 hp ?_
    rw [c3, hC1.2.2.1.1, nI_iI, iI_le (by have := hC.2.2.1.2; unfold sm; omega) hsm]
    refine ⟨fun q => ?_, fun q => ?_⟩
    · refine m_becomes1 hV1 hp (fun I2 hV2 f2 h2 => ?_)
      refine m_isKept (b := 1) (th := th) (R0 := R0) (s := up s 4 1 (bs (s 4 1) p)) (sc := sc) (by rw [u2_k (by omega), f2 0 (by omega), f1.2.1 58 (by omega) (by omega) (by omega)]; exact h58) (hV2.row (u2_row (by omega))) (hk.cong (fun k hk => ?_) (by simp [up]) (by funext j; simp [up])) (by omega) (by omega) (fun I3 hV3 hk3 f3 => h I3 J1 ?_ ?_ ?_ ?_)
      · rw [u2_row (by omega), h2 k hk, f1.1 42 (by omega)]
      · rw [ex1, if_neg (by simp [e]), if_neg (by omega)]; exact hV3
      · rw [ex1, if_neg (by simp [e]), if_neg (by omega)]; exact hk3
      · refine ((f1.W.trans f2.W).trans ⟨fun a z _ _ _ => u2_row z, fun j _ _ z _ => u2_k z, fun _ _ => rfl⟩).trans f3.W
      · rw [if_pos ⟨e, by omega⟩, f3 0 (by omega), u2_at, f2 0 (by omega), f1.2.1 59 (by omega) (by omega) (by omega)]; rfl
    · have hl : s 3 p ≠ 0 := by
        unfold sit at e
        simp only [Bool.and_eq_true, decide_eq_true_eq] at e
        exact e.1.2
      rw [ixP, nI_3, nI_clamp (by omega), show 1 + 5 * p + 3 = 1 + 3 + 5 * p by omega, show I1 42 (1 + 3 + 5 * p) = nI (s 3 p) by rw [show 1 + 3 + 5 * p = 4 + 5 * p by omega]; exact (hV1.1.2 p hp).2.2.2.1, nIm1 (by omega)]
      refine ⟨vp_in_nI (by omega) (by omega), h _ J1 ?_ ?_ (f1.W.trans ⟨fun a _ z _ _ => u2_row z, fun j _ _ _ _ => by rw [u2_row (by omega)], fun _ _ => rfl⟩) ?_⟩
      · rw [ex1, if_neg (by simp [e]), if_pos (by omega)]
        exact ⟨hV1.1.upd 3 p (s 3 p - 1) (by omega), up3_WFS hV.2.1 (by omega), hP, hF, by simpa [up] using hV.2.2.2.2⟩
      · rw [ex1, if_neg (by simp [e]), if_pos (by omega)]
        exact hk.cong (fun k hk => by rw [u2_k (by omega), f1.1 42 (by omega)]) (by simp [up]) (by funext j; simp [up])
      · rw [if_neg (fun z => z.2 (by omega)), u2_row (by omega), f1.2.1 59 (by omega) (by omega) (by omega)]; exact (Int32.add_zero _).symm
  refine Cal.of (by decide) (Nat.le_of_ble_eq_true rfl) (bX13_sitsFor_0 (m_hasPassed hV hp ?_))
  rcases bq01 (s 4 1) p with e1 | e1
  case inr =>
    rw [e1]
    exact ⟨fun _ => no (by unfold sit; simp [e1]) I J (FrH.refl I J), fun q => absurd q (by decide)⟩
  rw [e1]
  refine ⟨fun q => absurd rfl q, fun _ => m_leftOf hV hp ⟨fun q => ?_, fun q => ?_⟩⟩
  · have e2 : s 3 p = 0 := (nI_eq (b := 0) (by omega) (by decide)).mp q
    exact no (by unfold sit; simp [e2]) I J (FrH.refl I J)
  have e2 : s 3 p ≠ 0 := fun z => q (by rw [z]; rfl)
  rw [c5, (hC.2.2.2.2.2.2.2.1 2 (by omega)).m1]
  refine ⟨fun y => yes (by unfold sit; simp [haw, e1, e2, y]) I J (FrH.refl I J), fun y => ?_⟩
  refine m_holds (w := 2) (f := 0) (d := d) hC hV (by omega) y hp (fun z => absurd z (by omega)) (fun z => absurd z (by omega)) (fun I1 J1 f1 => ⟨fun y2 => ?_, fun y2 => ?_⟩)
  · rw [b01_n] at y2
    exact yes (by unfold sit; simp [haw, e1, e2, y2]) I1 J1 f1
  · rw [b01_0] at y2
    exact no (by unfold sit; simp [y, y2]) I1 J1 f1
theorem m_isMM {m : Nat} {K : KI} (hC : EnMC I J sc L) (hV : EnV I sc s) (hm : m < 8) (h : K (b01 (nmd s m (sc 0 1))) I J) : CalI wM (d + 1) mX13_isMastersMaster [.ref 0, .int (nI m)] I J K := by
  have hP := hV.2.2.1
  refine Cal.of (by decide) (Nat.le_of_ble_eq_true rfl) (bX13_isMastersMaster_0 ?_)
  have key : ∀ n k, k + n = sc 0 1 → nmd s m k = false → GoI wM (d + 1) mX13_isMastersMaster 2 [(0, .ref 0), (1, .int (nI m)), (2, .int (nI k))] [] I J K := by
    intro n
    induction n with
    | zero =>
      intro k hk hn
      obtain rfl : k = sc 0 1 := by omega
      refine bX13_isMastersMaster_2 (m_pm hC ⟨fun _ => by rw [hn] at h; exact h, fun q => absurd (nI_le (Nat.le_refl _) (by omega)) q⟩)
    | succ n ih =>
      intro k hk hn
      have hb := hV.b (p := k) (by omega)
      have hw := hV.2.1.1 k (by omega)
      refine bX13_isMastersMaster_2 (m_pm hC ⟨fun q => absurd ((nI_leI (by omega) (by omega)).mp q) (by omega), fun _ => m_hasPassed hV (by omega) ?_⟩)
      rw [nI_1]
      rcases bq01 (s 4 1) k with e1 | e1
      · rw [e1]
        exact ⟨fun _ => ih (k + 1) (by omega) (by simp [nmd, hn, e1]), fun q => absurd rfl q⟩
      rw [e1]
      refine ⟨fun q => absurd q (by decide), fun _ => m_masterOf hV (by omega) ?_⟩
      rw [mI_m1 hb.1]
      refine ⟨fun q => ih (k + 1) (by omega) (by simp [nmd, hn, q]), fun q => m_masterOf hV (by omega) ?_⟩
      obtain ⟨c, ec⟩ : ∃ c, s 0 k = c + 1 := ⟨s 0 k - 1, by omega⟩
      rw [ec, mI_s]
      refine m_masterOf hV (by omega) ?_
      rw [mI_eq (hV.b (p := c) (by omega)).1 hm]
      refine ⟨fun q2 => ih (k + 1) (by omega) (by simp [nmd, hn, ec, q2]), fun q2 => ?_⟩
      have := nmd_up (s := s) (m := m) (k := k + 1) (by simp [nmd, e1, ec, q2]) n
      rw [show k + 1 + n = sc 0 1 by omega] at this
      rw [this] at h
      exact h
  exact key (sc 0 1) 0 (by omega) rfl
theorem ex1_y (aw k : Nat) : ex1 sc L aw s k 4 0 = s 4 0 := (ex1_m sc L aw s k).2.2.2
theorem m_year {aw : Nat} {K : KV} (hC : EnMC I J sc L) (hV : EnV I sc s) (h58 : I 0 58 = b01 th) (hk : Kp th R0 (I 42) s) (haw : aw < 256) (hy : s 4 0 ≤ 2000) (h : ∀ I' J', EnV I' sc (yr sc L s aw) → Kp th R0 (I' 42) (yr sc L s aw) → FrW I J I' J' → I' 0 59 = I 0 59 + nI (yrn sc L s aw) → K I' J') : CalV wM (d + 6) mX13_yearGoes [.ref 0, .int (nI aw)] I J K := by
  have hP := hV.2.2.1
  have hF := hV.2.2.2.1
  have third : ∀ n k I1 J1, k + n = sc 0 1 → EnV I1 sc (dcs (fun m => nmd (yr2 sc L s aw) m (sc 0 1)) (yr2 sc L s aw) k) → Kp th R0 (I1 42) (dcs (fun m => nmd (yr2 sc L s aw) m (sc 0 1)) (yr2 sc L s aw) k) → FrW I J I1 J1 → I1 0 59 = I 0 59 + nI (yrn sc L s aw) → GoV wM (d + 5 + 1) mX13_yearGoes 36 [(0, .ref 0), (2, .int (nI k))] [] I1 J1 K := by
    intro n
    induction n with
    | zero =>
      intro k I1 J1 hk hV1 hk1 hfr h59
      obtain rfl : k = sc 0 1 := by omega
      refine bX13_yearGoes_36 (m_pm (hC.W hfr) ⟨fun _ => ?_, fun q => absurd (nI_le (Nat.le_refl _) (by omega)) q⟩)
      have e0 : dcs (fun m => nmd (yr2 sc L s aw) m (sc 0 1)) (yr2 sc L s aw) (sc 0 1) = yr3 sc L s aw := rfl
      rw [e0] at hV1 hk1
      have ey : yr3 sc L s aw 4 0 = s 4 0 := by
        rw [yr3, (dcs_m _ _ _).2.1, yr2, (exs_m sc L aw _ _).2.2.2, yr1, tch_m _ _ _ 4 (by omega) (by omega)]
      rw [c0, hV1.1.1, nI_1, ey]
      refine h _ J1 ⟨hV1.1.yer (s 4 0 + 1), upY_WFS hV1.2.1, hP, hF, by simp [yr, up]; omega⟩ (hk1.cong (fun k hk => u2_k (by omega)) (by simp [yr, up]) (by funext j; simp [yr, up])) (hfr.trans ⟨fun a _ z _ _ => u2_row z, fun j _ _ _ _ => by rw [u2_row (by omega)], fun _ _ => rfl⟩) (by rw [u2_row (by omega)]; exact h59)
    | succ n ih =>
      intro k I1 J1 hk hV1 hk1 hfr h59
      have hd := dcs_m (fun m => nmd (yr2 sc L s aw) m (sc 0 1)) (yr2 sc L s aw) k
      refine bX13_yearGoes_36 (m_pm (hC.W hfr) ⟨fun q => absurd ((nI_leI (by omega) (by omega)).mp q) (by omega), fun _ => m_isDoctor hV1 (by omega) ?_⟩)
      rw [nI_1]
      rcases bq01 (dcs (fun m => nmd (yr2 sc L s aw) m (sc 0 1)) (yr2 sc L s aw) k 4 2) k with e1 | e1
      case inr =>
        rw [e1]
        exact ⟨fun _ => ih (k + 1) I1 J1 (by omega) (by simp only [dcs, e1]; simpa using hV1) (by simp only [dcs, e1]; simpa using hk1) hfr h59, fun q => absurd q (by decide)⟩
      rw [e1]
      refine ⟨fun q => absurd rfl q, fun _ => m_isMM (d := d + 4) (hC.W hfr) hV1 (by omega) ?_⟩
      rw [nmd_cong (hd.1 0 (by omega)) hd.2.2]
      by_cases hq : nmd (yr2 sc L s aw) k (sc 0 1) = true
      · rw [hq]
        refine ⟨fun q => absurd q (by decide), fun _ => m_becomes2 hV1 (by omega) (fun I2 hV2 f2 h2 => ?_)⟩
        refine m_isKept (b := 2) (th := th) (R0 := R0) (by rw [f2 0 (by omega), hfr.2.1 58 (by omega) (by omega) (by omega) (by omega)]; exact h58) hV2 (hk1.cong h2 (by simp [up]) (by funext j; simp [up])) (by omega) (by omega) (fun I3 hV3 hk3 f3 => ih (k + 1) I3 J1 (by omega) ?_ ?_ ((hfr.trans f2.W).trans f3.W) ?_)
        · simp only [dcs, hq, e1, and_self, if_true]; exact hV3
        · simp only [dcs, hq, e1, and_self, if_true]; exact hk3
        · rw [f3 0 (by omega), f2 0 (by omega)]; exact h59
      · have hq' : nmd (yr2 sc L s aw) k (sc 0 1) = false := by simpa using hq
        rw [hq']
        exact ⟨fun _ => ih (k + 1) I1 J1 (by omega) (by simp only [dcs, hq']; simpa using hV1) (by simp only [dcs, hq']; simpa using hk1) hfr h59, fun q => absurd rfl q⟩
  have secnd : ∀ n k I1 J1, k + n = sc 0 1 → EnV I1 sc (exs sc L aw (yr1 sc L s aw) k) → Kp th R0 (I1 42) (exs sc L aw (yr1 sc L s aw) k) → FrW I J I1 J1 → I1 0 59 = I 0 59 + nI (exn sc L aw (yr1 sc L s aw) k) → GoV wM (d + 5 + 1) mX13_yearGoes 7 [(0, .ref 0), (1, .int (nI aw)), (2, .int (nI k))] [] I1 J1 K := by
    intro n
    induction n with
    | zero =>
      intro k I1 J1 hk hV1 hk1 hfr h59
      obtain rfl : k = sc 0 1 := by omega
      exact bX13_yearGoes_7 (m_pm (hC.W hfr) ⟨fun _ => third (sc 0 1) 0 I1 J1 (by omega) hV1 hk1 hfr h59, fun q => absurd (nI_le (Nat.le_refl _) (by omega)) q⟩)
    | succ n ih =>
      intro k I1 J1 hk hV1 hk1 hfr h59
      refine bX13_yearGoes_7 (m_pm (hC.W hfr) ⟨fun q => absurd ((nI_leI (by omega) (by omega)).mp q) (by omega), fun _ => ?_⟩)
      rw [k8_bit _ haw k (by omega), nI_1]
      rcases bq01 aw k with e | e
      case inr =>
        rw [e]
        have es : sit sc L aw (exs sc L aw (yr1 sc L s aw) k) k = false := by unfold sit; simp [e]
        refine ⟨fun _ => ih (k + 1) I1 J1 (by omega) (by simp only [exs, ex1, es, if_true]; exact hV1) (by simp only [exs, ex1, es, if_true]; exact hk1) hfr ?_, fun q => absurd q (by decide)⟩
        simp only [exn, es]
        simpa using h59
      rw [e]
      refine ⟨fun q => absurd rfl q, fun _ => m_sitsFor (aw := aw) (th := th) (R0 := R0) (d := d + 1) (hC.W hfr) hV1 (by rw [hfr.2.1 58 (by omega) (by omega) (by omega) (by omega)]; exact h58) hk1 (by omega) e (fun I2 J2 hV2 hk2 f2 e59 => ih (k + 1) I2 J2 (by omega) hV2 hk2 (hfr.trans f2) ?_)⟩
      rw [e59, h59, Int32.add_assoc, nI_add]
      rfl
  refine Cal.of (by decide) (Nat.le_of_ble_eq_true rfl) (bX13_yearGoes_0 (m_allTaught (d := d) hC hV haw (fun I1 J1 hV1 h41 f1 e59 => ?_)))
  refine secnd (sc 0 1) 0 I1 J1 (by omega) hV1 (hk.cong h41 ?_ ?_) f1 ?_
  · show yr1 sc L s aw 4 3 = _; rw [yr1, tch_m _ _ _ 4 (by omega) (by omega)]
  · show yr1 sc L s aw 5 = _; rw [yr1, tch_m _ _ _ 5 (by omega) (by omega)]
  · rw [e59]; exact (Int32.add_zero _).symm
theorem m_years {n : Nat} {K : KV} (hC : EnMC I J sc L) (hV : EnV I sc s) (h58 : I 0 58 = b01 th) (hk : Kp th R0 (I 42) s) (hn : s 4 0 + n ≤ 2000) (h : ∀ I' J', EnV I' sc (yrs sc L s n) → Kp th R0 (I' 42) (yrs sc L s n) → FrW I J I' J' → I' 0 59 = I 0 59 + nI (ypn sc L s n) → K I' J') : CalV wM (d + 7) mX13_yearsGo [.ref 0, .int (nI n)] I J K := by
  have key : ∀ m k I1 J1, k + m = n → EnV I1 sc (yrs sc L s k) → Kp th R0 (I1 42) (yrs sc L s k) → FrW I J I1 J1 → I1 0 59 = I 0 59 + nI (ypn sc L s k) → GoV wM (d + 6 + 1) mX13_yearsGo 2 [(0, .ref 0), (1, .int (nI n)), (2, .int (nI k))] [] I1 J1 K := by
    intro m
    induction m with
    | zero =>
      intro k I1 J1 hk' hV1 hk1 hfr h59
      obtain rfl : k = n := by omega
      exact bX13_yearsGo_2 ⟨fun _ => h I1 J1 hV1 hk1 hfr h59, fun q => absurd (nI_le (Nat.le_refl _) (by omega)) q⟩
    | succ m ih =>
      intro k I1 J1 hk' hV1 hk1 hfr h59
      refine bX13_yearsGo_2 ⟨fun q => absurd ((nI_leI (by omega) (by omega)).mp q) (by omega), fun _ => m_year (aw := 0) (th := th) (R0 := R0) (d := d) (hC.W hfr) hV1 (by rw [hfr.2.1 58 (by omega) (by omega) (by omega) (by omega)]; exact h58) hk1 (by omega) (by rw [(yrs_m k).2]; omega) (fun I2 J2 hV2 hk2 f2 e59 => ?_)⟩
      rw [nI_1]
      refine ih (k + 1) I2 J2 (by omega) hV2 hk2 (hfr.trans f2) ?_
      rw [e59, h59, Int32.add_assoc, nI_add]
      rfl
  exact Cal.of (by decide) (Nat.le_of_ble_eq_true rfl) (bX13_yearsGo_0 (key n 0 I J (by omega) hV hk (FrW.refl I J) (Int32.add_zero _).symm))
end MB

/-! the reference's face: on -/
theorem wk_le {s : Sx} (hm : ∀ k, k < 8 → s 0 k ≤ 8) : ∀ n c, c ≤ 8 → wk s n c ≤ 8
  | 0, c, h => h
  | n + 1, c, h => by
    simp only [wk]
    split
    · omega
    · exact wk_le hm n _ (hm _ (by omega))
theorem anc_ring {s : Sx} {p : Nat} (hp : p < 8) (hm : ∀ k, k < 8 → s 0 k ≤ 8) : anc s p 9 (s 0 p) = anc s p 8 (s 0 p) := by
  rcases Bool.eq_false_or_eq_true (anc s p 8 (s 0 p)) with e | e
  · rw [e]
    obtain ⟨i, hi, hw⟩ := (anc_wk s p 8 _).mp e
    exact (anc_wk s p 9 _).mpr ⟨i, by omega, hw⟩
  · rw [e]
    rcases Bool.eq_false_or_eq_true (anc s p 9 (s 0 p)) with e9 | e9
    case inr => exact e9
    exfalso
    obtain ⟨i, hi, hw⟩ := (anc_wk s p 9 _).mp e9
    have hno : ∀ i, i < 8 → wk s i (s 0 p) ≠ p + 1 := fun i hi => anc_no e hi
    have hi8 : i = 8 := by
      rcases Nat.lt_or_ge i 8 with z | z
      · exact absurd hw (hno i z)
      · omega
    subst hi8
    have hs : ∀ n, wk s (n + 1) (p + 1) = wk s n (s 0 p) := fun n => by simp [wk]
    have h9 : wk s 9 (p + 1) = p + 1 := by rw [hs 8]; exact hw
    have hnz : ∀ i, i ≤ 9 → wk s i (p + 1) ≠ 0 := fun i hi z => by
      have := wk_add s i (9 - i) (p + 1)
      rw [show i + (9 - i) = 9 by omega, z, wk_z, h9] at this
      omega
    have hle := fun i => wk_le hm i (p + 1) (by omega)
    obtain ⟨a, b, h1, h2, h3⟩ := pigeon (w := fun i => wk s i (p + 1) - 1) (fun i hi => by have := hle i; have := hnz i (by omega); show wk s i (p + 1) - 1 < 8; omega)
    have h3 : wk s a (p + 1) - 1 = wk s b (p + 1) - 1 := h3
    have n1 := hnz a (by omega)
    have n2 := hnz b (by omega)
    have hab : wk s a (p + 1) = wk s b (p + 1) := by omega
    have e1 : wk s (a + (9 - b)) (p + 1) = p + 1 := by
      rw [wk_add, hab, ← wk_add, show b + (9 - b) = 9 by omega]
      exact h9
    obtain ⟨c, ec⟩ : ∃ c, a + (9 - b) = c + 1 := ⟨a + (9 - b) - 1, by omega⟩
    rw [ec, hs] at e1
    exact hno c (by omega) e1
theorem fl_ok : ∀ n, n < 4 → n = bq n 0 + 2 * bq n 1 := by decide +kernel
section MB
variable {d : Nat} {I I' : Ii} {J J' : Jj} {sc s g g' : Sx} {L : Nat → List Nat} {ps : Nat → Sx} {p f : Nat}
theorem ix2P (p : Nat) : (2 : Int32) + 5 * nI p = nI (2 + 5 * p) := by rw [show (5 : Int32) = nI 5 from rfl, show (2 : Int32) = nI 2 from rfl, pk_mul, nI_add]
theorem m_personTold {K : KI} (hC : EnMC I J sc L) (hT : ∀ k, k < 3 + 5 * sc 0 1 → I 1 k = nI (g 1 k) ∧ g 1 k < 256) (hp : p < sc 0 1) (hm : g 1 (2 + 5 * p) ≤ sc 0 1) (h : K (b01 (rwq sc g p)) I J) : CalI wM (d + 1) mX13_isPersonTold [.ref 0, .int (nI p)] I J K := by
  have hF := hC.1.2
  have hP := hC.2.1.2
  have h8 := p2_8 hF
  have t1 := hT (3 + 5 * p) (by omega)
  have t2 := hT (4 + 5 * p) (by omega)
  have t3 := hT (5 + 5 * p) (by omega)
  have t4 := hT (6 + 5 * p) (by omega)
  have no : ¬ (g 1 (3 + 5 * p) < 2 ^ sc 0 0 ∧ g 1 (4 + 5 * p) < 2 ^ sc 0 0 ∧ g 1 (3 + 5 * p) &&& g 1 (4 + 5 * p) = 0 ∧ g 1 (5 + 5 * p) ≤ 9 ∧ g 1 (6 + 5 * p) ≤ 3) → K 0 I J := fun z => by
    rw [show rwq sc g p = false by unfold rwq; exact decide_eq_false (fun y => z y.2)] at h
    exact h
  refine Cal.of (by decide) (Nat.le_of_ble_eq_true rfl) (bX13_isPersonTold_0 (m_fm hC ?_))
  rw [ix2P, nI_1, nI_2, nI_3, nI_4, nI_clamp (by omega), nI_clamp (by omega), nI_clamp (by omega), nI_clamp (by omega), show 2 + 5 * p + 1 = 3 + 5 * p by omega, show 2 + 5 * p + 2 = 4 + 5 * p by omega, show 2 + 5 * p + 3 = 5 + 5 * p by omega, show 2 + 5 * p + 4 = 6 + 5 * p by omega, t1.1, t2.1, t3.1, t4.1, k8_sh _ (by omega), nI_and]
  refine ⟨vp_in_nI (by omega) (by omega), fun q => no (fun z => ?_), fun q => ⟨vp_in_nI (by omega) (by omega), fun q2 => no (fun z => ?_), fun q2 => ⟨fun q3 => no (fun z => ?_), fun q3 => ⟨vp_in_nI (by omega) (by omega), fun q4 => no (fun z => ?_), fun q4 => ⟨vp_in_nI (by omega) (by omega), fun q5 => no (fun z => ?_), fun q5 => ?_⟩⟩⟩⟩⟩
  · have := (nI_leI (by omega) (by omega)).mp q; omega
  · have := (nI_leI (by omega) (by omega)).mp q2; omega
  · exact q3 (by rw [z.2.2.1]; rfl)
  · have := (nI_ltI (a := 9) (by decide) (by omega)).mp q4; omega
  · have := (nI_leI (a := 4) (by decide) (by omega)).mp q5; omega
  · have a1 : ¬ 2 ^ sc 0 0 ≤ g 1 (3 + 5 * p) := fun z => q (nI_le z (by omega))
    have a2 : ¬ 2 ^ sc 0 0 ≤ g 1 (4 + 5 * p) := fun z => q2 (nI_le z (by omega))
    have a3 : g 1 (3 + 5 * p) &&& g 1 (4 + 5 * p) = 0 := (nI_eq (b := 0) (by have := @Nat.and_le_left (g 1 (3 + 5 * p)) (g 1 (4 + 5 * p)); omega) (by decide)).mp q3
    have a4 : ¬ 9 < g 1 (5 + 5 * p) := fun z => q4 (nI_lt (a := 9) z (by omega))
    have a5 : ¬ 4 ≤ g 1 (6 + 5 * p) := fun z => q5 (nI_le (a := 4) z (by omega))
    rw [show rwq sc g p = true by unfold rwq; exact decide_eq_true ⟨hm, by omega, by omega, a3, by omega, by omega⟩] at h
    exact h
theorem m_isRing {K : KI} (hC : EnMC I J sc L) (hT : ∀ k, k < 3 + 5 * sc 0 1 → I 1 k = nI (g 1 k) ∧ g 1 k < 256) (hm : ∀ k, k < sc 0 1 → g 1 (2 + 5 * k) ≤ sc 0 1) (hp : p < sc 0 1) (h : K (b01 (anc (ldN g (sc 0 1)) p 8 (ldN g (sc 0 1) 0 p))) I J) : CalI wM d mX13_isRing [.ref 0, .int (nI p)] I J K := by
  have hP := hC.2.1.2
  have e0 : ∀ k, k < sc 0 1 → ldN g (sc 0 1) 0 k = g 1 (2 + 5 * k) := fun k hk => by simp [ldN, hk]
  have hb : ∀ k, k < 8 → ldN g (sc 0 1) 0 k ≤ 8 := fun k hk => by
    by_cases z : k < sc 0 1
    · rw [e0 k z]; have := hm k z; omega
    · simp [ldN, z]
  rw [← anc_ring (by omega) hb] at h
  have key : ∀ e n c, n + e = 8 → c ≤ sc 0 1 → K (b01 (anc (ldN g (sc 0 1)) p (e + 1) c)) I J → GoI wM d mX13_isRing 15 [(0, .ref 0), (1, .int (nI p)), (2, .int (mI c)), (3, .int (nI n))] [] I J K := by
    intro e
    induction e with
    | zero =>
      intro n c hn hc hK
      obtain rfl : n = 8 := by omega
      have ea : anc (ldN g (sc 0 1)) p (0 + 1) c = decide (c = p + 1) := by
        by_cases z : c = 0
        · subst z; simp [anc]
        · by_cases z2 : c = p + 1
          · simp [anc, z2]
          · simp [anc, z, z2]
      rw [ea] at hK
      refine bX13_isRing_15 ⟨fun _ => ?_, fun q => absurd (by decide) q⟩
      rw [mI_eq (by omega) (by omega)]
      exact ⟨fun q => by rw [decide_eq_false q] at hK; exact hK, fun q => by rw [decide_eq_true q] at hK; exact hK⟩
    | succ e ih =>
      intro n c hn hc hK
      refine bX13_isRing_15 ⟨fun q => absurd ((nI_leI (a := 8) (by decide) (by omega)).mp q) (by omega), fun _ => ?_⟩
      rw [mI_m1 (by omega), mI_eq (by omega) (by omega)]
      refine ⟨fun q => ?_, fun q => ⟨fun q2 => ?_, fun q2 => ?_⟩⟩
      · subst q
        have ea : anc (ldN g (sc 0 1)) p (e + 1 + 1) 0 = false := by simp [anc]
        rw [ea] at hK
        exact ⟨fun _ => hK, fun z => absurd z (by omega)⟩
      · have ea : anc (ldN g (sc 0 1)) p (e + 1 + 1) c = true := by simp [anc, q2]
        rw [ea] at hK
        exact hK
      · obtain ⟨j, rfl⟩ : ∃ j, c = j + 1 := ⟨c - 1, by omega⟩
        have tj := hT (2 + 5 * j) (by omega)
        rw [mI_s, ix2P, nI_clamp (by omega), tj.1, nI_m1, nI_1]
        refine ⟨vp_in_nI (by omega) (by omega), ?_⟩
        rintro _ rfl
        refine ih (n + 1) _ (by omega) (hm j (by omega)) ?_
        have ea : anc (ldN g (sc 0 1)) p (e + 1 + 1) (j + 1) = anc (ldN g (sc 0 1)) p (e + 1) (ldN g (sc 0 1) 0 j) := by
          show (if j + 1 = 0 then false else if j + 1 = p + 1 then true else anc (ldN g (sc 0 1)) p (e + 1) (ldN g (sc 0 1) 0 (j + 1 - 1))) = _
          rw [if_neg (by omega), if_neg q2, Nat.add_sub_cancel]
        rw [ea, e0 j (by omega)] at hK
        exact hK
  have tp := hT (2 + 5 * p) (by omega)
  refine Cal.of (by decide) (Nat.le_of_ble_eq_true rfl) (bX13_isRing_0 ?_)
  rw [ix2P, nI_clamp (by omega), tp.1, nI_m1]
  refine ⟨vp_in_nI (by omega) (by omega), ?_⟩
  rintro _ rfl
  rw [e0 p hp] at h
  exact key 8 0 _ (by omega) (hm p hp) h
theorem m_isImage {K : KI} (hC : EnMC I J sc L) (h16 : g 0 0 ≤ 1600) (hT : ∀ k, k < g 0 0 → I 1 k = nI (g 1 k) ∧ g 1 k < 256) (h : K (b01 (onq sc g)) I J) : CalI wM (d + 2) mX13_isImage [.ref 0, .int (nI (g 0 0))] I J K := by
  have hP := hC.2.1.2
  refine Cal.of (by decide) (Nat.le_of_ble_eq_true rfl) (bX13_isImage_0 (m_pm hC ?_))
  rw [show (3 : Int32) + 5 * nI (sc 0 1) = nI (3 + 5 * sc 0 1) by rw [show (5 : Int32) = nI 5 from rfl, show (3 : Int32) = nI 3 from rfl, pk_mul, nI_add], nI_eq (by omega) (by omega)]
  refine ⟨fun q => ?_, fun q => ?_⟩
  · rw [show onq sc g = false by unfold onq; simp [q]] at h; exact h
  rw [q] at hT
  have e1 : nI (g 0 0) - 1 = nI (2 + 5 * sc 0 1) := by rw [q, nIm1 (by omega)]; congr 1; omega
  have tn := hT (2 + 5 * sc 0 1) (by omega)
  have t0 := hT 0 (by omega)
  have t1 := hT 1 (by omega)
  have hcs := csm_lt (g 1) (2 + 5 * sc 0 1)
  rw [e1]
  refine ⟨vp_in_nI (by omega) (by omega), m_checked (b := g 1) arM_1 (by omega) (by omega) (fun k hk => hT k (by omega)) ?_⟩
  rw [nI_clamp (by omega), tn.1, nI_eq (by omega) (by omega)]
  refine ⟨fun q2 => ?_, fun q2 => ?_⟩
  · have q2' : ¬ csm (g 1) (2 + 5 * sc 0 1) = g 1 (2 + 5 * sc 0 1) := fun z => q2 z.symm
    rw [show onq sc g = false by unfold onq; simp [q2']] at h; exact h
  rw [c0, c1, t0.1, t1.1, show (256 : Int32) = nI 256 from rfl, pk_mul, nI_add]
  refine ⟨fun q3 => ?_, fun q3 => ?_⟩
  case refine_2 =>
    have : ¬ 256 * g 1 0 + g 1 1 ≤ 999 := fun z => q3 (nI_le (b := 999) z (by decide))
    rw [show onq sc g = false by unfold onq; simp [this]] at h; exact h
  have q3 : 256 * g 1 0 + g 1 1 ≤ 999 := (nI_leI (b := 999) (by omega) (by decide)).mp q3
  have eq1 : onq sc g = (alB (rwq sc g) (sc 0 1) && alB (fun k => !(anc (ldN g (sc 0 1)) k 8 (ldN g (sc 0 1) 0 k))) (sc 0 1)) := by
    unfold onq
    simp [q, q2, q3]
  rw [eq1] at h
  have second : alB (rwq sc g) (sc 0 1) = true → ∀ e k, k + e = sc 0 1 → alB (fun k => !(anc (ldN g (sc 0 1)) k 8 (ldN g (sc 0 1) 0 k))) k = true → GoI wM (d + 1 + 1) mX13_isImage 103 [(0, .ref 0), (2, .int (nI k))] [] I J K := by
    intro hr e
    have hm : ∀ k, k < sc 0 1 → g 1 (2 + 5 * k) ≤ sc 0 1 := fun k hk => by
      have := alB_at hr hk
      unfold rwq at this
      exact (of_decide_eq_true this).1
    induction e with
    | zero =>
      intro k hk ha
      obtain rfl : k = sc 0 1 := by omega
      rw [hr, ha] at h
      exact bX13_isImage_103 (m_pm hC ⟨fun _ => h, fun q => absurd (nI_le (Nat.le_refl _) (by omega)) q⟩)
    | succ e ih =>
      intro k hk ha
      refine bX13_isImage_103 (m_pm hC ⟨fun q => absurd ((nI_leI (by omega) (by omega)).mp q) (by omega), fun _ => m_isRing hC hT hm (by omega) ⟨fun z => ?_, fun z => ?_⟩⟩)
      · rw [b01_0] at z
        rw [nI_1]
        exact ih (k + 1) (by omega) (by simp only [alB, ha, z]; rfl)
      · rw [b01_n] at z
        have : alB (fun k => !(anc (ldN g (sc 0 1)) k 8 (ldN g (sc 0 1) 0 k))) (k + 1) = false := by simp only [alB, z]; simp
        have hn := alB_no this e
        rw [show k + 1 + e = sc 0 1 by omega] at hn
        rw [hn, hr] at h
        exact h
  have first : ∀ e k, k + e = sc 0 1 → alB (rwq sc g) k = true → GoI wM (d + 1 + 1) mX13_isImage 60 [(0, .ref 0), (2, .int (nI k))] [] I J K := by
    intro e
    induction e with
    | zero =>
      intro k hk ha
      obtain rfl : k = sc 0 1 := by omega
      exact bX13_isImage_60 (m_pm hC ⟨fun _ => second ha (sc 0 1) 0 (by omega) rfl, fun q => absurd (nI_le (Nat.le_refl _) (by omega)) q⟩)
    | succ e ih =>
      intro k hk ha
      have tk' := hT (2 + 5 * k) (by omega)
      have bad : rwq sc g k = false → K 0 I J := fun z => by
        have : alB (rwq sc g) (k + 1) = false := by simp only [alB, z]; simp
        have hn := alB_no this e
        rw [show k + 1 + e = sc 0 1 by omega] at hn
        rw [hn] at h
        exact h
      refine bX13_isImage_60 (m_pm hC ⟨fun q => absurd ((nI_leI (by omega) (by omega)).mp q) (by omega), fun _ => ?_⟩)
      rw [ix2P, nI_clamp (by omega), tk'.1]
      refine ⟨vp_in_nI (by omega) (by omega), m_pm hC ⟨fun z => ?_, fun z => ?_⟩⟩
      · have := (nI_ltI (by omega) (by omega)).mp z
        exact bad (by unfold rwq; exact decide_eq_false (fun y => by omega))
      · have : ¬ sc 0 1 < g 1 (2 + 5 * k) := fun y => z (nI_lt y (by omega))
        refine m_personTold (d := d) hC hT (by omega) (by omega) ⟨fun y => ?_, fun y => ?_⟩
        · rw [b01_n] at y
          rw [nI_1]
          exact ih (k + 1) (by omega) (by simp only [alB, ha, y]; rfl)
        · rw [b01_0] at y
          exact bad y
  exact first (sc 0 1) 0 (by omega) rfl
theorem y_on {K : KI} (hM : EnM I J sc L s ps g) (h : ∀ I' J', EnM I' J' sc L (s_on sc s g) ps (g_on sc g) → K (b01 (onq sc g)) I' J') : CalI wM (d + 3) mX13_on [.ref 0] I J K := by
  have hT := hM.2.2.2.2.2.1
  have h16 := hT.1.2
  have hM0 : EnM (u2 I 0 1 0) J sc L s ps (up g 0 0 0) := hM.cut (n := 0) (by omega)
  obtain ⟨hC, hV, -⟩ := id hM0
  have hP := hV.2.2.1
  have hF := hV.2.2.2.1
  have hT0 : ∀ k, k < g 0 0 → u2 I 0 1 0 1 k = nI (g 1 k) ∧ g 1 k < 256 := fun k hk => by rw [u2_row (by omega)]; exact hT.2 k hk
  unfold s_on g_on at h
  refine Cal.of (by decide) (Nat.le_of_ble_eq_true rfl) (bX13_on_0 ?_)
  rw [hT.1.1]
  refine m_isImage (d := d) hC h16 hT0 ⟨fun q => ?_, fun q => ?_⟩
  case refine_2 =>
    rw [b01_0] at q
    rw [q] at h
    exact h _ _ (hM0.rfu 5 (by omega))
  rw [b01_n] at q
  rw [q, if_pos rfl, if_pos rfl] at h
  have hok := onq_ok (g := g) hF hP q
  have q' := q
  unfold onq at q'
  simp only [Bool.and_eq_true, decide_eq_true_eq] at q'
  obtain ⟨⟨⟨⟨r1, r2⟩, r3⟩, r4⟩, r5⟩ := q'
  have hT1 : ∀ k, k < 3 + 5 * sc 0 1 → u2 I 0 1 0 1 k = nI (g 1 k) ∧ g 1 k < 256 := fun k hk => hT0 k (by omega)
  have t0 := hT1 0 (by omega)
  have t1 := hT1 1 (by omega)
  rw [c0, c1, t0.1, t1.1, show (256 : Int32) = nI 256 from rfl, pk_mul, nI_add]
  generalize hIb : u2 I 0 1 0 = Ib at *
  -- the row so far: all below k, and of k the first j
  have fin : ∀ I1, (∀ a, a ≠ 42 → I1 a = Ib a) → I1 42 0 = nI (256 * g 1 0 + g 1 1) → (∀ q, q < sc 0 1 → I1 42 (1 + 5 * q) = mI (g 1 (2 + 5 * q)) ∧ ∀ j, 1 ≤ j → j < 5 → I1 42 (1 + 5 * q + j) = nI (g 1 (2 + 5 * q + j))) → K 1 (u2 (u2 I1 42 41 0) 0 65 0) J := by
    intro I1 hr h0 hq
    have r42 : ∀ k, k ≠ 41 → u2 (u2 I1 42 41 0) 0 65 0 42 k = I1 42 k := fun k z => by rw [u2_row (by omega), u2_k z]
    have r1' : ∀ a, a ≠ 0 → a ≠ 42 → u2 (u2 I1 42 41 0) 0 65 0 a = Ib a := fun a z0 z => by rw [u2_row z0, u2_row z]; exact hr a z
    have r0 : ∀ k, k ≠ 65 → u2 (u2 I1 42 41 0) 0 65 0 0 k = Ib 0 k := fun k z => by rw [u2_k z, u2_row (by omega), hr 0 (by omega)]
    obtain ⟨h1, h2, h3, h4, h5, h6, h7, h8, h9, h10, h11, h12, h13⟩ := id hM0
    have e6 : ∀ i k, ¬ (i = 0 ∧ k = 6) → up (up g 0 0 0) 0 6 0 i k = up g 0 0 0 i k := fun i k z => by
      exact if_neg z
    have hld : ∀ (a k : Nat), k < sc 0 1 → ldN g (sc 0 1) 0 k = g 1 (2 + 5 * k) ∧ ldN g (sc 0 1) 1 k = g 1 (3 + 5 * k) ∧ ldN g (sc 0 1) 2 k = g 1 (4 + 5 * k) ∧ ldN g (sc 0 1) 3 k = g 1 (5 + 5 * k) := fun a k hk => by simp [ldN, hk]
    refine h _ _ ⟨h1.kept (fun a ha => r1' a (by omega) (by omega)) rfl, ⟨⟨?_, fun p hp => ?_⟩, hok.1, hP, hF, by have := hok.2.1; omega⟩, ⟨hok.2.1, hok.2.2⟩, ⟨?_, fun k hk => absurd hk (by simp [ldN])⟩, (r0 58 (by omega)).trans h5, ?_, ?_, ?_, fun k hk' => ?_, ?_, ?_, ⟨?_, ?_⟩, fun a ha k hk' => ?_⟩
    · rw [r42 0 (by omega), h0]; simp [ldN]
    · obtain ⟨m1, m2⟩ := hq p hp
      obtain ⟨l0, l1, l2, l3⟩ := hld 0 p hp
      rw [r42 _ (by omega), r42 _ (by omega), r42 _ (by omega), r42 _ (by omega), r42 _ (by omega), l0, l1, l2, l3]
      have b1 := m2 1 (by omega) (by omega)
      have b2 := m2 2 (by omega) (by omega)
      have b3 := m2 3 (by omega) (by omega)
      have b4 := m2 4 (by omega) (by omega)
      refine ⟨m1, ?_, ?_, ?_, ?_⟩
      · rw [show 2 + 5 * p = 1 + 5 * p + 1 by omega, b1]; congr 2; omega
      · rw [show 3 + 5 * p = 1 + 5 * p + 2 by omega, b2]; congr 2; omega
      · rw [show 4 + 5 * p = 1 + 5 * p + 3 by omega, b3]; congr 2; omega
      · rw [show 5 + 5 * p = 1 + 5 * p + 4 by omega, b4]
        have hfl : g 1 (6 + 5 * p) ≤ 3 := by
          have := alB_at r3 hp
          unfold rwq at this
          exact (of_decide_eq_true this).2.2.2.2.2
        have e41 : ldN g (sc 0 1) 4 1 = msk (fun p => decide (bq (g 1 (6 + 5 * p)) 0 = 1)) (sc 0 1) := by simp [ldN]
        have e42 : ldN g (sc 0 1) 4 2 = msk (fun p => decide (bq (g 1 (6 + 5 * p)) 1 = 1)) (sc 0 1) := by simp [ldN]
        rw [e41, e42, msk_bq _ _ p hp, msk_bq _ _ p hp, bq_if, bq_if, show 2 + 5 * p + 4 = 6 + 5 * p by omega, ← fl_ok _ (by omega)]
    · rw [u2_row (by omega), u2_at]; simp [ldN]; rfl
    · unfold EnMT; rw [r0 1 (by omega), r1' 1 (by omega) (by omega), e6 0 0 (by omega)]
      refine ⟨h6.1, fun k hk' => ?_⟩
      rw [e6 1 k (by omega)]; exact h6.2 k hk'
    · unfold EnMR; rw [r0 60 (by omega), r1' 46 (by omega) (by omega), e6 0 3 (by omega)]
      refine ⟨h7.1, fun k hk' => ?_⟩
      rw [e6 4 _ (by omega), e6 4 _ (by omega)]; exact h7.2 k hk'
    · rw [r0 7 (by omega), r0 8 (by omega), e6 0 1 (by omega), e6 0 2 (by omega)]; exact h8
    · rw [r1' 2 (by omega) (by omega), e6 2 _ (by omega)]; exact h9 k hk'
    · unfold EnMI; rw [r0 104 (by omega), r1' 78 (by omega) (by omega), e6 0 4 (by omega)]
      refine ⟨h10.1, fun k hk' => ?_⟩
      rw [e6 3 _ (by omega)]; exact h10.2 k hk'
    · rw [e6 0 5 (by omega)]; exact h11
    · rw [u2_at]; simp [up]; rfl
    · obtain ⟨-, nw, hnw, h66, -⟩ := h12
      exact ⟨nw, hnw, by rw [r0 66 (by omega)]; exact h66, fun i hi => absurd hi (by simp [up])⟩
    · rw [r1' a (by omega) (by omega)]; exact h13 a ha k hk'
  have outer : ∀ e k I1, k + e = sc 0 1 → (∀ a, a ≠ 42 → I1 a = Ib a) → I1 42 0 = nI (256 * g 1 0 + g 1 1) → (∀ q, q < k → I1 42 (1 + 5 * q) = mI (g 1 (2 + 5 * q)) ∧ ∀ j, 1 ≤ j → j < 5 → I1 42 (1 + 5 * q + j) = nI (g 1 (2 + 5 * q + j))) → GoI wM (d + 2 + 1) mX13_on 55 [(0, .ref 0), (2, .int (nI k))] [] I1 J K := by
    intro e
    induction e with
    | zero =>
      intro k I1 hk hr h0 hq
      obtain rfl : k = sc 0 1 := by omega
      have hC1 : EnMC I1 J sc L := hC.kept (fun a ha => hr a (by omega)) rfl
      exact bX13_on_55 (m_pm hC1 ⟨fun _ => fin I1 hr h0 hq, fun q => absurd (nI_le (Nat.le_refl _) (by omega)) q⟩)
    | succ e ih =>
      intro k I1 hk hr h0 hq
      have hC1 : EnMC I1 J sc L := hC.kept (fun a ha => hr a (by omega)) rfl
      have tk' := hT1 (2 + 5 * k) (by omega)
      refine bX13_on_55 (m_pm hC1 ⟨fun q => absurd ((nI_leI (by omega) (by omega)).mp q) (by omega), fun _ => ?_⟩)
      rw [ix2P, ixP, nI_clamp (by omega), nI_clamp (by omega), hr 1 (by omega), tk'.1, nI_m1]
      refine ⟨vp_in_nI (by omega) (by omega), vp_in_nI (by omega) (by omega), ?_⟩
      have inner : ∀ e2 j I2, j + e2 = 5 → 1 ≤ j → (∀ a, a ≠ 42 → I2 a = Ib a) → I2 42 0 = nI (256 * g 1 0 + g 1 1) → (∀ q, q < k → I2 42 (1 + 5 * q) = mI (g 1 (2 + 5 * q)) ∧ ∀ j, 1 ≤ j → j < 5 → I2 42 (1 + 5 * q + j) = nI (g 1 (2 + 5 * q + j))) → I2 42 (1 + 5 * k) = mI (g 1 (2 + 5 * k)) → (∀ i, 1 ≤ i → i < j → I2 42 (1 + 5 * k + i) = nI (g 1 (2 + 5 * k + i))) → GoI wM (d + 2 + 1) mX13_on 87 [(0, .ref 0), (2, .int (nI k)), (3, .int (nI j))] [] I2 J K := by
        intro e2
        induction e2 with
        | zero =>
          intro j I2 hj h1j hr2 h02 hq2 hm2 hj2
          obtain rfl : j = 5 := by omega
          refine bX13_on_87 ⟨fun _ => ?_, fun q => absurd (by decide) q⟩
          rw [nI_1]
          refine ih (k + 1) I2 (by omega) hr2 h02 (fun q hqq => ?_)
          by_cases z : q = k
          · subst z; exact ⟨hm2, hj2⟩
          · exact hq2 q (by omega)
        | succ e2 ih2 =>
          intro j I2 hj h1j hr2 h02 hq2 hm2 hj2
          have tj := hT1 (2 + 5 * k + j) (by omega)
          refine bX13_on_87 ⟨fun q => absurd ((nI_leI (a := 5) (by decide) (by omega)).mp q) (by omega), fun _ => ?_⟩
          rw [ix2P, ixP, nI_add, nI_add, nI_clamp (by omega), nI_clamp (by omega), hr2 1 (by omega), tj.1, nI_1 j]
          refine ⟨vp_in_nI (by omega) (by omega), vp_in_nI (by omega) (by omega), ih2 (j + 1) _ (by omega) (by omega) (fun a ha => by rw [u2_row ha]; exact hr2 a ha) (by rw [u2_k (by omega)]; exact h02) (fun q hqq => ⟨by rw [u2_k (by omega)]; exact (hq2 q hqq).1, fun i h1i hi => by rw [u2_k (by omega)]; exact (hq2 q hqq).2 i h1i hi⟩) (by rw [u2_k (by omega)]; exact hm2) (fun i h1i hi => ?_)⟩
          by_cases z : i = j
          · rw [z, u2_at]
          · rw [u2_k (by omega)]; exact hj2 i h1i (by omega)
      exact inner 4 1 _ (by omega) (by omega) (fun a ha => by rw [u2_row ha]; exact hr a ha) (by rw [u2_k (by omega)]; exact h0) (fun q hqq => ⟨by rw [u2_k (by omega)]; exact (hq q hqq).1, fun i h1i hi => by rw [u2_k (by omega)]; exact (hq q hqq).2 i h1i hi⟩) (u2_at _ _ _ _) (fun i h1i hi => absurd hi (by omega))
  exact outer (sc 0 1) 0 _ (by omega) (fun a ha => u2_row ha) (u2_at _ _ _ _) (fun q hqq => absurd hqq (by omega))
end MB

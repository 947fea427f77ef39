/-! the reference's face: what is remembered, and what changes -/
section MB
variable {d : Nat} {I I' : Ii} {J J' : Jj} {sc s g g' : Sx} {L : Nat → List Nat} {ps : Nat → Sx} {p f : Nat}
theorem EnU.grow {I1 : Ii} {nw : Nat} (hM : EnM I J sc L s ps g) (hnw : nw < 20) (hU : ∀ i, i < g 0 6 → EnN (fun k => I 49 (132 * ((nw + 21 + i - g 0 6) % 20) + k)) (sc 0 1) (ps i) ∧ EnK (fun k => I 49 (132 * ((nw + 21 + i - g 0 6) % 20) + k)) (ps i) ∧ okS sc (ps i)) (h6 : g 0 6 ≤ 20)
    (h65 : I1 0 65 = nI (if g 0 6 < 20 then g 0 6 + 1 else 20)) (h66 : I1 0 66 = nI ((nw + 1) % 20)) (hw : ∀ k, k < 132 → I1 49 (132 * ((nw + 1) % 20) + k) = I 42 k) (ho : ∀ q, (q < 132 * ((nw + 1) % 20) ∨ 132 * ((nw + 1) % 20) + 132 ≤ q) → I1 49 q = I 49 q) : EnU I1 sc (ps_r s ps g) (g_r g) := by
  have hP := hM.2.1.2.2.1
  have hs30 := hM.2.1.2.1.2.2.2
  have hnew : EnN (fun k => I1 49 (132 * ((nw + 1) % 20) + k)) (sc 0 1) s ∧ EnK (fun k => I1 49 (132 * ((nw + 1) % 20) + k)) s ∧ okS sc s :=
    ⟨hM.2.1.1.ext hP (fun k hk => hw k (by omega)), hM.2.2.2.1.ext hs30 (fun k _ hk => hw k hk), hM.ok⟩
  have hold : ∀ i, i < g 0 6 → (nw + 21 + i - g 0 6) % 20 ≠ (nw + 1) % 20 → EnN (fun k => I1 49 (132 * ((nw + 21 + i - g 0 6) % 20) + k)) (sc 0 1) (ps i) ∧ EnK (fun k => I1 49 (132 * ((nw + 21 + i - g 0 6) % 20) + k)) (ps i) ∧ okS sc (ps i) := fun i hi hne => by
    obtain ⟨u1, u2', u3⟩ := hU i hi
    refine ⟨u1.ext hP (fun k hk => ho _ (by omega)), u2'.ext u3.1.2.2.2 (fun k _ hk => ho _ (by omega)), u3⟩
  unfold ps_r g_r
  by_cases z : g 0 6 < 20
  · rw [if_pos z] at h65
    rw [if_pos z, if_pos z]
    have e6 : up g 0 6 (g 0 6 + 1) 0 6 = g 0 6 + 1 := by simp [up]
    refine ⟨by rw [e6]; exact ⟨h65, by omega⟩, (nw + 1) % 20, by omega, h66, fun i hi => ?_⟩
    rw [e6] at hi ⊢
    by_cases zi : i = g 0 6
    · subst zi
      rw [show (fun i => if i = g 0 6 then s else ps i) (g 0 6) = s from if_pos rfl, show ((nw + 1) % 20 + 21 + g 0 6 - (g 0 6 + 1)) % 20 = (nw + 1) % 20 by omega]
      exact hnew
    · rw [show (fun i => if i = g 0 6 then s else ps i) i = ps i from if_neg zi, show ((nw + 1) % 20 + 21 + i - (g 0 6 + 1)) % 20 = (nw + 21 + i - g 0 6) % 20 by omega]
      exact hold i (by omega) (by omega)
  · rw [if_neg z] at h65
    rw [if_neg z, if_neg z]
    have e6 : g 0 6 = 20 := by omega
    refine ⟨by rw [e6]; exact ⟨h65, by omega⟩, (nw + 1) % 20, by omega, h66, fun i hi => ?_⟩
    by_cases zi : i = 19
    · subst zi
      rw [show (fun i => if i = 19 then s else ps (i + 1)) 19 = s from if_pos rfl, show ((nw + 1) % 20 + 21 + 19 - g 0 6) % 20 = (nw + 1) % 20 by omega]
      exact hnew
    · rw [show (fun i => if i = 19 then s else ps (i + 1)) i = ps (i + 1) from if_neg zi, show ((nw + 1) % 20 + 21 + i - g 0 6) % 20 = (nw + 21 + (i + 1) - g 0 6) % 20 by omega]
      exact hold (i + 1) (by omega) (by omega)
theorem g_r_o (g : Sx) (i k : Nat) (h : ¬ (i = 0 ∧ k = 6)) : g_r g i k = g i k := by
  unfold g_r
  split
  · unfold up; rw [if_neg h]
  · rfl
theorem EnM.gr {I1 : Ii} (hM : EnM I J sc L s ps g) (hk : ∀ a, a ≠ 0 → a ≠ 49 → I1 a = I a) (h0 : ∀ k, k ≠ 65 → k ≠ 66 → I1 0 k = I 0 k) (hU : EnU I1 sc (ps_r s ps g) (g_r g)) : EnM I1 J sc L s (ps_r s ps g) (g_r g) := by
  obtain ⟨h1, h2, h3, h4, h5, h6, h7, h8, h9, h10, h11, h12, h13⟩ := hM
  refine ⟨h1.kept (fun a ha => hk a (by omega) (by omega)) rfl, h2.row (hk 42 (by omega) (by omega)), h3, by rw [hk 42 (by omega) (by omega)]; exact h4, (h0 58 (by omega) (by omega)).trans h5, ?_, ?_, ?_, fun k hk' => ?_, ?_, ?_, hU, fun a ha k hk' => ?_⟩
  · unfold EnMT; rw [h0 1 (by omega) (by omega), hk 1 (by omega) (by omega), g_r_o g 0 0 (by omega)]
    refine ⟨h6.1, fun k hk' => ?_⟩
    rw [g_r_o g 1 k (by omega)]; exact h6.2 k hk'
  · unfold EnMR; rw [h0 60 (by omega) (by omega), hk 46 (by omega) (by omega), g_r_o g 0 3 (by omega)]
    refine ⟨h7.1, fun k hk' => ?_⟩
    rw [g_r_o g 4 _ (by omega), g_r_o g 4 _ (by omega)]; exact h7.2 k hk'
  · rw [h0 7 (by omega) (by omega), h0 8 (by omega) (by omega), g_r_o g 0 1 (by omega), g_r_o g 0 2 (by omega)]; exact h8
  · rw [hk 2 (by omega) (by omega), g_r_o g 2 _ (by omega)]; exact h9 k hk'
  · unfold EnMI; rw [h0 104 (by omega) (by omega), hk 78 (by omega) (by omega), g_r_o g 0 4 (by omega)]
    refine ⟨h10.1, fun k hk' => ?_⟩
    rw [g_r_o g 3 _ (by omega)]; exact h10.2 k hk'
  · rw [g_r_o g 0 5 (by omega)]; exact h11
  · rw [hk a (by omega) (by omega)]; exact h13 a ha k hk'
theorem m_keeps {K : KV} (hM : EnM I J sc L s ps g) (h : ∀ I', EnM I' J sc L s (ps_r s ps g) (g_r g) → K I' J) : CalV wM d mX13_keeps [.ref 0] I J K := by
  obtain ⟨⟨h65, h20⟩, nw, hnw, h66, hU⟩ := hM.2.2.2.2.2.2.2.2.2.2.2.1
  refine Cal.of (by decide) (Nat.le_of_ble_eq_true rfl) (bX13_keeps_0 ?_)
  rw [h66, nI_1, show (20 : Int32) = nI 20 from rfl, pk_rem (by omega) (by omega) (by omega)]
  have hn1 : (nw + 1) % 20 < 20 := Nat.mod_lt _ (by omega)
  have key : ∀ e k I1, k + e = 132 → (∀ a, a ≠ 49 → I1 a = u2 I 0 66 (nI ((nw + 1) % 20)) a) → (∀ j, j < k → I1 49 (132 * ((nw + 1) % 20) + j) = I 42 j) → (∀ q, (q < 132 * ((nw + 1) % 20) ∨ 132 * ((nw + 1) % 20) + 132 ≤ q) → I1 49 q = I 49 q) → GoV wM d mX13_keeps 15 [(0, .ref 0), (1, .int (nI k))] [] I1 J K := by
    intro e
    induction e with
    | zero =>
      intro k I1 hk hr hj ho
      obtain rfl : k = 132 := by omega
      have e65 : I1 0 65 = nI (g 0 6) := by rw [hr 0 (by omega), u2_k (by omega)]; exact h65
      refine bX13_keeps_15 ⟨fun _ => ⟨fun q => ?_, fun q => ?_⟩, fun q => absurd (by decide) q⟩
      · rw [e65] at q
        have hq := (nI_leI (a := 20) (by decide) (by omega)).mp q
        refine h I1 (hM.gr (fun a z0 z => by rw [hr a z, u2_row z0]) (fun k z z6 => by rw [hr 0 (by omega), u2_k z6]) (EnU.grow hM hnw hU h20 ?_ (by rw [hr 0 (by omega), u2_at]) hj ho))
        rw [e65, if_neg (by omega), show g 0 6 = 20 by omega]
      · rw [e65] at q
        have hq : ¬ 20 ≤ g 0 6 := fun z => q (nI_le (a := 20) z (by omega))
        rw [e65, nI_1]
        refine h _ (hM.gr (fun a z0 z => by rw [u2_row z0, hr a z, u2_row z0]) (fun k z z6 => by rw [u2_k z, hr 0 (by omega), u2_k z6]) (EnU.grow hM hnw hU h20 ?_ (by rw [u2_k (by omega), hr 0 (by omega), u2_at]) (fun k hk => by rw [u2_row (by omega)]; exact hj k hk) (fun q hq => by rw [u2_row (by omega)]; exact ho q hq)))
        rw [u2_at, if_pos (by omega)]
    | succ e ih =>
      intro k I1 hk hr hj ho
      have e66 : I1 0 66 = nI ((nw + 1) % 20) := by rw [hr 0 (by omega), u2_at]
      have ei : (132 : Int32) * nI ((nw + 1) % 20) + nI k = nI (132 * ((nw + 1) % 20) + k) := by rw [show (132 : Int32) = nI 132 from rfl, pk_mul, nI_add]
      refine bX13_keeps_15 ⟨fun q => absurd ((nI_leI (a := 132) (by decide) (by omega)).mp q) (by omega), fun _ => ?_⟩
      rw [e66, ei, nI_clamp (by omega), nI_clamp (by omega), nI_1, hr 42 (by omega), u2_row (by omega)]
      refine ⟨vp_in_nI (by omega) (by omega), vp_in_nI (by omega) (by omega), ih (k + 1) _ (by omega) (fun a ha => by rw [u2_row ha]; exact hr a ha) (fun j hj' => ?_) (fun q hq => by rw [u2_k (by omega)]; exact ho q hq)⟩
      by_cases z : j = k
      · rw [z, u2_at]
      · rw [u2_k (by omega)]; exact hj j (by omega)
  exact key 132 0 _ (by omega) (fun _ _ => rfl) (fun j hj => absurd hj (by omega)) (fun q _ => by rw [u2_row (by omega)])
theorem y_undo {K : KI} (hM : EnM I J sc L s ps g) (h : ∀ I' J', EnM I' J' sc L (s_un s ps g) ps (g_un g) → K (b01 (decide (g 0 6 ≠ 0))) I' J') : CalI wM d mX13_undo [.ref 0] I J K := by
  obtain ⟨⟨h65, h20⟩, nw, hnw, h66, hU⟩ := hM.2.2.2.2.2.2.2.2.2.2.2.1
  have hP := hM.2.1.2.2.1
  unfold s_un g_un at h
  refine Cal.of (by decide) (Nat.le_of_ble_eq_true rfl) (bX13_undo_0 ?_)
  rw [h65]
  refine ⟨fun q => ?_, fun q => ?_⟩
  case refine_2 =>
    have hq : g 0 6 = 0 := (nI_eq (b := 0) (by omega) (by decide)).mp q
    rw [if_pos hq, if_pos hq, decide_eq_false (by omega)] at h
    exact h _ _ (hM.rfu 4 (by omega))
  have hq : g 0 6 ≠ 0 := fun z => q (by rw [z]; rfl)
  rw [if_neg hq, if_neg hq, decide_eq_true hq] at h
  have ep : (nw + 21 + (g 0 6 - 1) - g 0 6) % 20 = nw := by omega
  obtain ⟨n1, n2, n3⟩ := hU (g 0 6 - 1) (by omega)
  rw [ep] at n1 n2
  have key : ∀ e k I1, k + e = 132 → (∀ a, a ≠ 42 → I1 a = I a) → (∀ j, j < k → I1 42 j = I 49 (132 * nw + j)) → GoI wM d mX13_undo 21 [(0, .ref 0), (1, .int (nI k))] [] I1 J K := by
    intro e
    induction e with
    | zero =>
      intro k I1 hk hr hj
      obtain rfl : k = 132 := by omega
      refine bX13_undo_21 ⟨fun _ => ?_, fun q => absurd (by decide) q⟩
      rintro _ rfl
      rw [hr 0 (by omega), h66, show (20 : Int32) = nI 20 from rfl, nI_add, nIm1 (by omega), pk_rem (by omega) (by omega) (by omega), u2_k (by omega), hr 0 (by omega), h65, nIm1 (by omega)]
      have r0 : ∀ k, k ≠ 65 → k ≠ 66 → u2 (u2 I1 0 66 (nI ((nw + 20 - 1) % 20))) 0 65 (nI (g 0 6 - 1)) 0 k = I 0 k := fun k z1 z2 => by rw [u2_k z1, u2_k z2, hr 0 (by omega)]
      have r1 : ∀ a, a ≠ 0 → a ≠ 42 → u2 (u2 I1 0 66 (nI ((nw + 20 - 1) % 20))) 0 65 (nI (g 0 6 - 1)) a = I a := fun a z1 z2 => by rw [u2_row z1, u2_row z1, hr a z2]
      have r42 : u2 (u2 I1 0 66 (nI ((nw + 20 - 1) % 20))) 0 65 (nI (g 0 6 - 1)) 42 = I1 42 := by rw [u2_row (by omega), u2_row (by omega)]
      have e6 : ∀ i k, ¬ (i = 0 ∧ k = 6) → up g 0 6 (g 0 6 - 1) i k = g i k := fun i k z => by unfold up; rw [if_neg z]
      have e66 : up g 0 6 (g 0 6 - 1) 0 6 = g 0 6 - 1 := by simp [up]
      obtain ⟨h1, h2, h3, h4, h5, h6, h7, h8, h9, h10, h11, h12, h13⟩ := id hM
      refine h _ _ ⟨h1.kept (fun a ha => r1 a (by omega) (by omega)) rfl, ⟨by rw [r42]; exact n1.ext hP (fun k hk => hj k (by omega)), n3.1, hP, h2.2.2.2.1, by have := n3.2.1; omega⟩, ⟨n3.2.1, n3.2.2⟩, by rw [r42]; exact n2.ext n3.1.2.2.2 (fun k _ hk => hj k hk), (r0 58 (by omega) (by omega)).trans h5, ?_, ?_, ?_, fun k hk' => ?_, ?_, ?_, ⟨?_, (nw + 20 - 1) % 20, by omega, ?_, fun i hi => ?_⟩, fun a ha k hk' => ?_⟩
      · unfold EnMT; rw [r0 1 (by omega) (by omega), r1 1 (by omega) (by omega), e6 0 0 (by omega)]
        refine ⟨h6.1, fun k hk' => ?_⟩
        rw [e6 1 k (by omega)]; exact h6.2 k hk'
      · unfold EnMR; rw [r0 60 (by omega) (by omega), r1 46 (by omega) (by omega), e6 0 3 (by omega)]
        refine ⟨h7.1, fun k hk' => ?_⟩
        rw [e6 4 _ (by omega), e6 4 _ (by omega)]; exact h7.2 k hk'
      · rw [r0 7 (by omega) (by omega), r0 8 (by omega) (by omega), e6 0 1 (by omega), e6 0 2 (by omega)]; exact h8
      · rw [r1 2 (by omega) (by omega), e6 2 _ (by omega)]; exact h9 k hk'
      · unfold EnMI; rw [r0 104 (by omega) (by omega), r1 78 (by omega) (by omega), e6 0 4 (by omega)]
        refine ⟨h10.1, fun k hk' => ?_⟩
        rw [e6 3 _ (by omega)]; exact h10.2 k hk'
      · rw [e6 0 5 (by omega)]; exact h11
      · rw [u2_at, e66]; exact ⟨rfl, by omega⟩
      · rw [u2_k (by omega), u2_at]
      · rw [e66] at hi ⊢
        rw [r1 49 (by omega) (by omega), show ((nw + 20 - 1) % 20 + 21 + i - (g 0 6 - 1)) % 20 = (nw + 21 + i - g 0 6) % 20 by omega]
        exact hU i (by omega)
      · rw [r1 a (by omega) (by omega)]; exact h13 a ha k hk'
    | succ e ih =>
      intro k I1 hk hr hj
      have ei : (132 : Int32) * nI nw + nI k = nI (132 * nw + k) := by rw [show (132 : Int32) = nI 132 from rfl, pk_mul, nI_add]
      refine bX13_undo_21 ⟨fun q => absurd ((nI_leI (a := 132) (by decide) (by omega)).mp q) (by omega), fun _ => ?_⟩
      rw [hr 0 (by omega), h66, ei, nI_clamp (by omega), nI_clamp (by omega), nI_1, hr 49 (by omega)]
      refine ⟨vp_in_nI (by omega) (by omega), vp_in_nI (by omega) (by omega), ih (k + 1) _ (by omega) (fun a ha => by rw [u2_row ha]; exact hr a ha) (fun j hj' => ?_)⟩
      by_cases z : j = k
      · rw [z, u2_at]
      · rw [u2_k z]; exact hj j (by omega)
  exact key 132 0 I (by omega) (fun _ _ => rfl) (fun j hj => absurd hj (by omega))
/-- only the row of now, and another state -/
theorem EnM.row {I1 : Ii} {s' : Sx} (hM : EnM I J sc L s ps g) (hr : ∀ a, a ≠ 42 → I1 a = I a) (hV : EnV I1 sc s') (hK : EnK (I1 42) s') (ho : okS sc s') : EnM I1 J sc L s' ps g :=
  hM.now ⟨fun a _ z _ _ _ _ _ => hr a z, fun k _ _ _ _ _ => by rw [hr 0 (by omega)], fun _ _ => rfl⟩ hV hK (by rw [hr 0 (by omega)]; exact hM.2.2.2.2.1) ho
theorem y_teach {v w : Int32} {K : KI} (hM : EnM I J sc L s ps g) (h : ∀ I' J', EnM I' J' sc L (s_tc sc s v w) (ps_tc sc s ps g v w) (g_tc sc s g v w) → K (b01 (tcq sc s v w)) I' J') : CalI wM (d + 2) mX13_teach [.ref 0, .int v, .int w] I J K := by
  obtain ⟨hC, hV, hy, -⟩ := id hM
  have hP := hV.2.2.1
  have no : tcq sc s v w = false → K 0 (u2 I 2 (2 : Int32).toNatClampNeg (I 2 (2 : Int32).toNatClampNeg + 1)) J := fun e => by
    unfold s_tc ps_tc g_tc at h
    rw [e] at h
    exact h _ _ (hM.rfu 2 (by omega))
  refine Cal.of (by decide) (Nat.le_of_ble_eq_true rfl) (bX13_teach_0 (m_isPerson (d := d) hC ⟨fun q => ?_, fun q => ?_⟩))
  · rw [b01_0] at q; exact no (by unfold tcq; simp [q])
  rw [b01_n] at q
  obtain ⟨ev, h8⟩ := isin_t q
  generalize hj : idx v = j at *
  have yes : ∀ c, c ≤ sc 0 1 → w = mI c → tcc w = c → tcq sc s v w = true → CalV wM (d + 1) mX13_keeps [.ref 0] I J (fun I12 J13 => (vp_in (1 + (5 * v)) 132 ∧ (K (1) (u2 I12 42 (1 + (5 * v)).toNatClampNeg w) J13))) := fun c hc ew et e => by
    refine m_keeps hM (fun I1 hM1 => ?_)
    rw [ev, ixP, nI_clamp (by omega), ew]
    refine ⟨vp_in_nI (by omega) (by omega), ?_⟩
    unfold s_tc ps_tc g_tc at h
    rw [e] at h
    rw [if_pos rfl, if_pos rfl, if_pos rfl, hj, et] at h
    have hnn : c = 0 ∨ (c ≠ j + 1 ∧ anc s j 8 (s 0 (c - 1)) = false) := by
      unfold tcq at e
      simp only [Bool.and_eq_true, Bool.or_eq_true, decide_eq_true_eq, Bool.not_eq_true'] at e
      rcases e.2 with z | ⟨z1, z2⟩
      · left
        rw [ew, mI_m1 (by omega)] at z
        exact z
      · by_cases c0 : c = 0
        · exact Or.inl c0
        · right
          obtain ⟨c', rfl⟩ : ∃ c', c = c' + 1 := ⟨c - 1, by omega⟩
          rw [ew, mI_s, idx_nI (by omega), hj] at z1
          rw [ew, mI_s, idx_nI (by omega), hj] at z2
          exact ⟨by omega, by rw [Nat.add_sub_cancel]; exact z2⟩
    have hW := up0_WFS (p := j) (c := c) hV.2.1 h8 hc
    have ho : okS sc (up s 0 j c) := ⟨hW, by simpa [up] using hy.1, acy_up hy.2 (by omega) (by omega) hnn⟩
    refine h _ _ (hM1.row (fun a ha => u2_row ha) ⟨?_, hW, hP, hV.2.2.2.1, by simpa [up] using hV.2.2.2.2⟩ ?_ ho)
    · have := hM1.2.1.1.upd 0 j c (by omega)
      rw [if_pos rfl] at this
      exact this
    · exact hM1.2.2.2.1.cong (fun k hk => u2_k (by omega)) (by simp [up]) (by funext i; simp [up])
  have hb := hV.b (p := j) (by omega)
  refine ⟨fun q1 => ?_, fun q1 => m_isPerson (d := d) hC ⟨fun q2 => ?_, fun q2 => ?_⟩⟩
  · rw [ev]
    refine m_masterOf hV h8 ⟨fun q3 => ?_, fun q3 => ?_⟩
    · rw [← ev]
      refine yes 0 (by omega) (by rw [q1]; rfl) (by unfold tcc; rw [if_pos q1]) ?_
      unfold tcq
      rw [hj]
      simp only [Bool.and_eq_true, Bool.or_eq_true, decide_eq_true_eq]
      exact ⟨⟨⟨q, Or.inl q1⟩, fun z => q3 z.symm⟩, Or.inl q1⟩
    · refine no ?_
      unfold tcq
      rw [hj]
      have : ¬ w ≠ mI (s 0 j) := fun z => z q3.symm
      simp [this]
  · rw [b01_0] at q2
    exact no (by unfold tcq; simp [q1, q2])
  · rw [b01_n] at q2
    obtain ⟨ew, hw8⟩ := isin_t q2
    generalize hi : idx w = i at *
    have ewi : w = mI (i + 1) := by rw [mI_s]; exact ew
    rw [ev, ew]
    refine m_taughtBy (d := d) hV hy.2 (by omega) hw8 ⟨fun q3 => ?_, fun q3 => m_masterOf hV h8 ⟨fun q4 => ?_, fun q4 => ?_⟩⟩
    · rw [b01_n] at q3
      refine no ?_
      unfold tcq
      rw [hj, hi]
      simp only [Bool.or_eq_true, decide_eq_true_eq] at q3
      have : (decide (w = -1) || (decide (i ≠ j) && !(anc s j 8 (s 0 i)))) = false := by
        rcases q3 with z | z <;> simp [z, q1]
      rw [this]; simp
    · rw [b01_0] at q3
      simp only [Bool.or_eq_false_iff, decide_eq_false_iff_not] at q3
      rw [← ev, ← ew]
      refine yes (i + 1) (by omega) ewi (by unfold tcc; rw [if_neg q1, hi]) ?_
      unfold tcq
      rw [hj, hi]
      simp only [Bool.and_eq_true, Bool.or_eq_true, decide_eq_true_eq, Bool.not_eq_true']
      exact ⟨⟨⟨q, Or.inr q2⟩, fun z => q4 (by rw [← ew]; exact z.symm)⟩, Or.inr ⟨q3.1, q3.2⟩⟩
    · refine no ?_
      unfold tcq
      rw [hj]
      have : ¬ w ≠ mI (s 0 j) := fun z => z (by rw [ew]; exact q4.symm)
      simp [this]
theorem blv_5 (s : Sx) (p f b : Nat) : blv s p f b 5 = s 5 ∧ blv s p f b 4 = s 4 := ⟨blv_m _ _ _ _ _ (by omega) (by omega), blv_m _ _ _ _ _ (by omega) (by omega)⟩
theorem y_tell {v w : Int32} {K : KI} (hM : EnM I J sc L s ps g) (h : ∀ I' J', EnM I' J' sc L (s_tl sc s v w) (ps_tl sc s ps g v w) (g_tl sc s g v w) → K (b01 (tlq sc s v w)) I' J') : CalI wM (d + 2) mX13_tell [.ref 0, .int v, .int w] I J K := by
  obtain ⟨hC, hV, hy, -⟩ := id hM
  have hP := hV.2.2.1
  have hF := hV.2.2.2.1
  have no : tlq sc s v w = false → K 0 (u2 I 2 (2 : Int32).toNatClampNeg (I 2 (2 : Int32).toNatClampNeg + 1)) J := fun e => by
    unfold s_tl ps_tl g_tl at h
    rw [e] at h
    exact h _ _ (hM.rfu 2 (by omega))
  refine Cal.of (by decide) (Nat.le_of_ble_eq_true rfl) (bX13_tell_0 (m_isPerson (d := d) hC ⟨fun q => ?_, fun q => m_isFact (d := d) hC ⟨fun q2 => ?_, fun q2 => ?_⟩⟩))
  · rw [b01_0] at q; exact no (by unfold tlq; simp [q])
  · rw [b01_0] at q2; exact no (by unfold tlq; simp [q2])
  rw [b01_n] at q q2
  obtain ⟨ev, h8⟩ := isin_t q
  obtain ⟨ew, hw8⟩ := isin_t q2
  have et : tlq sc s v w = decide (bq (s 1 (idx v)) (idx w) = 0) := by unfold tlq; simp [q, q2]
  generalize hj : idx v = j at *
  generalize hi : idx w = i at *
  rw [ev, ew]
  refine m_isOf (d := d) hV h8 (by omega) ?_
  rcases bq01 (s 1 j) i with z | z
  · have hb : bel s j i ≠ 1 := by unfold bel; rw [z]; simp; split <;> omega
    rw [z] at et
    refine ⟨fun _ => m_keeps hM (fun I1 hM1 => m_makes (b := 1) hM1.2.1 h8 hw8 (Or.inl rfl) (fun I2 hV2 f2 h2 => ?_)), fun y => absurd ((nI_eq (b := 1) (by have := bel3 s j i; omega) (by decide)).mp y) hb⟩
    have et2 : tlq sc s v w = true := by rw [et]; rfl
    unfold s_tl ps_tl g_tl at h
    rw [et2, if_pos rfl, if_pos rfl, if_pos rfl, hj, hi] at h
    refine h I2 J (hM1.row f2 hV2 (hM1.2.2.2.1.cong h2 (by rw [(blv_5 _ _ _ _).2]) (blv_5 _ _ _ _).1) ⟨hV2.2.1, by rw [(blv_5 _ _ _ _).2]; exact hy.1, acy_cong (s := s) (blv_m _ _ _ _ 0 (by omega) (by omega)).symm hy.2⟩)
  · have hb : bel s j i = 1 := by unfold bel; rw [z]; rfl
    rw [z] at et
    rw [hb]
    exact ⟨fun y => absurd rfl y, fun _ => no et⟩
theorem m_isAhead1 {v : Int32} {K : KI} (hV : EnV I sc s) (hy : s 4 0 ≤ 999) (h : K (b01 (crq s v)) I J) : CalI wM (d + 1) mX13_isAhead [.ref 0, .int v, .int 1, .int 100] I J K := by
  refine Cal.of (by decide) (Nat.le_of_ble_eq_true rfl) (bX13_isAhead_0 (m_isIn ?_))
  rw [Jvm.Kit.i64_of_i32, Jvm.Kit.i64_of_i32, Jvm.Kit.i64_of_i32, t_1, show (100 : Int32).toInt = 100 by decide]
  unfold crq at h
  by_cases e : 1 ≤ v.toInt ∧ v.toInt ≤ 100
  · rw [decide_eq_true e]
    have ev : v = nI (idx v) := nI_idx (by omega)
    have hl : 1 ≤ idx v ∧ idx v ≤ 100 := by unfold idx; omega
    have e1 : isin v 101 = true := by unfold isin; simp; omega
    rw [e1, decide_eq_true hl.1] at h
    refine ⟨fun q => absurd q (by decide), fun _ => ?_⟩
    rw [c0, hV.1.1]
    have e2 : nI (s 4 0) + v = nI (s 4 0 + idx v) := by rw [ev, nI_add]; congr 2; rw [← ev]
    rw [e2]
    refine ⟨fun q => ?_, fun q => ?_⟩
    · have := (nI_ltI (a := 999) (by decide) (by omega)).mp q
      rw [decide_eq_false (by omega)] at h
      exact h
    · have : ¬ 999 < s 4 0 + idx v := fun z => q (nI_lt (a := 999) z (by omega))
      rw [decide_eq_true (by omega)] at h
      exact h
  · rw [decide_eq_false e]
    have e1 : (isin v 101 && decide (1 ≤ idx v)) = false := by
      unfold isin idx
      by_cases z : 0 ≤ v.toInt ∧ v.toInt < (101 : Nat)
      · rw [decide_eq_true z, decide_eq_false (by omega)]; rfl
      · rw [decide_eq_false z]; rfl
    rw [e1] at h
    exact ⟨fun _ => h, fun q => absurd rfl q⟩
theorem y_years {v : Int32} {K : KI} (hM : EnM I J sc L s ps g) (h : ∀ I' J', EnM I' J' sc L (s_ye sc L s v) (ps_ye s ps g v) (g_ye s g v) → K (r_years sc L s v) I' J') : CalI wM (d + 8) mX13_years [.ref 0, .int v] I J K := by
  obtain ⟨hC, hV, hy, -⟩ := id hM
  have hP := hV.2.2.1
  have hF := hV.2.2.2.1
  unfold s_ye ps_ye g_ye r_years at h
  refine Cal.of (by decide) (Nat.le_of_ble_eq_true rfl) (bX13_years_0 (m_isAhead1 (d := d + 6) hV hy.1 ⟨fun q => ?_, fun q => ?_⟩))
  case refine_2 =>
    rw [b01_0] at q
    rw [q] at h
    exact h _ _ (hM.rfu 3 (by omega))
  rw [b01_n] at q
  obtain ⟨ev, h100, -, hyn⟩ := crq_t q
  rw [q, if_pos rfl, if_pos rfl, if_pos rfl, if_pos rfl] at h
  generalize hj : idx v = j at *
  subst ev
  refine m_keeps hM (fun I1 hM1 => ?_)
  have r1 : ∀ a, a ≠ 0 → u2 I1 0 59 0 a = I1 a := fun a ha => u2_row ha
  refine m_years (d := d) (th := false) (R0 := I 42) (s := s) (sc := sc) (L := L) (hM1.1.kept (fun a ha => r1 a (by omega)) rfl) (hM1.2.1.row (r1 42 (by omega))) (by rw [u2_k (by omega)]; exact hM1.2.2.2.2.1) (by rw [r1 42 (by omega)]; exact hM1.2.2.2.1) (by omega) (fun I2 J2 hV2 hK2 f2 e59 => ?_)
  rw [e59, u2_at]
  have e0 : (0 : Int32) + nI (ypn sc L s j) = nI (ypn sc L s j) := Int32.zero_add _
  rw [e0]
  refine h I2 J2 (hM1.now (FrZ.trans ⟨fun a z _ _ _ _ _ _ => r1 a z, fun k _ _ _ z _ => u2_k z, fun _ _ => rfl⟩ f2.Z) hV2 hK2 ?_ (yrs_ok hF hP hM.ok hyn))
  rw [f2.2.1 58 (by omega) (by omega) (by omega) (by omega), u2_k (by omega)]
  exact hM1.2.2.2.2.1
/-- the next that is drawn -/
theorem m_drawOf {x : Nat} {K : KI} (hx : J 0 67 = lN x) (hl : x < 2 ^ 31) (h : K (nI (nx x / 64 % 100)) I (w2 J 0 67 (lN (nx x)))) : CalI wM d mX13_drawOf [.ref 0, .int 100] I J K := by
  refine Cal.of (by decide) (Nat.le_of_ble_eq_true rfl) (bX13_drawOf_0 ?_)
  have e1 : (1103515245 : Int64) * lN x + 12345 = lN (1103515245 * x + 12345) := by
    rw [show (1103515245 : Int64) = lN 1103515245 from rfl, show (12345 : Int64) = lN 12345 from rfl, lN_mul, lN_add]
  have hb : 1103515245 * x + 12345 < 2 ^ 62 := by omega
  have rem : ∀ a m : Nat, a < 2 ^ 62 → 0 < m → m < 2 ^ 62 → lN a - lN a / lN m * lN m = lN (a % m) := fun a m ha h0 hm => by
    apply i64_ext
    rw [Jvm.Kit.i64_rem_nonneg (by rw [pk_lT (by omega)]; omega), pk_lT (by omega), pk_lT (by omega), pk_lT (by have := Nat.mod_lt a h0; omega)]
    omega
  have div : ∀ a m : Nat, a < 2 ^ 62 → 0 < m → m < 2 ^ 62 → lN a / lN m = lN (a / m) := fun a m ha h0 hm => by
    apply i64_ext
    rw [Jvm.Kit.i64_div (by rw [pk_lT (by omega)]; omega), pk_lT (by omega), pk_lT (by omega), pk_lT (by have := Nat.div_le_self a m; omega), Int.tdiv_eq_ediv_of_nonneg (by omega)]
    rfl
  rintro _ rfl
  have hn : nx x < 2147483648 := Nat.mod_lt _ (by omega)
  rw [w2_at, hx, e1, show (2147483648 : Int64) = lN 2147483648 from rfl, rem _ _ hb (by omega) (by omega), show (64 : Int64) = lN 64 from rfl, show (1103515245 * x + 12345) % 2147483648 = nx x from rfl, div _ _ (by omega) (by omega) (by omega), show (100 : Int32).toInt64 = lN 100 by decide, rem _ _ (by omega) (by omega) (by omega), lN_i]
  exact ⟨by decide, h⟩
theorem EnM.seedy {x : Nat} (hM : EnM I J sc L s ps g) (hx : x < 2 ^ 31) : EnM I (w2 J 0 67 (lN x)) sc L s ps (up g 0 5 x) := by
  obtain ⟨h1, h2, h3, h4, h5, h6, h7, h8, h9, h10, h11, h12, h13⟩ := id hM
  refine (hM.re (fun _ _ _ _ _ _ => rfl) rfl rfl rfl ?_ (by simp [up]) ?_ ?_ ?_ (fun k hk => ?_) ?_ ⟨?_, ?_⟩)
  · funext k; rw [w2_o (by omega)]
  · simpa [up, EnMT] using h6
  · simpa [up, EnMR] using h7
  · simpa [up] using h8
  · simpa [up] using h9 k hk
  · simpa [up, EnMI] using h10
  · rw [w2_at]; simp [up]
  · simp [up]; exact hx
theorem y_chance {v : Int32} {K : KI} (hM : EnM I J sc L s ps g) (h : ∀ I' J', EnM I' J' sc L (s_ch sc L s g v) (ps_ye s ps g v) (g_ch sc L s g v) → K (r_chance sc L s g v) I' J') : CalI wM (d + 7) mX13_chance [.ref 0, .int v] I J K := by
  obtain ⟨hC, hV, hy, -⟩ := id hM
  have hP := hV.2.2.1
  have hF := hV.2.2.2.1
  unfold s_ch ps_ye g_ch r_chance at h
  refine Cal.of (by decide) (Nat.le_of_ble_eq_true rfl) (bX13_chance_0 (m_isAhead1 (d := d + 5) hV hy.1 ⟨fun q => ?_, fun q => ?_⟩))
  case refine_2 =>
    rw [b01_0] at q
    rw [q] at h
    exact h _ _ (hM.rfu 3 (by omega))
  rw [b01_n] at q
  obtain ⟨ev, h100, -, hyn⟩ := crq_t q
  rw [q, if_pos rfl, if_pos rfl, if_pos rfl, if_pos rfl] at h
  generalize hj : idx v = j at *
  subst ev
  have hx0 : g 0 5 < 2 ^ 31 := hM.2.2.2.2.2.2.2.2.2.2.1.2
  generalize hps : ps_r s ps g = ps1 at *
  have hcl : ∀ k, (chs sc L s (g 0 5) k).2.1 < 2 ^ 31 := by
    intro k
    induction k with
    | zero => exact hx0
    | succ k ih => exact sd_lt ih _
  have hci : ∀ k, (chs sc L s (g 0 5) k).2.2 ≤ 8 * k := by
    intro k
    induction k with
    | zero => simp [chs]
    | succ k ih => have := pc8_le (ilm sc (chs sc L s (g 0 5) k).2.1); simp only [chs]; omega
  have outer : ∀ e k I1 J1, k + e = j → EnM I1 J1 sc L (chs sc L s (g 0 5) k).1 ps1 (up (g_r g) 0 5 (chs sc L s (g 0 5) k).2.1) → GoI wM (d + 6 + 1) mX13_chance 31 [(0, .ref 0), (1, .int (nI j)), (2, .int (nI (chs sc L s (g 0 5) k).2.2)), (3, .int (nI k))] [] I1 J1 K := by
    intro e
    induction e with
    | zero =>
      intro k I1 J1 hk hM1
      obtain rfl : k = j := by omega
      exact bX13_chance_31 ⟨fun _ => h I1 J1 hM1, fun q => absurd (nI_le (Nat.le_refl _) (by omega)) q⟩
    | succ e ih =>
      intro k I1 J1 hk hM1
      refine bX13_chance_31 ⟨fun q => absurd ((nI_leI (by omega) (by omega)).mp q) (by omega), fun _ => ?_⟩
      have hck := chs_ok (L := L) (x := g 0 5) hF hP hM.ok k (by omega)
      generalize hst : (chs sc L s (g 0 5) k).1 = t at *
      generalize hxx : (chs sc L s (g 0 5) k).2.1 = x at *
      have hxl : x < 2 ^ 31 := by rw [← hxx]; exact hcl k
      have inner : ∀ e2 i I2 J2, i + e2 = sc 0 1 → EnM I2 J2 sc L t ps1 (up (g_r g) 0 5 (sd x i)) → GoI wM (d + 6 + 1) mX13_chance 42 [(0, .ref 0), (1, .int (nI j)), (2, .int (nI (chs sc L s (g 0 5) k).2.2)), (3, .int (nI k)), (4, .int (nI (msk (fun k => decide (sd x (k + 1) / 64 % 100 < sc 0 4)) i))), (5, .int (nI i))] [] I2 J2 K := by
        intro e2
        induction e2 with
        | zero =>
          intro i I2 J2 hi hM2
          obtain rfl : i = sc 0 1 := by omega
          have hil := ilm_lt hP x
          refine bX13_chance_42 (m_pm hM2.1 ⟨fun _ => m_bits hil ?_, fun q => absurd (nI_le (Nat.le_refl _) (by omega)) q⟩)
          refine m_year (d := d) (th := false) (R0 := I 42) (aw := ilm sc x) hM2.1 hM2.2.1 hM2.2.2.2.2.1 hM2.2.2.2.1 hil (by omega) (fun I3 J3 hV3 hK3 f3 _ => ?_)
          rw [nI_add, nI_1]
          have hih := ih (k + 1) I3 J3 (by omega)
          simp only [chs] at hih
          rw [hst, hxx] at hih
          refine hih (hM2.now f3.Z hV3 hK3 ?_ ?_)
          · rw [f3.2.1 58 (by omega) (by omega) (by omega) (by omega)]; exact hM2.2.2.2.2.1
          · have := (chs_ok (L := L) (x := g 0 5) hF hP hM.ok (k + 1) (by omega)).1
            simp only [chs] at this
            rw [hst, hxx] at this
            exact this
        | succ e2 ih2 =>
          intro i I2 J2 hi hM2
          have hsl := sd_lt hxl i
          have e67 := hM2.2.2.2.2.2.2.2.2.2.2.1.1
          have e5 : up (g_r g) 0 5 (sd x i) 0 5 = sd x i := by simp [up]
          rw [e5] at e67
          refine bX13_chance_42 (m_pm hM2.1 ⟨fun q => absurd ((nI_leI (by omega) (by omega)).mp q) (by omega), fun _ => m_drawOf e67 hsl ?_⟩)
          rw [c5, hM2.1.2.2.2.2.1.1, nI_1]
          have hil := hC.2.2.2.2.1.2
          have hM3 := hM2.seedy (x := sd x (i + 1)) (sd_lt hxl _)
          rw [up_up] at hM3
          refine ⟨fun q => ?_, fun q => ?_⟩
          · have hq := (nI_leI (by omega) (by have := Nat.mod_lt (nx (sd x i) / 64) (show 0 < 100 by omega); omega)).mp q
            have hq' : sc 0 4 ≤ sd x (i + 1) / 64 % 100 := hq
            rw [msk_no _ (by simpa using hq')]
            exact ih2 (i + 1) I2 _ (by omega) hM3
          · have hq : ¬ sc 0 4 ≤ nx (sd x i) / 64 % 100 := fun z => q (nI_le z (by have := Nat.mod_lt (nx (sd x i) / 64) (show 0 < 100 by omega); omega))
            rw [msk_or _ (by omega) (by simp; exact Nat.lt_of_not_le hq)]
            exact ih2 (i + 1) I2 _ (by omega) hM3
      exact inner (sc 0 1) 0 I1 J1 (by omega) hM1
  refine m_keeps hM (fun I1 hM1 => ?_)
  refine outer j 0 I1 J (by omega) ?_
  rw [hps] at hM1
  have e5 : up (g_r g) 0 5 (chs sc L s (g 0 5) 0).2.1 = g_r g := by
    show up (g_r g) 0 5 (g 0 5) = g_r g
    rw [← g_r_o g 0 5 (by omega), up_same]
  rw [e5]
  exact hM1
end MB

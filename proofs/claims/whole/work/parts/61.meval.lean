/-! the reference: a code's value -/
def ploL (R : Nat → Int64) (st : List Int) : Prop := ∀ i, i < st.length → R i = lI (st.getD (st.length - 1 - i) 0)
theorem ploL_push {R R' : Nat → Int64} {st : List Int} {v : Int} (h : ploL R st) (hv : R' st.length = lI v) (hk : ∀ i, i < st.length → R' i = R i) : ploL R' (v :: st) := by
  intro i hi
  simp only [List.length_cons] at hi ⊢
  by_cases e : i = st.length
  · subst e
    rw [hv, show st.length + 1 - 1 - st.length = 0 by omega]
    rfl
  · rw [hk i (by omega), h i (by omega), show st.length + 1 - 1 - i = (st.length - 1 - i) + 1 by omega, List.getD_cons_succ]
theorem ploL_top {R : Nat → Int64} {st : List Int} {v : Int} (h : ploL R (v :: st)) : R st.length = lI v := by
  have := h st.length (by simp)
  rw [this]
  simp
theorem ploL_tail {R : Nat → Int64} {st : List Int} {v : Int} (h : ploL R (v :: st)) : ploL R st := by
  intro i hi
  have := h i (by simp; omega)
  rw [this]
  simp only [List.length_cons]
  rw [show st.length + 1 - 1 - i = (st.length - 1 - i) + 1 by omega, List.getD_cons_succ]
section MB
variable {d : Nat} {I : Ii} {J : Jj} {sc s : Sx} {L : Nat → List Nat} {p f : Nat}
theorem m_qPuts {n : Nat} {x : Int64} {K : KV} (hn : I 0 100 = nI n) (h17 : n < 1700) (h : K (u2 I 0 100 (nI (n + 1))) (w2 J 77 n x)) : CalV wM d mX13_qPuts [.ref 0, .long x] I J K := by
  refine Cal.of (by decide) (Nat.le_of_ble_eq_true rfl) (bX13_qPuts_0 ?_)
  rw [hn, nI_clamp (by omega), nI_1]
  exact ⟨vp_in_nI h17 (by omega), h⟩
theorem lI_leB {a b : Int} (ha : -1000000000000 ≤ a ∧ a ≤ 1000000000000) (hb : -1000000000000 ≤ b ∧ b ≤ 1000000000000) : lI a ≤ lI b ↔ a ≤ b := by rw [Int64.le_iff_toInt_le, lI_t (by omega) (by omega), lI_t (by omega) (by omega)]
theorem m_qClip {z : Int} {K : KL} (hz : -1000000000000 ≤ z ∧ z ≤ 1000000000000) (h : K (lI (clp z)) I J) : CalL wM d mX13_qClip [.long (lI z)] I J K := by
  refine Cal.of (by decide) (Nat.le_of_ble_eq_true rfl) (bX13_qClip_0 ?_)
  rw [lgc_le, lgc_ge, show (-1000000 : Int64) = lI (-1000000) by decide, show (1000000 : Int64) = lI 1000000 by decide, lI_leB hz (by omega), lI_leB (by omega) hz]
  unfold clp at h
  refine ⟨fun q => ⟨fun q2 => ?_, fun q2 => ?_⟩, fun q => ?_⟩
  · rw [if_neg (by omega), if_neg (by omega)] at h; exact h
  · rw [if_neg (by omega), if_pos (by omega)] at h; exact h
  · rw [if_pos (by omega)] at h; exact h
theorem m_qFloor {a b : Int} {K : KL} (ha : sm a) (hb : sm b) (h : K (lI (fdv a b)) I J) : CalL wM d mX13_qFloor [.long (lI a), .long (lI b)] I J K := by
  have hta : (lI a).toInt = a := lI_t (by have := ha.1; omega) (by have := ha.2; omega)
  have htb : (lI b).toInt = b := lI_t (by have := hb.1; omega) (by have := hb.2; omega)
  have hsm := fdv_sm ha hb
  refine Cal.of (by decide) (Nat.le_of_ble_eq_true rfl) (bX13_qFloor_0 ?_)
  rw [lgc_eq, lgc_eq, lgc_ge, lgc_ge]
  have e0 : ∀ z : Int, sm z → (lI z = 0 ↔ z = 0) := fun z hz => by rw [show (0 : Int64) = lI 0 by decide]; exact lI_eqB (by unfold sm at hz; omega) (by omega)
  have g0 : ∀ z : Int, sm z → (0 ≤ lI z ↔ 0 ≤ z) := fun z hz => by rw [show (0 : Int64) = lI 0 by decide]; exact lI_leB (by omega) (by unfold sm at hz; omega)
  rw [e0 b hb, g0 a ha, g0 b hb]
  refine ⟨fun q => ?_, fun q => ?_⟩
  · unfold fdv at h hsm
    rw [if_neg q] at h hsm
    have hq : (lI a / lI b).toInt = a.tdiv b := by rw [Jvm.Kit.i64_div (by rw [hta]; unfold sm at ha; omega), hta, htb]
    have hr : (lI a - lI a / lI b * lI b).toInt = a.tmod b := by rw [Jvm.Kit.i64_rem, hta, htb]
    have hr0 : (lI a - lI a / lI b * lI b = 0) ↔ b ∣ a := by
      rw [Int.dvd_iff_tmod_eq_zero, ← hr, ← Int64.toInt_inj]
      rfl
    rw [hr0]
    have hfin : ∀ x : Int64, x.toInt = a.fdiv b → K x I J := fun x e => by
      have : x = lI (a.fdiv b) := i64_ext (by rw [e, lI_t (by unfold sm at hsm; omega) (by unfold sm at hsm; omega)])
      rw [this]; exact h
    have hb1 : (a.tdiv b).natAbs ≤ a.natAbs := by rw [Int.natAbs_tdiv]; exact Nat.div_le_self _ _
    have hm1 : (lI a / lI b - 1).toInt = a.tdiv b - 1 := by
      have e1' : ((1 : Int64)).toInt = 1 := by decide
      unfold sm at ha
      rw [Jvm.Kit.i64_sub (by rw [hq, e1']; omega) (by rw [hq, e1']; omega), hq, e1']
    have hf := Int.fdiv_eq_tdiv (a := a) (b := b)
    have sg1 : 0 < b → b.sign = 1 := Int.sign_eq_one_of_pos
    have sg2 : b < 0 → b.sign = -1 := Int.sign_eq_neg_one_of_neg
    refine ⟨fun z => q z, fun z => q z, fun q2 => hfin _ ?_, fun q2 => ⟨fun q3 => ⟨fun q4 => hfin _ ?_, fun q4 => hfin _ ?_⟩, fun q3 => ⟨fun q4 => hfin _ ?_, fun q4 => hfin _ ?_⟩⟩⟩
    · rw [if_pos q2] at hf; rw [hq, hf]; omega
    · rw [if_neg q2, if_pos q3, if_pos q4] at hf; rw [hq, hf]; omega
    · rw [if_neg q2, if_pos q3, if_neg q4] at hf; rw [hm1, hf]
    · rw [if_neg q2, if_neg q3, if_pos q4, sg1 (by omega)] at hf; rw [hm1, hf]
    · rw [if_neg q2, if_neg q3, if_neg q4, sg2 (by omega)] at hf; rw [hq, hf]; omega
  · unfold fdv at h
    rw [if_pos q] at h
    exact h
theorem okj_sm {c : Nat} {a b : Int} (h : okj c a b) : sm a ∧ sm b := by
  unfold okj at h
  split at h
  · exact h
  · exact ⟨sm01 h.1, sm01 h.2⟩
theorem sm_B {a : Int} (h : sm a) : -1000000000000 ≤ a ∧ a ≤ 1000000000000 := by unfold sm at h; omega
/-- the two on top, joined -/
theorem m_qJoins {c : Nat} {a b : Int} {st : List Int} {K : KV} (h1 : 1 ≤ c) (h2 : c ≤ 11) (hab : okj c a b) (hl : st.length < 1600) (hn : I 0 100 = nI (st.length + 2)) (hp : ploL (J 77) (b :: a :: st)) (h : ∀ I' J', ploL (J' 77) (jn c a b :: st) → I' 0 100 = nI (st.length + 1) → (∀ a, a ≠ 0 → I' a = I a) → (∀ k, k ≠ 100 → I' 0 k = I 0 k) → (∀ a, a ≠ 77 → J' a = J a) → K I' J') : CalV wM (d + 1) mX13_qJoins [.ref 0, .int (nI c)] I J K := by
  have hs := okj_sm hab
  have ta := ploL_top hp
  have tb := ploL_top (ploL_tail hp)
  simp only [List.length_cons] at ta
  have e1 : nI (st.length + 2) - 1 = nI (st.length + 1) := nI_pred _
  have e2 : nI (st.length + 2) - 2 = nI st.length := by rw [show (2 : Int32) = nI 2 from rfl, pk_sub (by omega), show st.length + 2 - 2 = st.length by omega]
  have fin : ∀ (x : Int64), x = lI (jn c a b) → CalV wM d mX13_qPuts [.ref 0, .long x] (u2 I 0 100 (nI st.length)) J (fun I' J' => K I' J') := fun x e => by
    refine m_qPuts (n := st.length) (u2_at _ _ _ _) (by omega) (h _ _ (ploL_push (ploL_tail (ploL_tail hp)) (by rw [w2_at, e]) (fun i hi => by rw [w2_k (by omega)])) (u2_at _ _ _ _) (fun q hq => by rw [u2_row hq, u2_row hq]) (fun k hk => by rw [u2_k hk, u2_k hk]) (fun q hq => ?_))
    funext j
    rw [w2_o hq]
  refine Cal.of (by decide) (Nat.le_of_ble_eq_true rfl) (bX13_qJoins_0 ?_)
  rw [hn, e1, e2, nI_clamp (by omega), nI_clamp (by omega), ta, tb]
  refine ⟨vp_in_nI (by omega) (by omega), ?_⟩
  rintro _ rfl
  refine ⟨vp_in_nI (by omega) (by omega), ?_⟩
  rintro _ rfl _ rfl
  rw [lgc_ge, lgc_le, lgc_le, lgc_eq]
  rw [lI_leB (sm_B hs.2) (sm_B hs.1), lI_leB (sm_B hs.1) (sm_B hs.2), lI_eqB (sm_B hs.1) (sm_B hs.2)]
  have hm := sm_mul hs.1 hs.2
  have hs1 := hs.1
  have hs2 := hs.2
  unfold sm at hs1 hs2
  rcases (show c = 1 ∨ c = 2 ∨ c = 3 ∨ c = 4 ∨ c = 5 ∨ c = 6 ∨ c = 7 ∨ c = 8 ∨ c = 9 ∨ c = 10 ∨ c = 11 by omega) with rfl | rfl | rfl | rfl | rfl | rfl | rfl | rfl | rfl | rfl | rfl
  · refine ⟨fun _ => ?_, fun y => absurd y (by decide), fun y => absurd y (by decide), fun y => absurd y (by decide), fun y => absurd y (by decide), fun y => absurd y (by decide), fun y => absurd y (by decide), fun y => absurd y (by decide), fun y => absurd y (by decide), fun y => absurd y (by decide), fun y => absurd rfl y⟩
    rw [lI_add hs.1 hs.2]
    exact m_qClip (by omega) (fin _ rfl)
  · refine ⟨fun y => absurd y (by decide), fun _ => ?_, fun y => absurd y (by decide), fun y => absurd y (by decide), fun y => absurd y (by decide), fun y => absurd y (by decide), fun y => absurd y (by decide), fun y => absurd y (by decide), fun y => absurd y (by decide), fun y => absurd y (by decide), fun _ y => absurd rfl y⟩
    rw [lI_sub hs.1 hs.2]
    exact m_qClip (by omega) (fin _ rfl)
  · refine ⟨fun y => absurd y (by decide), fun y => absurd y (by decide), fun _ => ?_, fun y => absurd y (by decide), fun y => absurd y (by decide), fun y => absurd y (by decide), fun y => absurd y (by decide), fun y => absurd y (by decide), fun y => absurd y (by decide), fun y => absurd y (by decide), fun _ _ y => absurd rfl y⟩
    rw [lI_mul hs.1 hs.2]
    exact m_qClip hm (fin _ rfl)
  · refine ⟨fun y => absurd y (by decide), fun y => absurd y (by decide), fun y => absurd y (by decide), fun _ => ?_, fun y => absurd y (by decide), fun y => absurd y (by decide), fun y => absurd y (by decide), fun y => absurd y (by decide), fun y => absurd y (by decide), fun y => absurd y (by decide), fun _ _ _ y => absurd rfl y⟩
    exact m_qFloor hs.1 hs.2 (fin _ rfl)
  · refine ⟨fun y => absurd y (by decide), fun y => absurd y (by decide), fun y => absurd y (by decide), fun y => absurd y (by decide), fun _ => ?_, fun y => absurd y (by decide), fun y => absurd y (by decide), fun y => absurd y (by decide), fun y => absurd y (by decide), fun y => absurd y (by decide), fun _ _ _ _ y => absurd rfl y⟩
    exact ⟨fun q => fin _ (by simp only [jn]; rw [if_neg (by omega)]), fun q => fin _ (by simp only [jn]; rw [if_pos (by omega)])⟩
  · refine ⟨fun y => absurd y (by decide), fun y => absurd y (by decide), fun y => absurd y (by decide), fun y => absurd y (by decide), fun y => absurd y (by decide), fun _ => ?_, fun y => absurd y (by decide), fun y => absurd y (by decide), fun y => absurd y (by decide), fun y => absurd y (by decide), fun _ _ _ _ _ y => absurd rfl y⟩
    exact ⟨fun q => fin _ (by simp only [jn]; rw [if_neg (by omega)]), fun q => fin _ (by simp only [jn]; rw [if_pos (by omega)])⟩
  · refine ⟨fun y => absurd y (by decide), fun y => absurd y (by decide), fun y => absurd y (by decide), fun y => absurd y (by decide), fun y => absurd y (by decide), fun y => absurd y (by decide), fun _ => ?_, fun y => absurd y (by decide), fun y => absurd y (by decide), fun y => absurd y (by decide), fun _ _ _ _ _ _ y => absurd rfl y⟩
    exact ⟨fun q => fin _ (by simp only [jn]; rw [if_neg (by omega)]; decide), fun q => fin _ (by simp only [jn]; rw [if_pos (by omega)]; decide)⟩
  · refine ⟨fun y => absurd y (by decide), fun y => absurd y (by decide), fun y => absurd y (by decide), fun y => absurd y (by decide), fun y => absurd y (by decide), fun y => absurd y (by decide), fun y => absurd y (by decide), fun _ => ?_, fun y => absurd y (by decide), fun y => absurd y (by decide), fun _ _ _ _ _ _ _ y => absurd rfl y⟩
    exact ⟨fun q => fin _ (by simp only [jn]; rw [if_neg (by omega)]; decide), fun q => fin _ (by simp only [jn]; rw [if_pos (by omega)]; decide)⟩
  · refine ⟨fun y => absurd y (by decide), fun y => absurd y (by decide), fun y => absurd y (by decide), fun y => absurd y (by decide), fun y => absurd y (by decide), fun y => absurd y (by decide), fun y => absurd y (by decide), fun y => absurd y (by decide), fun _ => ?_, fun y => absurd y (by decide), fun _ _ _ _ _ _ _ _ y => absurd rfl y⟩
    exact ⟨fun q => fin _ (by simp only [jn]; rw [if_neg q]; decide), fun q => fin _ (by simp only [jn]; rw [if_pos q]; decide)⟩
  · refine ⟨fun y => absurd y (by decide), fun y => absurd y (by decide), fun y => absurd y (by decide), fun y => absurd y (by decide), fun y => absurd y (by decide), fun y => absurd y (by decide), fun y => absurd y (by decide), fun y => absurd y (by decide), fun y => absurd y (by decide), fun _ => ?_, fun _ _ _ _ _ _ _ _ _ y => absurd rfl y⟩
    exact fin _ (by simp only [jn]; exact lI_mul hs.1 hs.2)
  · refine ⟨fun y => absurd y (by decide), fun y => absurd y (by decide), fun y => absurd y (by decide), fun y => absurd y (by decide), fun y => absurd y (by decide), fun y => absurd y (by decide), fun y => absurd y (by decide), fun y => absurd y (by decide), fun y => absurd y (by decide), fun y => absurd y (by decide), fun _ _ _ _ _ _ _ _ _ _ => ?_⟩
    rw [lI_add hs.1 hs.2, show (0 : Int64) = lI 0 by decide, lI_leB (by omega) (by omega)]
    exact ⟨fun q => fin _ (by simp only [jn]; rw [if_neg (by omega)]), fun q => fin _ (by simp only [jn]; rw [if_pos (by omega)]; decide)⟩
theorem nI64 {n : Nat} (h : n < 2 ^ 31) : (nI n).toInt64 = lI (n : Int) := by rw [nI_l h, lI_n]
/-- a part, in a law -/
theorem m_partL {j : Nat} {K : KL} (hC : EnMC I J sc L) (hV : EnV I sc s) (h55 : I 0 55 = nI p) (h52 : ¬ I 0 52 = 2) (hp : p < sc 0 1) (hj : j < 4 ∨ (j = 4 ∧ f < sc 0 0) ∨ ((j = 5 ∨ j = 6) ∧ s 0 p ≠ 0) ∨ j = 7 ∨ j = 8) (h : K (lI (sg sc s p f j)) I J) : CalL wM (d + 2) mX13_qPartOf [.ref 0, .int (nI j), .int (nI f)] I J K := by
  have hP := hV.2.2.1
  have hF := hV.2.2.2.1
  have hb := hV.b (p := p) (by omega)
  have hcp := hC.2.2.2.2.2.2.1 p hp
  refine Cal.of (by decide) (Nat.le_of_ble_eq_true rfl) (bX13_qPartOf_0 ?_)
  rw [h55]
  rcases (show j = 0 ∨ j = 1 ∨ j = 2 ∨ j = 3 ∨ (j = 4 ∧ f < sc 0 0) ∨ (j = 5 ∧ s 0 p ≠ 0) ∨ (j = 6 ∧ s 0 p ≠ 0) ∨ j = 7 ∨ j = 8 by omega) with rfl | rfl | rfl | rfl | ⟨rfl, hf⟩ | ⟨rfl, hm⟩ | ⟨rfl, hm⟩ | rfl | rfl
  · refine ⟨fun _ => ?_, fun y => absurd y (by decide), fun y => absurd y (by decide), fun y => absurd y (by decide), fun y => absurd y (by decide), fun y => absurd y (by decide), fun y => absurd y (by decide), fun y => absurd y (by decide), fun y => absurd y (by decide), fun y => absurd y (by decide), fun y => absurd y (by decide), fun y => absurd rfl y⟩
    rw [ix8, nI_clamp (by omega), hcp.2.2.1, nI64 (by omega)]
    exact ⟨vp_in_nI (by omega) (by omega), h⟩
  · refine ⟨fun y => absurd y (by decide), fun _ => ?_, fun y => absurd y (by decide), fun y => absurd y (by decide), fun y => absurd y (by decide), fun y => absurd y (by decide), fun y => absurd y (by decide), fun y => absurd y (by decide), fun y => absurd y (by decide), fun y => absurd y (by decide), fun y => absurd y (by decide), fun _ y => absurd rfl y⟩
    refine ⟨fun _ => m_rightOf hV hp (m_bits hb.2.1 ?_), fun q => absurd q h52⟩
    rw [nI64 (by have := pc8_le (s 1 p); omega)]
    exact h
  · refine ⟨fun y => absurd y (by decide), fun y => absurd y (by decide), fun _ => ?_, fun y => absurd y (by decide), fun y => absurd y (by decide), fun y => absurd y (by decide), fun y => absurd y (by decide), fun y => absurd y (by decide), fun y => absurd y (by decide), fun y => absurd y (by decide), fun y => absurd y (by decide), fun _ _ y => absurd rfl y⟩
    refine ⟨fun _ => m_wrongOf hV hp (m_bits hb.2.2.1 ?_), fun q => absurd q h52⟩
    rw [nI64 (by have := pc8_le (s 2 p); omega)]
    exact h
  · refine ⟨fun y => absurd y (by decide), fun y => absurd y (by decide), fun y => absurd y (by decide), fun _ => ?_, fun y => absurd y (by decide), fun y => absurd y (by decide), fun y => absurd y (by decide), fun y => absurd y (by decide), fun y => absurd y (by decide), fun y => absurd y (by decide), fun y => absurd y (by decide), fun _ _ _ y => absurd rfl y⟩
    rw [c0, hV.1.1, nI64 (by have := hV.2.2.2.2; omega)]
    exact h
  · refine ⟨fun y => absurd y (by decide), fun y => absurd y (by decide), fun y => absurd y (by decide), fun y => absurd y (by decide), fun _ => ?_, fun y => absurd y (by decide), fun y => absurd y (by decide), fun y => absurd y (by decide), fun y => absurd y (by decide), fun y => absurd y (by decide), fun y => absurd y (by decide), fun _ _ _ _ y => absurd rfl y⟩
    have hw := hC.2.2.2.2.2.1 f hf
    rw [ix8, nI_clamp (by omega), hw.2.2.1, nI64 (by omega)]
    refine ⟨vp_in_nI (by omega) (by omega), ?_⟩
    simp only [sg, if_pos hf] at h
    exact h
  · refine ⟨fun y => absurd y (by decide), fun y => absurd y (by decide), fun y => absurd y (by decide), fun y => absurd y (by decide), fun y => absurd y (by decide), fun _ => ?_, fun y => absurd y (by decide), fun y => absurd y (by decide), fun y => absurd y (by decide), fun y => absurd y (by decide), fun y => absurd y (by decide), fun _ _ _ _ _ y => absurd rfl y⟩
    refine m_masterOf hV hp (m_pupilsOf hC hV hm hb.1 (m_bits (msk_lt _ 8) ?_))
    rw [nI64 (by have := pc8_le (msk (fun k => s 0 k = s 0 p) 8); omega)]
    exact h
  · refine ⟨fun y => absurd y (by decide), fun y => absurd y (by decide), fun y => absurd y (by decide), fun y => absurd y (by decide), fun y => absurd y (by decide), fun y => absurd y (by decide), fun _ => ?_, fun y => absurd y (by decide), fun y => absurd y (by decide), fun y => absurd y (by decide), fun y => absurd y (by decide), fun _ _ _ _ _ _ y => absurd rfl y⟩
    refine m_masterOf hV hp ?_
    have hm1 := (hV.2.1.1 p (by omega)).1
    obtain ⟨m, em⟩ : ∃ m, s 0 p = m + 1 := ⟨s 0 p - 1, by omega⟩
    have hcm := hC.2.2.2.2.2.2.1 m (by omega)
    rw [em, mI_s, ix8, nI_clamp (by omega), hcm.2.2.1, nI64 (by omega)]
    refine ⟨vp_in_nI (by omega) (by omega), ?_⟩
    simp only [sg, if_neg hm, em, Nat.add_sub_cancel] at h
    exact h
  · refine ⟨fun y => absurd y (by decide), fun y => absurd y (by decide), fun y => absurd y (by decide), fun y => absurd y (by decide), fun y => absurd y (by decide), fun y => absurd y (by decide), fun y => absurd y (by decide), fun _ => ?_, fun y => absurd y (by decide), fun y => absurd y (by decide), fun y => absurd y (by decide), fun _ _ _ _ _ _ _ y => absurd rfl y⟩
    refine m_leftOf hV hp ?_
    rw [nI64 (by omega)]
    exact h
  · refine ⟨fun y => absurd y (by decide), fun y => absurd y (by decide), fun y => absurd y (by decide), fun y => absurd y (by decide), fun y => absurd y (by decide), fun y => absurd y (by decide), fun y => absurd y (by decide), fun y => absurd y (by decide), fun _ => ?_, fun y => absurd y (by decide), fun y => absurd y (by decide), fun _ _ _ _ _ _ _ _ y => absurd rfl y⟩
    refine m_marksOf hC hV hp ?_
    have hbd := mrkN_b (sc := sc) (s := s) (p := p) (n := sc 0 0) (fun j hj => (hC.2.2.2.2.2.1 j (by omega)).2.2.2)
    rw [iI_l (by unfold sm mrk; omega)]
    exact h
theorem nI_n {a b : Nat} (ha : a < 2 ^ 31) (hb : b < 2 ^ 31) (h : a ≠ b) : ¬ nI a = nI b := fun q => h ((nI_eq ha hb).mp q)
theorem hld_sm {o1 : Nat} (hC : EnMC I J sc L) (hV : EnV I sc s) (hp : p < sc 0 1) (j : Nat) : sm (sg sc s p f j) := by
  have hP := hV.2.2.1
  have hb := hV.b (p := p) (by omega)
  have hcp := hC.2.2.2.2.2.2.1 p hp
  have hbd := mrkN_b (sc := sc) (s := s) (p := p) (n := sc 0 0) (fun j hj => (hC.2.2.2.2.2.1 j (by omega)).2.2.2)
  have hF := hV.2.2.2.1
  unfold sm sg
  split
  · omega
  · have := pc8_le (s 1 p); omega
  · have := pc8_le (s 2 p); omega
  · have := hV.2.2.2.2; omega
  · split
    · next hf => have := (hC.2.2.2.2.2.1 f hf).2.2.2; omega
    · omega
  · have := pc8_le (msk (fun k => s 0 k = s 0 p) 8); omega
  · split
    · omega
    · next hm =>
      have hm1 := (hV.2.1.1 p (by omega)).1
      have := (hC.2.2.2.2.2.2.1 (s 0 p - 1) (by omega)).2.2.2; omega
  · omega
  · unfold mrk; omega
  · omega
/-- what the two on top must be -/
theorem top2 {c : Nat} {ts ts' : List Bool} {st : List Int} (hok : okst ts st) (ht1 : tc1 c ts = some ts') (c1 : ¬ 1000 ≤ c) (c2 : ¬ c = 60) (c3 : ¬ 40 ≤ c) (c4 : ¬ c = 13) (c5 : ¬ c = 12) : ∃ v w st0, st = v :: w :: st0 ∧ 1 ≤ c ∧ c ≤ 11 ∧ okj c w v := by
  unfold tc1 at ht1
  rw [if_neg c1, if_neg c2, if_neg c3, if_neg c4, if_neg c5] at ht1
  split at ht1
  · next c6 =>
    match ts, st, hok with
    | false :: false :: ts0, v :: w :: st0, hok => exact ⟨v, w, st0, rfl, by omega, by omega, by rw [okj, if_pos (by omega)]; exact ⟨hok.2.1, hok.1⟩⟩
    | true :: ts0, v :: vs, hok => cases ht1
    | false :: true :: ts0, v :: w :: vs, hok => cases ht1
    | [false], [v], hok => cases ht1
    | [], [], hok => cases ht1
  · next c6 =>
    split at ht1
    · next c7 =>
      match ts, st, hok with
      | false :: false :: ts0, v :: w :: st0, hok => exact ⟨v, w, st0, rfl, by omega, by omega, by rw [okj, if_pos (by omega)]; exact ⟨hok.2.1, hok.1⟩⟩
      | true :: ts0, v :: vs, hok => cases ht1
      | false :: true :: ts0, v :: w :: vs, hok => cases ht1
      | [false], [v], hok => cases ht1
      | [], [], hok => cases ht1
    · next c7 =>
      split at ht1
      · next c8 =>
        match ts, st, hok with
        | true :: true :: ts0, v :: w :: st0, hok => exact ⟨v, w, st0, rfl, by omega, by omega, by rw [okj, if_neg (by omega)]; exact ⟨hok.2.1, hok.1⟩⟩
        | false :: ts0, v :: vs, hok => cases ht1
        | true :: false :: ts0, v :: w :: vs, hok => cases ht1
        | [true], [v], hok => cases ht1
        | [], [], hok => cases ht1
      · cases ht1
theorem top1 {c : Nat} {ts ts' : List Bool} {st : List Int} (hok : okst ts st) (ht1 : tc1 c ts = some ts') (hc : c = 12 ∨ c = 60) : ∃ v st0, st = v :: st0 ∧ sm v ∧ (c = 12 → v = 0 ∨ v = 1) := by
  rcases hc with rfl | rfl
  · match ts, st, hok with
    | true :: ts0, v :: st0, hok => exact ⟨v, st0, rfl, okv_sm hok.1, fun _ => hok.1⟩
    | false :: ts0, v :: st0, hok => cases ht1
    | [], [], hok => cases ht1
  · match ts, st, hok with
    | false :: ts0, v :: st0, hok => exact ⟨v, st0, rfl, okv_sm hok.1, fun e => absurd e (by omega)⟩
    | true :: ts0, v :: st0, hok => cases ht1
    | [], [], hok => cases ht1
theorem one_lI {v : Int} (h : v = 0 ∨ v = 1) : (1 : Int64) - lI v = lI (1 - v) := by rcases h with rfl | rfl <;> decide
theorem m_holds {w : Nat} {K : KI} (hC : EnMC I J sc L) (hV : EnV I sc s) (hw : w < 3) (hn : L w ≠ []) (hp : p < sc 0 1) (hm : w < 2 → s 0 p ≠ 0) (hf : w < 2 → f < sc 0 0) (h : ∀ I' J', FrH I J I' J' → K (b01 (hld sc L s w p f)) I' J') : CalI wM (d + 3) mX13_holds [.ref 0, .int (nI w), .int (nI p), .int (nI f)] I J K := by
  have hP := hV.2.2.1
  obtain ⟨hty, hlk⟩ := hC.2.2.2.2.2.2.2.2 w hw
  have htc : tcs (L w) [] = some [true] := hty.resolve_left hn
  have hL := hC.2.2.2.2.2.2.2.1 w hw
  have hσ := hld_sm (o1 := 0) (f := f) hC hV hp
  -- the loop
  have key : ∀ (n i : Nat) (st : List Int) (ts : List Bool) (fr : Nat) (I1 : Ii) (J1 : Jj), i + n = (L w).length → I 39 (3 + w) = nI fr → I 40 (3 + w) = nI (fr + (L w).length) → fr + (L w).length ≤ 1600 → (∀ i, i < (L w).length → I 41 (1600 + fr + i) = nI ((L w).getD i 0)) → okst ts st → ts.length ≤ 60 → tcs ((L w).drop i) ts = some [true] → evs (sg sc s p f) 0 (L w) [] = evs (sg sc s p f) 0 ((L w).drop i) st → ploL (J1 77) st → I1 0 100 = nI st.length → I1 0 55 = nI p → ¬ I1 0 52 = 2 → FrH I J I1 J1 →
      GoI wM (d + 2 + 1) mX13_holds 34 [(0, .ref 0), (1, .int (nI w)), (3, .int (nI f)), (4, .int (nI (fr + i)))] [] I1 J1 K := by
    intro n
    induction n with
    | zero =>
      intro i st ts fr I1 J1 hi h39 h40 h16 h41 hok hlen htc hev hpl h100 h55 h52 hfr
      have hd : (L w).drop i = [] := List.drop_eq_nil_of_le (by omega)
      rw [hd] at htc hev
      cases htc
      match st, hok with
      | [v], hok =>
        have h01 : v = 0 ∨ v = 1 := hok.1
        refine bX13_holds_34 ⟨by rw [ix3]; exact vp_in_nI (by omega) (by omega), ?_⟩
        rw [ix3, nI_clamp (by omega), hfr.1 40 (by omega), h40, c0, lgc_eq, show J1 77 0 = lI v from ploL_top hpl]
        have hhl : hld sc L s w p f = decide (v = 1) := by unfold hld; rw [hev]; simp [evs]
        refine ⟨fun _ => ⟨fun q => ?_, fun q => ?_⟩, fun q => absurd (nI_le (by omega) (by omega)) q⟩
        · have := h I1 J1 hfr
          rw [hhl] at this
          rcases h01 with rfl | rfl
          · exact this
          · exact absurd (by decide) q
        · have := h I1 J1 hfr
          rw [hhl] at this
          rcases h01 with rfl | rfl
          · exact absurd q (by decide)
          · exact this
    | succ n ih =>
      intro i st ts fr I1 J1 hi h39 h40 h16 h41 hok hlen htc hev hpl h100 h55 h52 hfr
      have hil : i < (L w).length := by omega
      obtain ⟨c, hc⟩ : ∃ c, (L w)[i]? = some c := ⟨(L w)[i], by simp [hil]⟩
      have hcd : (L w).drop i = c :: (L w).drop (i + 1) := by
        rw [List.drop_eq_getElem_cons hil]
        congr 1
        have := List.getElem?_eq_getElem hil
        rw [this] at hc
        exact Option.some.inj hc
      have hcm : c ∈ L w := List.mem_of_getElem? hc
      have hcD : (L w).getD i 0 = c := by simp [List.getD, hc]
      have hlst := okst_len hok
      have hlo := hlk c hcm
      rw [hcd] at htc hev
      simp only [tcs] at htc
      cases ht1 : tc1 c ts with
      | none => rw [ht1] at htc; cases htc
      | some ts' =>
        rw [ht1] at htc
        simp only at htc
        by_cases hl6 : ts'.length ≤ 60
        case neg => rw [if_neg hl6] at htc; cases htc
        rw [if_pos hl6] at htc
        have hok' := ev_ok (σ := sg sc s p f) (who := 0) (fun j hj => hσ j) hok ht1
        have hev' : evs (sg sc s p f) 0 (L w) [] = evs (sg sc s p f) 0 ((L w).drop (i + 1)) (ev1 (sg sc s p f) 0 c st) := hev
        have hcb : c ≤ 10999 := by
          unfold tc1 at ht1
          split at ht1
          · split at ht1
            · assumption
            · cases ht1
          · omega
        have hstep : I1 41 (1600 + nI (fr + i)).toNatClampNeg = nI c := by
          rw [ix16, nI_clamp (by omega), hfr.1 41 (by omega), show 1600 + (fr + i) = 1600 + fr + i by omega, h41 i hil, hcD]
        have go : ∀ (st' : List Int) (I2 : Ii) (J2 : Jj), ev1 (sg sc s p f) 0 c st = st' → ploL (J2 77) st' → I2 0 100 = nI st'.length → (∀ a, a ≠ 0 → I2 a = I1 a) → (∀ k, k ≠ 100 → I2 0 k = I1 0 k) → (∀ a, a ≠ 77 → J2 a = J1 a) → GoI wM (d + 2 + 1) mX13_holds 34 [(0, .ref 0), (1, .int (nI w)), (3, .int (nI f)), (4, .int (nI (fr + i) + 1))] [] I2 J2 K := by
          intro st' I2 J2 e1 e2 e3 e4 e5 e6
          subst e1
          rw [nI_1, Nat.add_assoc]
          exact ih (i + 1) _ _ fr I2 J2 (by omega) h39 h40 h16 h41 hok' hl6 htc hev' e2 e3 (by rw [e5 55 (by omega)]; exact h55) (by rw [e5 52 (by omega)]; exact h52) (hfr.trans ⟨e4, fun k k1 k2 k3 => e5 k k3, e6⟩)
        have push : ∀ (x : Int64) (v : Int), x = lI v → ev1 (sg sc s p f) 0 c st = v :: st → CalV wM (d + 2) mX13_qPuts [.ref 0, .long x] I1 J1 (fun I2 J2 => GoI wM (d + 2 + 1) mX13_holds 34 [(0, .ref 0), (1, .int (nI w)), (3, .int (nI f)), (4, .int (nI (fr + i) + 1))] [] I2 J2 K) := by
          intro x v ex e1
          refine m_qPuts h100 (by omega) (go (v :: st) _ _ e1 (ploL_push hpl (by rw [w2_at, ex]) (fun i hi => by rw [w2_k (by omega)])) (u2_at _ _ _ _) (fun a ha => u2_row ha) (fun k hk => u2_k hk) (fun a ha => ?_))
          funext j
          rw [w2_o ha]
        refine bX13_holds_34 ⟨by rw [ix3]; exact vp_in_nI (by omega) (by omega), ?_⟩
        rw [ix3, nI_clamp (show 3 + w < 2 ^ 31 by omega), hfr.1 40 (by omega), h40, hstep]
        refine ⟨fun q => absurd ((nI_leI (by omega) (by omega)).mp q) (by omega), fun _ => ⟨by rw [ix16]; exact vp_in_nI (by omega) (by omega), fun q1 => ?_, fun q1 => ?_⟩⟩
        case refine_2 =>
          have c1 : 1000 ≤ c := Nat.le_of_not_lt (fun z => q1 (nI_lt (b := 1000) z (by decide)))
          refine push _ ((c : Int) - 1000) ?_ (by simp [ev1, c1])
          rw [show (1000 : Int32) = nI 1000 from rfl, pk_sub c1, nI64 (by omega)]
          congr 1
          omega
        have c1 : ¬ 1000 ≤ c := fun z => by
          have := (nI_ltI (b := 1000) (by omega) (by decide)).mp q1
          omega
        have c2 : ¬ c = 60 := hlo.1
        refine ⟨fun q2 => ?_, fun q2 => ?_⟩
        case refine_2 =>
          have c3 : 40 ≤ c := Nat.le_of_not_lt (fun z => q2 (nI_lt (b := 40) z (by decide)))
          have hl2 := hlo.2 c3 (by omega)
          rw [show (40 : Int32) = nI 40 from rfl, pk_sub c3]
          refine m_partL (d := d) (hC.H hfr) (hV.H hfr) h55 h52 hp ?_ (push _ _ rfl (by simp [ev1, c1, c2, c3]))
          by_cases ew : w = 2
          · rw [if_pos ew] at hl2; omega
          · rw [if_neg ew] at hl2
            have h1 := hm (by omega)
            have h2 := hf (by omega)
            omega
        have c3 : ¬ 40 ≤ c := fun z => by
          have := (nI_ltI (b := 40) (by omega) (by decide)).mp q2
          omega
        refine ⟨fun q3 => ?_, fun q3 => ?_⟩
        case refine_2 =>
          have c4 : c = 13 := (nI_eq (b := 13) (by omega) (by decide)).mp q3
          exact push 1 1 (by decide) (by simp [ev1, c4])
        have c4 : ¬ c = 13 := fun z => q3 (by rw [z]; rfl)
        refine ⟨fun q4 => ?_, fun q4 => ?_⟩
        case refine_2 =>
          have c5 : c = 12 := (nI_eq (b := 12) (by omega) (by decide)).mp q4
          obtain ⟨v, st0, rfl, hv, h01⟩ := top1 hok ht1 (Or.inl c5)
          have e2 : nI (v :: st0).length - 1 = nI st0.length := by rw [List.length_cons]; exact nI_pred _
          rw [h100, e2, nI_clamp (by simp at hlst; omega), ploL_top hpl, one_lI (h01 c5)]
          refine ⟨vp_in_nI (by simp at hlst; omega) (by omega), go ((1 - v) :: st0) I1 _ (by simp [ev1, c5]) (ploL_push (ploL_tail hpl) (w2_at _ _ _ _) (fun i hi => by rw [w2_k (by omega)])) (by rw [h100]; rfl) (fun _ _ => rfl) (fun _ _ => rfl) (fun a ha => ?_)⟩
          funext j
          rw [w2_o ha]
        have c5 : ¬ c = 12 := fun z => q4 (by rw [z]; rfl)
        obtain ⟨v, w', st0, rfl, g1, g2, hoj⟩ := top2 hok ht1 c1 c2 c3 c4 c5
        simp only [List.length_cons] at hlst
        exact m_qJoins (d := d + 1) g1 g2 hoj (by omega) (by rw [h100]; rfl) hpl (fun I2 J2 e1 e2 e3 e4 e5 => go (jn c w' v :: st0) I2 J2 (by simp [ev1, c1, c2, c3, c4, c5]) e1 e2 e3 e4 e5)
  rcases hL with ⟨e, _⟩ | ⟨_, fr, h39, h40, h16, h41⟩
  · exact absurd e hn
  have start : ∀ y : Int32, ¬ y = 2 → ∀ I4 : Ii, I4 = u2 (u2 (u2 I 0 55 (nI p)) 0 52 y) 0 100 0 → (vp_in (3 + nI w) 6 ∧ GoI wM (d + 2 + 1) mX13_holds 34 [(0, .ref 0), (1, .int (nI w)), (3, .int (nI f)), (4, .int (I4 39 (3 + nI w).toNatClampNeg))] [] I4 J K) := by
    rintro y hy _ rfl
    refine ⟨by rw [ix3]; exact vp_in_nI (by omega) (by omega), ?_⟩
    rw [ix3, nI_clamp (by omega), u2_row (by omega), u2_row (by omega), u2_row (by omega), h39]
    refine key (L w).length 0 [] [] fr _ J (by omega) h39 h40 h16 h41 trivial (by simp) (by simpa using htc) (by simp) (fun i hi => absurd hi (by simp)) (by rw [u2_at]; rfl) (by rw [u2_k (by omega), u2_k (by omega), u2_at]) (by rw [u2_k (by omega), u2_at]; exact hy) ⟨fun a ha => by rw [u2_row ha, u2_row ha, u2_row ha], fun k k1 k2 k3 => by rw [u2_k k3, u2_k k1, u2_k k2], fun _ _ => rfl⟩
  refine Cal.of (by decide) (Nat.le_of_ble_eq_true rfl) (bX13_holds_0 ?_)
  rintro _ rfl
  exact ⟨fun _ => start 0 (by decide), fun _ => start 1 (by decide)⟩
end MB

/-! the class's face: acts -/
theorem EnX.re {I I' : Ii} {sc : Sx} {L : Nat → List Nat} {s : Sx} {ps : Nat → Sx} {g g' : Sx} (h : EnX I sc L s ps g) (hk : ∀ a, (3 ≤ a ∧ a ≤ 11) ∨ (19 ≤ a ∧ a ≤ 24) → I' a = I a) (hT : EnT I' g') (hR : EnR I' sc g') (hf : I' 1 2 = nI (g' 0 1) ∧ I' 1 3 = mI (g' 0 2)) (hr : ∀ k, k < 6 → I' 79 k = nI (g' 2 k)) (hi : (I' 0 14 = nI (g' 0 4) ∧ g' 0 4 ≤ 43) ∧ ∀ k, k < g' 0 4 → I' 80 k = nI (g' 3 k)) (hd : I' 0 15 = nI (g' 0 5) ∧ g' 0 5 < 2 ^ 31) (hP : EnP I' sc ps g') : EnX I' sc L s ps g' :=
  ⟨⟨h.1.1.kept (fun a h1 h2 => hk a (by omega)), h.1.2.1.kept (fun a h1 h2 => hk a (by omega)), h.1.2.2.1, h.1.2.2.2⟩, h.2.1, hT, hR, hf, hr, hi, hd, hP⟩
def rf (g : Sx) (k : Nat) : Sx := up g 2 k (g 2 k + 1)
section SP
variable {d : Nat} {I : Ii} {J : Jj} {sc s t g : Sx} {L : Nat → List Nat} {ps : Nat → Sx}
theorem EnP.put {i k v : Nat} (h : EnP I sc ps g) (hk : ¬ (i = 0 ∧ k = 6)) : EnP I sc ps (up g i k v) := by
  have e : up g i k v 0 6 = g 0 6 := by
    unfold up
    rw [if_neg (fun z => hk ⟨z.1.symm, z.2.symm⟩)]
  unfold EnP
  rw [e]
  exact h
theorem s_refuse {k : Nat} {K : KI} (hX : EnX I sc L s ps g) (hk : k < 6) (h : ∀ I', EnX I' sc L s ps (rf g k) → K (-1) I' J) : CalI wX d mX12_refuse [.ref 0, .int (nI k)] I J K := by
  obtain ⟨hB, hA, hT, hR, hf, hr, hi, hd, hP⟩ := hX
  refine Cal.of (by decide) (Nat.le_of_ble_eq_true rfl) (bX12_refuse_0 ⟨fun q => absurd q (nI_pos (by omega)), fun _ => ⟨fun q => absurd ((nI_leI (a := 6) (by decide) (by omega)).mp q) (by omega), fun _ => ⟨vp_in_nI hk (by omega), ?_⟩⟩⟩)
  rw [nI_clamp (by omega), hr k hk, nI_1]
  refine h _ (EnX.re (g := g) ⟨hB, hA, hT, hR, hf, hr, hi, hd, hP⟩ (fun a ha => u2_row (by omega)) ?_ ?_ ?_ (fun j hj => ?_) ?_ ?_ ?_)
  · unfold EnT; rw [u2_row (by omega), u2_row (by omega)]; exact hT
  · unfold EnR; rw [u2_row (by omega), u2_row (by omega), u2_row (by omega)]; exact hR
  · rw [u2_row (by omega)]; exact hf
  · by_cases e : j = k
    · subst e; rw [u2_at]; simp [rf, up]
    · rw [u2_k e]; simp only [rf, up, e, and_false, if_false]; exact hr j hj
  · rw [u2_row (by omega), u2_row (by omega)]; exact hi
  · rw [u2_row (by omega)]; exact hd
  · exact (hP.fr (by rw [u2_row (by omega)]; exact ⟨rfl, rfl⟩) (fun a ha => u2_row (by omega))).put (by omega)
theorem s_deny {k : Nat} {K : KI} (hX : EnX I sc L s ps g) (hk : k < 6) (h : ∀ I', EnX I' sc L s ps (rf g k) → K 0 I' J) : CalI wX (d + 1) mX12_deny [.ref 0, .int (nI k)] I J K :=
  Cal.of (by decide) (Nat.le_of_ble_eq_true rfl) (bX12_deny_0 (s_refuse hX hk h))
def by4 (v sh : Int32) : Nat := ((v >>> (sh &&& 31)) : Int32).toBitVec.toNat % 256
theorem by4_eq (v sh : Int32) : (v >>> (sh &&& 31)) &&& 255 = nI (by4 v sh) := pk_and _ 8 (by decide)
theorem by4_lt (v sh : Int32) : by4 v sh < 256 := Nat.mod_lt _ (by omega)
def ap1 (g : Sx) (b : Nat) : Sx := up (up g 1 (g 0 0) b) 0 0 (g 0 0 + 1)
def ap4 (g : Sx) (v : Int32) : Sx := ap1 (ap1 (ap1 (ap1 g (by4 v 24)) (by4 v 16)) (by4 v 8)) (by4 v 0)
theorem ap1_0 (g : Sx) (b : Nat) : ap1 g b 0 0 = g 0 0 + 1 := by simp [ap1, up]
theorem ap4_0 (g : Sx) (v : Int32) : ap4 g v 0 0 = g 0 0 + 4 := by simp only [ap4, ap1_0]
theorem EnX.ap {b : Nat} (hX : EnX I sc L s ps g) (hb : b < 256) (hn : g 0 0 < 1600) : EnX (u2 (u2 I 2 (g 0 0) (nI b)) 1 1 (nI (g 0 0 + 1))) sc L s ps (ap1 g b) := by
  obtain ⟨hB, hA, hT, hR, hf, hr, hi, hd, hP⟩ := hX
  refine EnX.re (g := g) ⟨hB, hA, hT, hR, hf, hr, hi, hd, hP⟩ (fun a ha => by rw [u2_row (by omega), u2_row (by omega)]) ⟨⟨by rw [u2_at, ap1_0], by rw [ap1_0]; omega⟩, fun k hk => ?_⟩ ?_ ?_ (fun j hj => ?_) ?_ ?_ ?_
  · rw [ap1_0] at hk
    rw [u2_o (by omega)]
    by_cases e : k = g 0 0
    · subst e; rw [u2_at]; simp [ap1, up, hb]
    · rw [u2_k e]; simpa [ap1, up, e] using hT.2 k (by omega)
  · unfold EnR; rw [u2_row (by omega), u2_row (by omega), u2_row (by omega), u2_row (by omega), u2_row (by omega), u2_row (by omega)]; simpa [ap1, up, EnR] using hR
  · simpa [u2, ap1, up] using hf
  · rw [u2_row (by omega), u2_row (by omega)]; simpa [ap1, up] using hr j hj
  · rw [u2_row (by omega), u2_row (by omega), u2_row (by omega), u2_row (by omega)]; simpa [ap1, up] using hi
  · rw [u2_row (by omega), u2_row (by omega)]; simpa [ap1, up] using hd
  · exact ((hP.fr (by rw [u2_row (by omega), u2_row (by omega)]; exact ⟨rfl, rfl⟩) (fun a ha => by rw [u2_row (by omega), u2_row (by omega)])).put (by omega)).put (by omega)
theorem s_append {v : Int32} {K : KV} (hX : EnX I sc L s ps g) (hn : g 0 0 + 4 ≤ 1600) (h : ∀ I', EnX I' sc L s ps (ap4 g v) → K I' J) : CalV wX d mX10_append [.ref 1, .int v] I J K := by
  have one : ∀ (I : Ii) (g : Sx) (sh : Int32), ¬ sh < 0 → EnX I sc L s ps g → g 0 0 < 1600 → (∀ I', EnX I' sc L s ps (ap1 g (by4 v sh)) → GoV wX d mX10_append 3 [(0, .ref 1), (1, .int v), (2, .int (sh + Int32.ofInt (-8)))] [] I' J K) → GoV wX d mX10_append 3 [(0, .ref 1), (1, .int v), (2, .int sh)] [] I J K := by
    intro I g sh hsh hX hn hK
    refine bX10_append_3 ⟨fun q => absurd q hsh, fun _ => ?_⟩
    rw [hX.2.2.1.1.1, show (1600 : Int32) = nI 1600 from rfl]
    repeat' (first | (refine ⟨vp_in_nI (by omega) (by omega), ?_⟩) | (with_reducible refine And.intro ?_ ?_) | (with_reducible intro I9 e9; subst e9) | (with_reducible intro q9; try (simp (disch := omega) only [Int32.le_iff_toInt_le, Int32.lt_iff_toInt_lt, ← Int32.toInt_inj, nI_toInt, t_bq, t_pc8, t_bel, t_mI, t_ite, t_dec, sm_t, Int32.reduceToInt, t_m1, t_0, t_1, t_2, t_3, t_8, Int.natCast_eq_zero, Int.ofNat_le, Int.ofNat_lt, Int.ofNat_inj, not_true_eq_false, not_false_eq_true, forall_const] at q9); try (exfalso; omega)))
    rw [nI_clamp (by omega), by4_eq, u2_o (by omega), hX.2.2.1.1.1, nI_1]
    exact hK _ (hX.ap (by4_lt _ _) hn)
  refine Cal.of (by decide) (Nat.le_of_ble_eq_true rfl) (bX10_append_0 ?_)
  refine one I g 24 (by decide) hX (by omega) (fun I1 h1 => ?_)
  refine one I1 _ 16 (by decide) h1 (by rw [ap1_0]; omega) (fun I2 h2 => ?_)
  refine one I2 _ 8 (by decide) h2 (by rw [ap1_0, ap1_0]; omega) (fun I3 h3 => ?_)
  refine one I3 _ 0 (by decide) h3 (by rw [ap1_0, ap1_0, ap1_0]; omega) (fun I4 h4 => ?_)
  exact bX10_append_3 ⟨fun _ => h I4 h4, fun q => absurd (by decide) q⟩
def g_feed (g : Sx) (a b c e f : Int32) : Sx := if g 0 0 + 20 ≤ 1600 then ap4 (ap4 (ap4 (ap4 (ap4 g a) b) c) e) f else rf g 0
def r_feed (g : Sx) : Int32 := if g 0 0 + 20 ≤ 1600 then nI (g 0 0 + 20) else -1
theorem x_feed {a b c e f : Int32} {K : KI} (hX : EnX I sc L s ps g) (h : ∀ I', EnX I' sc L s ps (g_feed g a b c e f) → K (r_feed g) I' J) : CalI wX (d + 1) mX12_feed [.ref 0, .int a, .int b, .int c, .int e, .int f] I J K := by
  have h16 := hX.2.2.1.1.2
  refine Cal.of (by decide) (Nat.le_of_ble_eq_true rfl) (bX12_feed_0 ?_)
  rw [hX.2.2.1.1.1, show (20 : Int32) = nI 20 from rfl, show (1600 : Int32) = nI 1600 from rfl, nI_add]
  repeat' (first | (refine ⟨vp_in_nI (by omega) (by omega), ?_⟩) | (with_reducible refine And.intro ?_ ?_) | (with_reducible intro I9 e9; subst e9) | (with_reducible intro q9; try (simp (disch := omega) only [Int32.le_iff_toInt_le, Int32.lt_iff_toInt_lt, ← Int32.toInt_inj, nI_toInt, t_bq, t_pc8, t_bel, t_mI, t_ite, t_dec, sm_t, Int32.reduceToInt, t_m1, t_0, t_1, t_2, t_3, t_8, Int.natCast_eq_zero, Int.ofNat_le, Int.ofNat_lt, Int.ofNat_inj, not_true_eq_false, not_false_eq_true, forall_const] at q9); try (exfalso; omega)))
  · rw [g_feed, r_feed, if_pos (by omega), if_pos (by omega)] at h
    refine s_append hX (by omega) (fun I1 h1 => ?_)
    refine s_append h1 (by rw [ap4_0]; omega) (fun I2 h2 => ?_)
    refine s_append h2 (by rw [ap4_0, ap4_0]; omega) (fun I3 h3 => ?_)
    refine s_append h3 (by rw [ap4_0, ap4_0, ap4_0]; omega) (fun I4 h4 => ?_)
    refine s_append h4 (by rw [ap4_0, ap4_0, ap4_0, ap4_0]; omega) (fun I5 h5 => ?_)
    rw [h5.2.2.1.1.1, ap4_0, ap4_0, ap4_0, ap4_0, ap4_0]
    exact h I5 h5
  · rw [g_feed, r_feed, if_neg (by omega), if_neg (by omega)] at h
    exact s_refuse (k := 0) hX (by omega) h
/-- the tape cut -/
theorem EnX.cut {n : Nat} (hX : EnX I sc L s ps g) (hn : n ≤ g 0 0) : EnX (u2 I 1 1 (nI n)) sc L s ps (up g 0 0 n) := by
  obtain ⟨hB, hA, hT, hR, hf, hr, hi, hd, hP⟩ := hX
  refine EnX.re (g := g) ⟨hB, hA, hT, hR, hf, hr, hi, hd, hP⟩ (fun a ha => u2_row (by omega)) ⟨⟨by rw [u2_at]; simp [up], by simp [up]; have := hT.1.2; omega⟩, fun k hk => ?_⟩ ?_ ?_ (fun j hj => ?_) ?_ ?_ ?_
  · simp only [up, and_self, if_true] at hk
    rw [u2_o (by omega)]; simpa [up] using hT.2 k (by omega)
  · unfold EnR; rw [u2_row (by omega), u2_row (by omega), u2_row (by omega)]; simpa [up, EnR] using hR
  · simpa [u2, up] using hf
  · rw [u2_row (by omega)]; simpa [up] using hr j hj
  · rw [u2_row (by omega), u2_row (by omega)]; simpa [up] using hi
  · rw [u2_row (by omega)]; simpa [up] using hd
  · exact (hP.fr (by rw [u2_row (by omega)]; exact ⟨rfl, rfl⟩) (fun a ha => u2_row (by omega))).put (by omega)
def g_end (g : Sx) (v : Int32) : Sx := if isin v (g 0 0 + 1) = true then up g 0 0 (idx v) else rf g 0
theorem x_end {v : Int32} {K : KI} (hX : EnX I sc L s ps g) (h : ∀ I', EnX I' sc L s ps (g_end g v) → K (b01 (isin v (g 0 0 + 1))) I' J) : CalI wX (d + 2) mX12_end [.ref 0, .int v] I J K := by
  have h16 := hX.2.2.1.1.2
  refine Cal.of (by decide) (Nat.le_of_ble_eq_true rfl) (bX12_end_0 ?_)
  rw [hX.2.2.1.1.1]
  rcases i32_cases v with hv | ⟨j, hj, rfl⟩
  · rw [g_end, isin_neg hv] at h
    exact ⟨fun _ => s_deny (k := 0) hX (by omega) (fun I' h' => ⟨Or.inl rfl, h I' h'⟩), fun q => absurd hv q⟩
  · rw [g_end, isin_nI hj, idx_nI hj] at h
    repeat' (first | (refine ⟨vp_in_nI (by omega) (by omega), ?_⟩) | (with_reducible refine And.intro ?_ ?_) | (with_reducible intro I9 e9; subst e9) | (with_reducible intro q9; try (simp (disch := omega) only [Int32.le_iff_toInt_le, Int32.lt_iff_toInt_lt, ← Int32.toInt_inj, nI_toInt, t_bq, t_pc8, t_bel, t_mI, t_ite, t_dec, sm_t, Int32.reduceToInt, t_m1, t_0, t_1, t_2, t_3, t_8, Int.natCast_eq_zero, Int.ofNat_le, Int.ofNat_lt, Int.ofNat_inj, not_true_eq_false, not_false_eq_true, forall_const] at q9); try (exfalso; omega)))
    · rw [decide_eq_true (by omega)] at h
      exact h _ (hX.cut (by omega))
    · rw [decide_eq_false (by omega)] at h
      exact s_deny (k := 0) hX (by omega) (fun I' h' => ⟨Or.inl rfl, h I' h'⟩)
def g_seed (g : Sx) (v : Int32) : Sx := if 0 ≤ v then up g 0 5 (idx v) else rf g 5
theorem x_seed {v : Int32} {K : KI} (hX : EnX I sc L s ps g) (h : ∀ I', EnX I' sc L s ps (g_seed g v) → K (b01 (decide (0 ≤ v))) I' J) : CalI wX (d + 2) mX12_seed [.ref 0, .int v] I J K := by
  refine Cal.of (by decide) (Nat.le_of_ble_eq_true rfl) (bX12_seed_0 ⟨fun q => ?_, fun q => ?_⟩)
  · rw [g_seed, if_pos q, decide_eq_true q] at h
    simp (disch := omega) only [Int32.le_iff_toInt_le, Int32.lt_iff_toInt_lt, ← Int32.toInt_inj, nI_toInt, t_bq, t_pc8, t_bel, t_mI, t_ite, t_dec, sm_t, Int32.reduceToInt, t_m1, t_0, t_1, t_2, t_3, t_8, Int.natCast_eq_zero, Int.ofNat_le, Int.ofNat_lt, Int.ofNat_inj, not_true_eq_false, not_false_eq_true, forall_const] at q
    have hv := nI_idx q
    have hb := Int32.toInt_lt v
    have hl : idx v < 2 ^ 31 := by unfold idx; omega
    generalize idx v = j at *
    subst hv
    obtain ⟨hB, hA, hT, hR, hf, hr, hi, hd, hP⟩ := hX
    refine h _ (EnX.re (g := g) ⟨hB, hA, hT, hR, hf, hr, hi, hd, hP⟩ (fun a ha => u2_row (by omega)) ?_ ?_ ?_ (fun k hk => ?_) ?_ ?_ ?_)
    · unfold EnT; rw [u2_row (by omega), u2_row (by omega)]; simpa [up, EnT] using hT
    · unfold EnR; rw [u2_row (by omega), u2_row (by omega), u2_row (by omega)]; simpa [up, EnR] using hR
    · rw [u2_row (by omega)]; simpa [up] using hf
    · rw [u2_row (by omega)]; simpa [up] using hr k hk
    · rw [u2_k (by omega), u2_row (by omega)]; simpa [up] using hi
    · rw [u2_at]; simp [up]; omega
    · exact (hP.fr (by rw [u2_k (by omega), u2_k (by omega)]; exact ⟨rfl, rfl⟩) (fun a ha => u2_row (by omega))).put (by omega)
  · rw [g_seed, if_neg q, decide_eq_false q] at h
    exact s_deny (k := 5) hX (by omega) (fun I' h' => ⟨Or.inl rfl, h I' h'⟩)
/-- what can be undone, with one more -/
def ps_r (s : Sx) (ps : Nat → Sx) (g : Sx) : Nat → Sx := if g 0 6 < 20 then (fun i => if i = g 0 6 then s else ps i) else (fun i => if i = 19 then s else ps (i + 1))
def g_r (g : Sx) : Sx := if g 0 6 < 20 then up g 0 6 (g 0 6 + 1) else g
theorem past_o : ∀ i, i < 20 → wX.2.2 31 i = some (81 + 6 * i) := by decide +kernel
theorem past_b : ∀ i, i < 20 → wX.1 (81 + 6 * i) = (0, 9) := by decide +kernel
theorem past_ob {i : Nat} (h : i < 20) : z_Ob wX (81 + 6 * i) 9 := ⟨past_b i h, by show _ < 201; omega, by omega, by omega⟩
theorem s_remember {K : KV} (hX : EnX I sc L s ps g) (h : ∀ I', EnX I' sc L s (ps_r s ps g) (g_r g) → K I' J) : CalV wX (d + 2) mX12_remember [.ref 0] I J K := by
  have hX' := hX
  obtain ⟨hB, hA, hT, hR, hf, hr, hi, hd, ⟨hc, f, hf20, hf0, hps⟩⟩ := hX
  refine Cal.of (by decide) (Nat.le_of_ble_eq_true rfl) (bX12_remember_0 ?_)
  rw [hc.1, hf0, nI_add, show (20 : Int32) = nI 20 from rfl, pk_rem (by omega) (by omega) (by omega), nI_clamp (by omega)]
  have hm : (f + g 0 6) % 20 < 20 := Nat.mod_lt _ (by omega)
  refine ⟨vp_in_nI hm (by omega), _, past_o _ hm, past_ob hm, ?_⟩
  refine s_copyFrom (past_ob hm) obX_19 hB.2.1 (by omega) (fun I1 h1 f1 => ?_)
  have e0 : I1 0 = I 0 := f1 0 (by omega)
  rw [e0, hc.1, hf0, nI_1, nI_1, pk_rem (by omega) (by omega) (by omega)]
  have hB1 : EnX I1 sc L s ps g → True := fun _ => trivial
  have hT1 : EnT I1 g := by unfold EnT; rw [f1 1 (by omega), f1 2 (by omega)]; exact hT
  have hR1 : EnR I1 sc g := by unfold EnR; rw [f1 43 (by omega), f1 50 (by omega), f1 51 (by omega)]; exact hR
  repeat' (first | (refine ⟨vp_in_nI (by omega) (by omega), ?_⟩) | (with_reducible refine And.intro ?_ ?_) | (with_reducible intro I9 e9; subst e9) | (with_reducible intro q9; try (simp (disch := omega) only [Int32.le_iff_toInt_le, Int32.lt_iff_toInt_lt, ← Int32.toInt_inj, nI_toInt, t_bq, t_pc8, t_bel, t_mI, t_ite, t_dec, sm_t, Int32.reduceToInt, t_m1, t_0, t_1, t_2, t_3, t_8, Int.natCast_eq_zero, Int.ofNat_le, Int.ofNat_lt, Int.ofNat_inj, not_true_eq_false, not_false_eq_true, forall_const] at q9); try (exfalso; omega)))
  · have e20 : g 0 6 = 20 := by omega
    have eg : g_r g = g := by rw [g_r, if_neg (by omega)]
    have ep : ps_r s ps g = fun i => if i = 19 then s else ps (i + 1) := by rw [ps_r, if_neg (by omega)]
    rw [eg, ep] at h
    refine h _ ⟨⟨hB.1.kept (fun a h1 h2 => by rw [u2_row (by omega)]; exact f1 a (by omega)), hB.2.1.kept (fun a h1 h2 => by rw [u2_row (by omega)]; exact f1 a (by omega)), hB.2.2.1, hB.2.2.2⟩, hA, ?_, ?_, ?_, ?_, ?_, ?_, ⟨?_, (f + 1) % 20, Nat.mod_lt _ (by omega), by rw [u2_at], fun i hi => ?_⟩⟩
    · unfold EnT; rw [u2_row (by omega), u2_row (by omega)]; exact hT1
    · unfold EnR; rw [u2_row (by omega), u2_row (by omega), u2_row (by omega)]; exact hR1
    · rw [u2_row (by omega), f1 1 (by omega)]; exact hf
    · rw [u2_row (by omega), f1 79 (by omega)]; exact hr
    · rw [u2_k (by omega), u2_row (by omega), f1 80 (by omega), e0]; exact hi
    · rw [u2_k (by omega), e0]; exact hd
    · rw [u2_k (by omega), e0, u2_row (by omega), u2_row (by omega), u2_row (by omega), f1 30 (by omega), f1 69 (by omega), f1 78 (by omega)]; exact hc
    · by_cases ei : i = 19
      · subst ei
        simp only [if_true]
        rw [show ((f + 1) % 20 + 19) % 20 = (f + g 0 6) % 20 by omega]
        exact ⟨h1.kept (fun a h2 h3 => u2_row (by omega)), hB.2.2.1, hB.2.2.2, hA⟩
      · simp only [ei, if_false]
        have := hps (i + 1) (by omega)
        rw [show (f + (i + 1)) % 20 = ((f + 1) % 20 + i) % 20 by omega] at this
        exact ⟨this.1.kept (fun a h2 h3 => by rw [u2_row (by omega)]; exact f1 a (by omega)), this.2⟩
  · have eg : g_r g = up g 0 6 (g 0 6 + 1) := by rw [g_r, if_pos (by omega)]
    have ep : ps_r s ps g = fun i => if i = g 0 6 then s else ps i := by rw [ps_r, if_pos (by omega)]
    rw [eg, ep] at h
    refine h _ ⟨⟨hB.1.kept (fun a h1 h2 => by rw [u2_row (by omega)]; exact f1 a (by omega)), hB.2.1.kept (fun a h1 h2 => by rw [u2_row (by omega)]; exact f1 a (by omega)), hB.2.2.1, hB.2.2.2⟩, hA, ?_, ?_, ?_, ?_, ?_, ?_, ⟨?_, f, hf20, by rw [u2_k (by omega), e0]; exact hf0, fun i hi => ?_⟩⟩
    · unfold EnT; rw [u2_row (by omega), u2_row (by omega)]; simpa [up, EnT] using hT1
    · unfold EnR; rw [u2_row (by omega), u2_row (by omega), u2_row (by omega)]; simpa [up, EnR] using hR1
    · rw [u2_row (by omega), f1 1 (by omega)]; simpa [up] using hf
    · rw [u2_row (by omega), f1 79 (by omega)]; simpa [up] using hr
    · rw [u2_k (by omega), u2_row (by omega), f1 80 (by omega), e0]; simpa [up] using hi
    · rw [u2_k (by omega), e0]; simpa [up] using hd
    · rw [u2_at, u2_row (by omega), u2_row (by omega), u2_row (by omega), f1 30 (by omega), f1 69 (by omega), f1 78 (by omega)]; simp only [up, and_self, if_true]; exact ⟨trivial, by omega, hc.2.2⟩
    · simp only [up, and_self, if_true] at hi
      by_cases ei : i = g 0 6
      · subst ei
        simp only [if_true]
        exact ⟨h1.kept (fun a h2 h3 => u2_row (by omega)), hB.2.2.1, hB.2.2.2, hA⟩
      · simp only [ei, if_false]
        have := hps i (by omega)
        exact ⟨this.1.kept (fun a h2 h3 => by rw [u2_row (by omega)]; exact f1 a (by omega)), this.2⟩
end SP

/-! the class: answerFor, ask -/
theorem lI_addB {a b : Int} (ha : -1000000000000 ≤ a ∧ a ≤ 1000000000000) (hb : -1000000000000 ≤ b ∧ b ≤ 1000000000000) : lI a + lI b = lI (a + b) := by
  apply i64_ext
  rw [Jvm.Kit.i64_add (by rw [lI_t (by omega) (by omega), lI_t (by omega) (by omega)]; omega) (by rw [lI_t (by omega) (by omega), lI_t (by omega) (by omega)]; omega), lI_t (by omega) (by omega), lI_t (by omega) (by omega), lI_t (by omega) (by omega)]
theorem lI_ltB {a b : Int} (ha : -1000000000000 ≤ a ∧ a ≤ 1000000000000) (hb : -1000000000000 ≤ b ∧ b ≤ 1000000000000) : lI a < lI b ↔ a < b := by rw [Int64.lt_iff_toInt_lt, lI_t (by omega) (by omega), lI_t (by omega) (by omega)]
theorem lI_eqB {a b : Int} (ha : -1000000000000 ≤ a ∧ a ≤ 1000000000000) (hb : -1000000000000 ≤ b ∧ b ≤ 1000000000000) : lI a = lI b ↔ a = b := by rw [← Int64.toInt_inj, lI_t (by omega) (by omega), lI_t (by omega) (by omega)]
theorem qac_b {w : Nat} {v : Nat → Int} : ∀ {n : Nat}, (∀ k, k < n → sm (v k)) → n ≤ 8 → -1000001 * (n + 1) ≤ qac w v n ∧ qac w v n ≤ 1000001 * (n + 1)
  | 0, _, _ => by simp only [qac]; split <;> omega
  | n + 1, h, hn => by
    have ih := qac_b (w := w) (v := v) (n := n) (fun k hk => h k (by omega)) (by omega)
    have hv := h n (by omega)
    unfold sm at hv
    simp only [qac]
    repeat' split
    all_goals omega
section SP
variable {d : Nat} {I : Ii} {J : Jj} {sc s t g : Sx} {L : Nat → List Nat} {ps : Nat → Sx}
theorem s_maxl {a b : Int64} {K : KL} (h : K (if a < b then b else a) I J) : CalL wX d mJ9_max_f86c9 [.long a, .long b] I J K := by
  refine Cal.ofF pf_maxl (Nat.le_of_ble_eq_true rfl) (bJ9_max_f86c9_0 ?_)
  rw [lgc_lt]
  refine ⟨fun q => ?_, fun q => ?_⟩
  · rw [if_pos q] at h; exact h
  · rw [if_neg q] at h; exact h
theorem s_minl {a b : Int64} {K : KL} (h : K (if b < a then b else a) I J) : CalL wX d mJ9_min_f86c9 [.long a, .long b] I J K := by
  refine Cal.ofF pf_minl (Nat.le_of_ble_eq_true rfl) (bJ9_min_f86c9_0 ?_)
  rw [lgc_gt]
  refine ⟨fun q => ?_, fun q => ?_⟩
  · rw [if_pos q] at h; exact h
  · rw [if_neg q] at h; exact h
theorem sq_sm (hC : EnC I 3 sc L) (hS : EnS I 19 s) {p f : Nat} (hp : p < sc 0 1) (hf : f < sc 0 0) (j : Nat) : sm (sq sc s p f j) := by
  have hP := hC.2.1.2
  have hF := hC.1.2
  have h4 := (hC.2.2.2.2.2.2.1 p hp).2.2.2
  have h2 := (hC.2.2.2.2.2.1 f hf).2.2.2
  have b1 := pc8_le (who s 1 f)
  have b2 := pc8_le (who s 2 f)
  have by_ := hS.2.2.2.2.1.2
  have b7 := (hS.2.2.2.1 p (by omega)).2
  have b8 := mrk_sm (s := s) hC p
  unfold sq
  split
  case h_7 => exact b8
  all_goals (unfold sm; first | omega | (split <;> omega))
theorem s_answerFor {p w : Nat} {cs : List Nat} {tb : Bool} {K : KL} (hC : EnC I 3 sc L) (hS : EnS I 19 s) (hp : p < sc 0 1) (hF : EnF I 72 0 cs) (hty : tcs cs [] = some [tb]) (hoc : ∀ c, c ∈ cs → okc 4 c) (hw : 28 ≤ w ∧ w ≤ 33) (hwo : z_wo (I 71 6) = wop w) (h : ∀ I', (∀ a, a ≠ 76 → a ≠ 77 → I' a = I a) → K (lI (qac w (qv sc s p cs) (sc 0 0))) I' J) : CalL wX (d + 4) mX5_answerFor [.ref 71, .int (nI p)] I J K := by
  have hP := hC.2.1.2
  have hF8 := hC.1.2
  have hcn := tcs_ne hty
  have hmem : ∀ j, j + 40 ∈ cs → j < 12 → j ≠ 5 ∧ j ≠ 6 := by
    intro j hm hj
    have := (hoc _ hm).2 (by omega) (by omega) (by omega)
    simp only [alw, decide_eq_true_eq] at this
    omega
  have hwk := wop_wk w
  have i28 : wop w = some 10028 ↔ w = 28 := wop_i (i := 28) (by omega)
  have i29 : wop w = some 10029 ↔ w = 29 := wop_i (i := 29) (by omega)
  have i32 : wop w = some 10032 ↔ w = 32 := wop_i (i := 32) (by omega)
  have i33 : wop w = some 10033 ↔ w = 33 := wop_i (i := 33) (by omega)
  have vok : ∀ f, f < sc 0 0 → ∃ v, evs (sq sc s p f) (who s 1 f) cs [] = [v] ∧ okv tb v := by
    intro f hf
    have key : ∀ (cs : List Nat) (ts us : List Bool) (st : List Int), tcs cs ts = some us → okst ts st → okst us (evs (sq sc s p f) (who s 1 f) cs st) := by
      intro cs
      induction cs with
      | nil => intro ts us st h1 h2; simp only [tcs, Option.some.injEq] at h1; subst h1; exact h2
      | cons c cs ih =>
        intro ts us st h1 h2
        simp only [tcs] at h1
        cases e : tc1 c ts with
        | none => rw [e] at h1; cases h1
        | some t1 =>
          rw [e] at h1
          simp only at h1
          by_cases hl : t1.length ≤ 60
          · rw [if_pos hl] at h1
            exact ih t1 us _ h1 (ev_ok (fun k _ => sq_sm hC hS hp hf k) h2 e)
          · rw [if_neg hl] at h1; cases h1
    have := key cs [] [tb] [] hty trivial
    match hx : evs (sq sc s p f) (who s 1 f) cs [], this with
    | [v], this => exact ⟨v, rfl, this.1⟩
  have vsm : ∀ f, f < sc 0 0 → sm (qv sc s p cs f) := by
    intro f hf
    obtain ⟨v, e, hv⟩ := vok f hf
    unfold qv
    rw [e]
    exact okv_sm hv
  have key : ∀ r k I1, k + r = sc 0 0 → (∀ a, a ≠ 76 → a ≠ 77 → I1 a = I a) → GoL wX (d + 3 + 1) mX5_answerFor 31 [(0, .ref 71), (1, .int (nI p)), (2, .long (lI (qac w (qv sc s p cs) k))), (4, .int (nI k))] [] I1 J K := by
    intro r
    induction r with
    | zero =>
      intro k I1 hk f1
      obtain rfl : k = sc 0 0 := by omega
      refine bX5_answerFor_31 ?_
      rw [f1 3 (by omega) (by omega), hC.1.1]
      repeat' (first | (refine ⟨vp_in_nI (by omega) (by omega), ?_⟩) | (with_reducible refine And.intro ?_ ?_) | (with_reducible intro I9 e9; subst e9) | (with_reducible intro q9; try (simp (disch := omega) only [Int32.le_iff_toInt_le, Int32.lt_iff_toInt_lt, ← Int32.toInt_inj, nI_toInt, t_bq, t_pc8, t_bel, t_mI, t_ite, t_dec, sm_t, Int32.reduceToInt, t_m1, t_0, t_1, t_2, t_3, t_8, Int.natCast_eq_zero, Int.ofNat_le, Int.ofNat_lt, Int.ofNat_inj, not_true_eq_false, not_false_eq_true, forall_const] at q9); try (exfalso; omega)))
      exact h I1 f1
    | succ r ih =>
      intro k I1 hk f1
      have hkF : k < sc 0 0 := by omega
      have hC1 : EnC I1 3 sc L := hC.kept (fun a h1 h2 => f1 a (by omega) (by omega))
      have hS1 : EnS I1 19 s := hS.kept (fun a h1 h2 => f1 a (by omega) (by omega))
      refine bX5_answerFor_31 ?_
      rw [f1 3 (by omega) (by omega), hC.1.1, nI_1]
      refine ⟨fun z => ?_, fun _ => ?_⟩
      · simp (disch := omega) only [Int32.le_iff_toInt_le, Int32.lt_iff_toInt_lt, ← Int32.toInt_inj, nI_toInt, t_bq, t_pc8, t_bel, t_mI, t_ite, t_dec, sm_t, Int32.reduceToInt, t_m1, t_0, t_1, t_2, t_3, t_8, Int.natCast_eq_zero, Int.ofNat_le, Int.ofNat_lt, Int.ofNat_inj, not_true_eq_false, not_false_eq_true, forall_const] at z
        exfalso; omega
      refine s_fillSlots (d := d) hC1 hS1 hp hkF (fun I2 f2 hsl h12 => ?_)
      have hF2 : EnF I2 72 0 cs := hF.kept (by rw [f2 _ (by omega), f1 _ (by omega) (by omega)]) (by rw [f2 _ (by omega), f1 _ (by omega) (by omega)]) (by rw [f2 _ (by omega), f1 _ (by omega) (by omega)])
      refine s_value (k := 0) (σ := sq sc s p k) (who := who s 1 k) (t := tb) obX_72 arX_77 (by omega) (by decide) hF2 hcn (fun j hj => ⟨sq_sm hC hS hp hkF j, fun hm => hsl j hj (hmem j hm hj).1 (hmem j hm hj).2⟩) ⟨who_lt s 1 k, fun _ => h12⟩ hty (fun v I3 hev hov f3 => ?_)
      have r3 : ∀ a, a ≠ 76 → a ≠ 77 → I3 a = I a := fun a h6 h7 => by rw [f3 a h6, f2 a h7]; exact f1 a h6 h7
      have ev : qv sc s p cs k = v := by unfold qv; rw [hev]; rfl
      have hsv : sm v := okv_sm hov
      have hb := qac_b (w := w) (v := qv sc s p cs) (n := k) (fun j hj => vsm j (by omega)) (by omega)
      have hsv' := hsv
      unfold sm at hsv'
      have nxt := ih (k + 1) I3 (by omega) r3
      have l0 : ∀ z : Int, lI z = lI z := fun _ => rfl
      rw [r3 71 (by omega) (by omega), hwo, i28, i29, i32, i33, l64 hsv]
      have ez : iI v = 0 ↔ v = 0 := by
        rw [show (0 : Int32) = iI 0 from rfl]; exact iI_eq hsv (by unfold sm; omega)
      have ek : nI k = 0 ↔ k = 0 := by
        rw [show (0 : Int32) = nI 0 from rfl]; exact nI_eq (by omega) (by omega)
      have ekl : (nI k).toInt64 = lI (k : Int) := by rw [nI_l (by omega), ← lI_n]
      have em1 : lI (qac w (qv sc s p cs) k) = -1 ↔ qac w (qv sc s p cs) k = -1 := by
        rw [show (-1 : Int64) = lI (-1) from rfl]; exact lI_eqB (by omega) (by omega)
      rw [ez, ek, ekl, lgc_eq, em1]
      have stepA : qac w (qv sc s p cs) (k + 1) = if w = 32 then (if k = 0 then v else if qac w (qv sc s p cs) k < v then v else qac w (qv sc s p cs) k) else if w = 33 then (if k = 0 then v else if v < qac w (qv sc s p cs) k then v else qac w (qv sc s p cs) k) else if w = 29 then (if v ≠ 0 then (k : Int) else qac w (qv sc s p cs) k) else if w = 28 then (if v ≠ 0 ∧ qac w (qv sc s p cs) k = -1 then (k : Int) else qac w (qv sc s p cs) k) else qac w (qv sc s p cs) k + v := by
        simp only [qac, ev]
      rw [stepA] at nxt
      refine ⟨hwk, fun z1 => ⟨fun z2 => ⟨fun z3 => ⟨fun z4 => ?_, fun z4 => ⟨fun z5 => ?_, fun z5 => ⟨fun z6 => ?_, fun z6 => ?_⟩⟩⟩, fun z3 => ⟨fun z4 => ?_, fun z4 => ?_⟩⟩, fun z2 => ⟨fun z3 => s_minl ?_, fun z3 => ?_⟩⟩, fun z1 => ⟨fun z2 => s_maxl ?_, fun z2 => ?_⟩⟩
      · rw [if_neg z1, if_neg z2, if_neg z3, if_neg z4] at nxt
        rw [lI_addB (by omega) (by omega)]; exact nxt
      · rw [if_neg z1, if_neg z2, if_neg (by omega), if_pos z4, if_neg (fun y => y.1 z5)] at nxt; exact nxt
      · rw [if_neg z1, if_neg z2, if_neg (by omega), if_pos z4, if_neg (fun y => z6 y.2)] at nxt; exact nxt
      · rw [if_neg z1, if_neg z2, if_neg (by omega), if_pos z4, if_pos ⟨z5, z6⟩] at nxt; exact nxt
      · rw [if_neg z1, if_neg z2, if_pos z3, if_neg (fun y => y z4)] at nxt; exact nxt
      · rw [if_neg z1, if_neg z2, if_pos z3, if_pos z4] at nxt; exact nxt
      · rw [if_neg z1, if_pos z2, if_neg z3] at nxt
        by_cases e : v < qac w (qv sc s p cs) k
        · rw [if_pos e] at nxt; rw [if_pos ((lI_ltB (by omega) (by omega)).mpr e)]; exact nxt
        · rw [if_neg e] at nxt; rw [if_neg (fun y => e ((lI_ltB (by omega) (by omega)).mp y))]; exact nxt
      · rw [if_neg z1, if_pos z2, if_pos z3] at nxt; exact nxt
      · rw [if_pos z1, if_neg z2] at nxt
        by_cases e : qac w (qv sc s p cs) k < v
        · rw [if_pos e] at nxt; rw [if_pos ((lI_ltB (by omega) (by omega)).mpr e)]; exact nxt
        · rw [if_neg e] at nxt; rw [if_neg (fun y => e ((lI_ltB (by omega) (by omega)).mp y))]; exact nxt
      · rw [if_pos z1, if_pos z2] at nxt; exact nxt
  have k0 := key (sc 0 0) 0 I (by omega) (fun _ _ _ => rfl)
  refine Cal.of (by decide) (Nat.le_of_ble_eq_true rfl) (bX5_answerFor_0 ?_)
  rw [hwo, i28, i29]
  refine ⟨hwk, fun z => ?_, fun z => ⟨fun z2 => ?_, fun z2 => ?_⟩⟩
  · rw [show qac w (qv sc s p cs) 0 = -1 by simp only [qac]; rw [if_pos (Or.inl z)]] at k0; exact k0
  · rw [show qac w (qv sc s p cs) 0 = 0 by simp only [qac]; rw [if_neg (by omega)]] at k0; exact k0
  · rw [show qac w (qv sc s p cs) 0 = -1 by simp only [qac]; rw [if_pos (Or.inr z2)]] at k0; exact k0
/-- a reading's fault, noted -/
def gfl (g : Sx) (r : Res) : Sx := up (up g 0 1 r.1) 0 2 (if r.1 = 0 then 0 else r.2.1 + 1)
theorem EnX.txt {I I' : Ii} {k pl : Nat} (h : EnX I sc L s ps g) (hk : ∀ a, (a = 0 ∨ (2 ≤ a ∧ a ≤ 11) ∨ (19 ≤ a ∧ a ≤ 24) ∨ a = 30 ∨ a = 50 ∨ a = 51 ∨ a = 69 ∨ 78 ≤ a) → I' a = I a) (h43 : I' 43 6 = I 43 6) (h1 : I' 1 1 = 0) (h2 : I' 1 2 = nI k) (h3 : I' 1 3 = mI pl) : EnX I' sc L s ps (up (up (up g 0 0 0) 0 1 k) 0 2 pl) := by
  obtain ⟨hB, hA, hT, hR, hf, hr, hi, hd, hP⟩ := h
  refine EnX.re (g := g) ⟨hB, hA, hT, hR, hf, hr, hi, hd, hP⟩ (fun a ha => hk a (by omega)) ⟨⟨by rw [h1]; simp [up]; rfl, by simp [up]⟩, fun k hk => absurd hk (by simp [up])⟩ ?_ ⟨by rw [h2]; simp [up], by rw [h3]; simp [up]⟩ (fun j hj => ?_) ?_ ?_ ?_
  · unfold EnR; rw [h43, hk 50 (by omega), hk 51 (by omega)]; simpa [up, EnR] using hR
  · rw [hk 79 (by omega)]; simpa [up] using hr j hj
  · rw [hk 0 (by omega), hk 80 (by omega)]; simpa [up] using hi
  · rw [hk 0 (by omega)]; simpa [up] using hd
  · exact (((hP.fr (by rw [hk 0 (by omega)]; exact ⟨rfl, rfl⟩) (fun a ha => hk a (by omega))).put (by omega)).put (by omega)).put (by omega)
def r_ask (sc s g : Sx) (v : Int32) : Int64 := if isin v (sc 0 1) = true ∧ (qrd g).1 = 0 then lI (qac (wd g (skp g 0)) (qv sc s (idx v) (qrd g).2.2) (sc 0 0)) else -1000000000000000
def g_ask (sc g : Sx) (v : Int32) : Sx := if isin v (sc 0 1) = true then gfl (up g 0 0 0) (qrd g) else up g 0 0 0
theorem qrd_ok (h : (qrd g).1 = 0) : (28 ≤ wd g (skp g 0) ∧ wd g (skp g 0) ≤ 33) ∧ (∃ tb, tcs (qrd g).2.2 [] = some [tb]) ∧ ∀ c, c ∈ (qrd g).2.2 → okc 4 c := by
  unfold qrd at h ⊢
  by_cases e : 28 ≤ wd g (skp g 0) ∧ wd g (skp g 0) ≤ 33
  · rw [if_pos e] at h ⊢
    refine ⟨e, ?_⟩
    have qe : ∀ r : Res, (qend g r).1 = 0 → r.1 = 0 ∧ (qend g r).2.2 = r.2.2 := by
      intro r hr
      unfold qend at hr ⊢
      by_cases e1 : r.1 = 0
      · rw [if_pos e1] at hr ⊢
        by_cases e2 : tk g r.2.1 = 300
        · rw [if_pos e2]; exact ⟨e1, rfl⟩
        · rw [if_neg e2] at hr; exact absurd hr (by simp)
      · rw [if_neg e1] at hr; exact absurd hr e1
    have := qe _ h
    rw [this.2]
    by_cases e2 : wd g (skp g 0) ≤ 30
    · rw [if_pos e2] at this ⊢
      exact ⟨⟨true, (test_ty this.1).1⟩, (test_ty this.1).2⟩
    · rw [if_neg e2] at this ⊢
      exact ⟨⟨false, (sum_ty this.1).1⟩, (sum_ty this.1).2⟩
  · rw [if_neg e] at h; exact absurd h (by simp)
theorem x_ask {v : Int32} {K : KL} (hX : EnX I sc L s ps g) (h : ∀ I', EnX I' sc L s ps (g_ask sc g v) → K (r_ask sc s g v) I' J) : CalL wX (d + 34) mX12_ask [.ref 0, .int v] I J K := by
  have hP := hX.1.1.2.1.2
  have h78 : I 78 2 = nI 4 := (hX.2.2.2.2.2.2.2.2.1.2.2 0 (by omega)).2.2
  have fx : ∀ I1, FrQ I I1 → (∀ a, (a = 0 ∨ (2 ≤ a ∧ a ≤ 11) ∨ (19 ≤ a ∧ a ≤ 24) ∨ a = 30 ∨ a = 50 ∨ a = 51 ∨ a = 69 ∨ 78 ≤ a) → I1 a = I a) ∧ I1 43 6 = I 43 6 := fun I1 f1 => ⟨fun a ha => f1.1 a (by omega) (by omega), by rw [f1.1 43 (by omega) (by omega)]⟩
  refine Cal.of (by decide) (Nat.le_of_ble_eq_true rfl) (bX12_ask_0 (s_isPerson hX.1.1 ⟨fun q => ?_, fun q => ?_⟩))
  · rw [b01_0] at q
    rw [r_ask, g_ask, if_neg (by simp [q]), if_neg (by simp [q])] at h
    exact h _ (hX.cut (n := 0) (by omega))
  · rw [b01_n] at q
    obtain ⟨ev, h8⟩ := isin_t q
    rw [g_ask, if_pos q] at h
    refine s_qread (d := d) hX.2.2.1 h78 (fun e0 I1 f1 hF hwo e2 e3 => ?_) (fun e0 I1 f1 hFl => ?_)
    · rw [r_ask, if_pos ⟨q, e0⟩] at h
      generalize hj : idx v = j at *
      subst ev
      refine ⟨fun z => absurd z (by decide), fun _ => ?_⟩
      obtain ⟨hw, ⟨tb, hty⟩, hoc⟩ := qrd_ok e0
      have r4 : ∀ a, a ≠ 1 → u2 I1 1 1 0 a = I1 a := fun a ha => u2_row ha
      have hC4 : EnC (u2 I1 1 1 0) 3 sc L := hX.1.1.kept (fun a h1 h2 => by rw [r4 a (by omega)]; exact (fx I1 f1).1 a (by omega))
      have hS4 : EnS (u2 I1 1 1 0) 19 s := hX.1.2.1.kept (fun a h1 h2 => by rw [r4 a (by omega)]; exact (fx I1 f1).1 a (by omega))
      refine s_answerFor (d := d + 29) hC4 hS4 h8 (hF.kept (r4 _ (by omega)) (r4 _ (by omega)) (r4 _ (by omega))) hty hoc hw (by rw [r4 71 (by omega)]; exact hwo) (fun I2 f2 => h I2 ?_)
      have hg : gfl (up g 0 0 0) (qrd g) = up (up (up g 0 0 0) 0 1 0) 0 2 0 := by rw [gfl, e0]; simp
      rw [hg]
      refine hX.txt (fun a ha => ?_) ?_ ?_ ?_ ?_
      · rw [f2 a (by omega) (by omega), r4 a (by omega)]; exact (fx I1 f1).1 a ha
      · rw [f2 43 (by omega) (by omega), r4 43 (by omega)]; exact (fx I1 f1).2
      · rw [f2 1 (by omega) (by omega), u2_at]
      · rw [f2 1 (by omega) (by omega), u2_k (by omega), e2]; rfl
      · rw [f2 1 (by omega) (by omega), u2_k (by omega), e3]; rfl
    · rw [r_ask, if_neg (fun z => e0 z.2)] at h
      refine ⟨fun _ => h _ ?_, fun z => absurd rfl z⟩
      have hg : gfl (up g 0 0 0) (qrd g) = up (up (up g 0 0 0) 0 1 (qrd g).1) 0 2 ((qrd g).2.1 + 1) := by rw [gfl, if_neg e0]
      rw [hg]
      refine hX.txt (fun a ha => ?_) ?_ ?_ ?_ ?_
      · rw [u2_row (by omega)]; exact (fx I1 f1).1 a ha
      · rw [u2_row (by omega)]; exact (fx I1 f1).2
      · rw [u2_at]
      · rw [u2_k (by omega)]; exact hFl.1
      · rw [u2_k (by omega), mI_s]; exact hFl.2
end SP

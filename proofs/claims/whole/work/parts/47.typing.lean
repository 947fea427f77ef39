/-! codes out of the grammar are well made -/
def TyD (cs : List Nat) (t : Bool) (D : Nat) : Prop := ∀ ts : List Bool, ts.length + D ≤ 60 → tcs cs ts = some (t :: ts)
def okc (sco c : Nat) : Prop := (c = 60 → sco = 4) ∧ (40 ≤ c → c < 1000 → c ≠ 60 → alw sco (c - 24) = true)
def GT1 (sco : Nat) (r : Res) (t : Bool) (D : Nat) : Prop := r.1 = 0 → TyD r.2.2 t D ∧ ∀ c, c ∈ r.2.2 → okc sco c
def GT (sco : Nat) (p : Nat → Res) (t : Bool) (D : Nat) : Prop := ∀ q, GT1 sco (p q) t D
theorem tcs_app : ∀ (a b : List Nat) (ts : List Bool) {us : List Bool}, tcs a ts = some us → tcs (a ++ b) ts = tcs b us
  | [], b, ts, us, h => by simp only [tcs, Option.some.injEq] at h; subst h; rfl
  | c :: a, b, ts, us, h => by
    simp only [tcs, List.cons_append] at h ⊢
    cases e : tc1 c ts with
    | none => rw [e] at h; cases h
    | some t =>
      rw [e] at h
      simp only at h ⊢
      by_cases hl : t.length ≤ 60
      · rw [if_pos hl] at h ⊢; exact tcs_app a b t h
      · rw [if_neg hl] at h; cases h
theorem tcs_1 {c : Nat} {ts us : List Bool} (h : tc1 c ts = some us) (hl : us.length ≤ 60) : tcs [c] ts = some us := by simp [tcs, h, hl]
theorem TyD_le {cs : List Nat} {t : Bool} {D E : Nat} (h : TyD cs t D) (hE : D ≤ E) : TyD cs t E := fun ts hl => h ts (by omega)
/-- two, then what joins them -/
theorem TyD_bin {a b : List Nat} {t u : Bool} {c D : Nat} (ha : TyD a t (D + 1)) (hb : TyD b t D) (hD : 1 ≤ D) (hc : ∀ ts, tc1 c (t :: t :: ts) = some (u :: ts)) : TyD (a ++ b ++ [c]) u (D + 1) := by
  intro ts hl
  rw [tcs_app (a ++ b) [c] ts (us := t :: t :: ts)]
  · exact tcs_1 (hc ts) (by simp; omega)
  · rw [tcs_app a b ts (ha ts (by omega))]
    exact hb (t :: ts) (by simp; omega)
theorem TyD_un {a : List Nat} {t u : Bool} {c D : Nat} (ha : TyD a t D) (hD : 1 ≤ D) (hc : ∀ ts, tc1 c (t :: ts) = some (u :: ts)) : TyD (a ++ [c]) u D := by
  intro ts hl
  rw [tcs_app a [c] ts (ha ts hl)]
  exact tcs_1 (hc ts) (by simp; omega)
theorem TyD_1 {t : Bool} {c D : Nat} (hD : 1 ≤ D) (hc : ∀ ts, tc1 c ts = some (t :: ts)) : TyD [c] t D := fun ts hl => tcs_1 (hc ts) (by simp; omega)
theorem tc_S {c : Nat} (h : 1 ≤ c ∧ c ≤ 6) (ts : List Bool) : tc1 c (false :: false :: ts) = some (false :: ts) := by
  unfold tc1
  rw [if_neg (by omega), if_neg (by omega), if_neg (by omega), if_neg (by omega), if_neg (by omega), if_pos h]
theorem tc_C {c : Nat} (h : 7 ≤ c ∧ c ≤ 9) (ts : List Bool) : tc1 c (false :: false :: ts) = some (true :: ts) := by
  unfold tc1
  rw [if_neg (by omega), if_neg (by omega), if_neg (by omega), if_neg (by omega), if_neg (by omega), if_neg (by omega), if_pos h]
theorem tc_T {c : Nat} (h : 10 ≤ c ∧ c ≤ 11) (ts : List Bool) : tc1 c (true :: true :: ts) = some (true :: ts) := by
  unfold tc1
  rw [if_neg (by omega), if_neg (by omega), if_neg (by omega), if_neg (by omega), if_neg (by omega), if_neg (by omega), if_neg (by omega), if_pos h]
theorem tc_12 (ts : List Bool) : tc1 12 (true :: ts) = some (true :: ts) := rfl
theorem tc_13 (ts : List Bool) : tc1 13 ts = some (true :: ts) := rfl
theorem tc_60 (ts : List Bool) : tc1 60 (false :: ts) = some (false :: ts) := rfl
theorem tc_n {c : Nat} (h : 1000 ≤ c ∧ c ≤ 10999) (ts : List Bool) : tc1 c ts = some (false :: ts) := by
  unfold tc1
  rw [if_pos h.1, if_pos h.2]
theorem tc_p {c : Nat} (h : 40 ≤ c ∧ c < 52) (ts : List Bool) : tc1 c ts = some (false :: ts) := by
  unfold tc1
  rw [if_neg (by omega), if_neg (by omega), if_pos h.1, if_pos h.2]
section TY
variable {g : Sx} {sco D : Nat} {p rs rp rc rt : Nat → Res} {t : Bool} {op : Nat → Nat}
theorem okc_lo {c : Nat} (h : c < 40) : okc sco c := ⟨fun e => by omega, fun e => by omega⟩
theorem GT_loop (hp : GT sco p t D) (hD : 1 ≤ D) (hop : ∀ q, op q ≠ 0 → op q < 40 ∧ ∀ ts, tc1 (op q) (t :: t :: ts) = some (t :: ts)) : ∀ (f : Nat) (r : Res), GT1 sco r t (D + 1) → GT1 sco (pLoop g p op f r) t (D + 1)
  | 0, r, h => h
  | f + 1, r, h => by
    simp only [pLoop]
    split
    · next hc =>
      refine GT_loop hp hD hop f _ (fun hz => ?_)
      have h1 := h hc.1
      have h2 := hp (adv g r.2.1) hz
      have h3 := hop _ hc.2
      refine ⟨TyD_bin h1.1 h2.1 hD h3.2, fun c hm => ?_⟩
      simp only [List.mem_append, List.mem_singleton] at hm
      rcases hm with (hm | hm) | rfl
      · exact h1.2 c hm
      · exact h2.2 c hm
      · exact okc_lo h3.1
    · exact h
theorem GT_rLp (hp : GT sco p t D) (hD : 1 ≤ D) (hop : ∀ q, op q ≠ 0 → op q < 40 ∧ ∀ ts, tc1 (op q) (t :: t :: ts) = some (t :: ts)) : GT sco (rLp g p op) t (D + 1) := fun q => GT_loop hp hD hop _ _ (fun hz => ⟨TyD_le (hp q hz).1 (by omega), (hp q hz).2⟩)
theorem opP_c (q : Nat) (h : opP g q ≠ 0) : opP g q < 40 ∧ ∀ ts, tc1 (opP g q) (false :: false :: ts) = some (false :: ts) := by
  have : 1 ≤ opP g q ∧ opP g q ≤ 6 := by unfold opP at h ⊢; split <;> (try split) <;> simp_all
  exact ⟨by omega, tc_S this⟩
theorem opS_c (q : Nat) (h : opS g q ≠ 0) : opS g q < 40 ∧ ∀ ts, tc1 (opS g q) (false :: false :: ts) = some (false :: ts) := by
  have : 1 ≤ opS g q ∧ opS g q ≤ 6 := by unfold opS at h ⊢; split <;> (try split) <;> simp_all
  exact ⟨by omega, tc_S this⟩
theorem opA_c (q : Nat) (h : opA g q ≠ 0) : opA g q < 40 ∧ ∀ ts, tc1 (opA g q) (true :: true :: ts) = some (true :: ts) := by
  have : 10 ≤ opA g q ∧ opA g q ≤ 11 := by unfold opA at h ⊢; split <;> simp_all
  exact ⟨by omega, tc_T this⟩
theorem opO_c (q : Nat) (h : opO g q ≠ 0) : opO g q < 40 ∧ ∀ ts, tc1 (opO g q) (true :: true :: ts) = some (true :: ts) := by
  have : 10 ≤ opO g q ∧ opO g q ≤ 11 := by unfold opO at h ⊢; split <;> simp_all
  exact ⟨by omega, tc_T this⟩
theorem opC_c (q : Nat) (h : opC g q ≠ 0) : 7 ≤ opC g q ∧ opC g q ≤ 9 := by unfold opC at h ⊢; split <;> (try split) <;> (try split) <;> simp_all
theorem GT_sumL (hp : GT sco rp false D) (hD : 1 ≤ D) : GT sco (pSumL g rp) false (D + 2) := GT_rLp (GT_rLp hp hD opP_c) (by omega) opS_c
theorem GT_testL (hp : GT sco rc true D) (hD : 1 ≤ D) : GT sco (pTestL g rc) true (D + 2) := GT_rLp (GT_rLp hp hD opA_c) (by omega) opO_c
theorem xSg_0 {c : Nat} {r : Res} (h : (xSg g c r).1 = 0) : r.1 = 0 ∧ (xSg g c r).2.2 = r.2.2 := by
  unfold xSg at h ⊢
  by_cases e : r.1 = 0
  · rw [if_pos e] at h ⊢
    by_cases e2 : tk g r.2.1 = c
    · rw [if_pos e2]; exact ⟨e, rfl⟩
    · rw [if_neg e2] at h; exact absurd h (by simp)
  · rw [if_neg e] at h; exact absurd h e
theorem xTh_0 {r : Res} (h : (xTh r p).1 = 0) : r.1 = 0 ∧ (p r.2.1).1 = 0 ∧ (xTh r p).2.2 = r.2.2 ++ (p r.2.1).2.2 := by
  unfold xTh at h ⊢
  by_cases e : r.1 = 0
  · rw [if_pos e] at h ⊢; exact ⟨e, h, rfl⟩
  · rw [if_neg e] at h; exact absurd h e
theorem xOp_0 {m q : Nat} (h : (xOp g m q).1 = 0) : m ≠ 0 ∧ (xOp g m q).2.2 = [] := by
  unfold xOp at h ⊢
  by_cases e : m = 0
  · rw [if_pos e] at h; exact absurd h (by simp)
  · rw [if_neg e]; exact ⟨e, rfl⟩
theorem GT_partF {m : Nat} (hs : GT sco rs false D) (hp : GT sco rp false D) (hD : 1 ≤ D) : GT sco (pPartF g sco rs rp m) false (D + 1) := by
  intro q
  unfold pPartF
  split
  · split
    · intro _
      have hv := tvl_lt (g := g) q
      refine ⟨TyD_1 (by omega) (tc_n (by omega)), fun c hc => ?_⟩
      simp only [List.mem_singleton] at hc
      subst hc
      exact ⟨fun e => by omega, fun _ e => by omega⟩
    · intro z; exact absurd z (by simp)
  · split
    · intro hz
      have h1 := xSg_0 hz
      have h2 := xTh_0 h1.1
      have h3 := xOp_0 h2.1
      rw [h1.2, h2.2.2, h3.2, List.nil_append]
      have h4 := hs _ h2.2.1
      exact ⟨TyD_le h4.1 (by omega), h4.2⟩
    · have pair : ∀ c, (c = 5 ∨ c = 6) → GT1 sco (pPair g rs m c (adv g q)) false (D + 1) := by
        intro c hc
        unfold pPair
        split
        · intro hz
          rw [xCd_1] at hz
          have h1 := xSg_0 hz
          have h2 := xTh_0 h1.1
          have h3 := xSg_0 h2.1
          have h4 := xTh_0 h3.1
          have h5 := xOp_0 h4.1
          have e : (xCd c (xSg g 41 (xTh (xSg g 44 (xTh (xOp g m (adv g q)) rs)) rs))).2.2 = (rs (xOp g m (adv g q)).2.1).2.2 ++ (rs (xSg g 44 (xTh (xOp g m (adv g q)) rs)).2.1).2.2 ++ [c] := by
            simp only [xCd]
            rw [h1.2, h2.2.2, h3.2, h4.2.2, h5.2, List.nil_append]
          rw [e]
          have a := hs _ h4.2.1
          have b := hs _ h2.2.1
          refine ⟨TyD_bin (TyD_le a.1 (by omega)) b.1 hD (tc_S (by omega)), fun k hk => ?_⟩
          simp only [List.mem_append, List.mem_singleton] at hk
          rcases hk with (hk | hk) | rfl
          · exact a.2 k hk
          · exact b.2 k hk
          · exact okc_lo (by omega)
        · intro z; exact absurd z (by simp)
      split
      · exact pair 5 (Or.inl rfl)
      · split
        · exact pair 6 (Or.inr rfl)
        · split
          · next e =>
            intro hz
            rw [xCd_1] at hz
            have h2 := xTh_0 hz
            have h3 := xOp_0 h2.1
            have h4 := hp _ h2.2.1
            simp only [xCd]
            rw [h2.2.2, h3.2, List.nil_append]
            refine ⟨TyD_le (TyD_un h4.1 hD tc_60) (by omega), fun k hk => ?_⟩
            simp only [List.mem_append, List.mem_singleton] at hk
            rcases hk with hk | rfl
            · exact h4.2 k hk
            · exact ⟨fun _ => e.2, fun _ _ e => absurd rfl e⟩
          · split
            · next e =>
              intro _
              have hw : 16 ≤ wd g q ∧ wd g q < 28 := by simp only [alw, decide_eq_true_eq] at e; omega
              refine ⟨TyD_1 (by omega) (tc_p (by omega)), fun k hk => ?_⟩
              simp only [List.mem_singleton] at hk
              subst hk
              exact ⟨fun z => by omega, fun _ _ _ => by rw [show 24 + wd g q - 24 = wd g q by omega]; exact e⟩
            · intro z; exact absurd z (by simp)
theorem GT_le {E : Nat} (h : GT sco p t D) (hE : D ≤ E) : GT sco p t E := fun q hz => ⟨TyD_le (h q hz).1 hE, (h q hz).2⟩
theorem GT_no : GT sco (fun q => (1, q, [])) t D := fun q z => absurd z (by simp)
theorem GT_part : ∀ m, GT sco (pPart g sco m) false (2 + 3 * m)
  | 0 => GT_partF GT_no GT_no (by omega)
  | m + 1 => by
    have h := GT_sumL (g := g) (GT_part m) (by omega)
    exact GT_partF (D := 2 + 3 * m + 2) h (fun q hz => ⟨TyD_le (GT_part m q hz).1 (by omega), (GT_part m q hz).2⟩) (by omega)
theorem GT_sum (m : Nat) : GT sco (pSum g sco m) false (4 + 3 * m) := GT_le (GT_sumL (GT_part m) (by omega)) (by omega)
theorem GT_claimF {m : Nat} (ht : GT sco rt true D) (hc : GT sco rc true D) (hs : GT sco rs false D) (hD : 1 ≤ D) : GT sco (pClaimF g rt rc rs m) true (D + 1) := by
  intro q
  unfold pClaimF
  split
  · intro hz
    rw [xCd_1] at hz
    have h2 := xTh_0 hz
    have h3 := xOp_0 h2.1
    have h4 := hc _ h2.2.1
    simp only [xCd]
    rw [h2.2.2, h3.2, List.nil_append]
    refine ⟨TyD_le (TyD_un h4.1 hD tc_12) (by omega), fun k hk => ?_⟩
    simp only [List.mem_append, List.mem_singleton] at hk
    rcases hk with hk | rfl
    · exact h4.2 k hk
    · exact okc_lo (by omega)
  · split
    · intro _
      refine ⟨TyD_1 (by omega) tc_13, fun k hk => ?_⟩
      simp only [List.mem_singleton] at hk
      subst hk
      exact okc_lo (by omega)
    · split
      · intro hz
        have h1 := xSg_0 hz
        have h2 := xTh_0 h1.1
        have h3 := xOp_0 h2.1
        rw [h1.2, h2.2.2, h3.2, List.nil_append]
        have h4 := ht _ h2.2.1
        exact ⟨TyD_le h4.1 (by omega), h4.2⟩
      · split
        · next e =>
          split
          · intro z; exact absurd z (by simp)
          · next e2 =>
            intro hz
            rw [xCd_1] at hz
            have h2 := xTh_0 hz
            have a := hs _ e
            have b := hs _ h2.2.1
            have oc := opC_c _ e2
            simp only [xCd]
            rw [h2.2.2]
            refine ⟨TyD_bin (TyD_le a.1 (by omega)) b.1 hD (tc_C oc), fun k hk => ?_⟩
            simp only [List.mem_append, List.mem_singleton] at hk
            rcases hk with (hk | hk) | rfl
            · exact a.2 k hk
            · exact b.2 k hk
            · exact okc_lo (by omega)
        · next e => intro hz; exact absurd hz e
theorem GT_claim : ∀ m, GT sco (pClaim g sco m) true (5 + 3 * m)
  | 0 => GT_claimF GT_no GT_no (GT_sum 0) (by omega)
  | m + 1 => by
    have h := GT_testL (g := g) (GT_claim m) (by omega)
    exact GT_le (GT_claimF (D := 4 + 3 * (m + 1)) (GT_le h (by omega)) (GT_le (GT_claim m) (by omega)) (GT_sum (m + 1)) (by omega)) (by omega)
theorem GT_test (m : Nat) : GT sco (pTest g sco m) true (7 + 3 * m) := GT_le (GT_testL (GT_claim m) (by omega)) (by omega)
/-- what follows for a whole text -/
theorem test_ty {q : Nat} (h : (pTest g sco 6 q).1 = 0) : tcs (pTest g sco 6 q).2.2 [] = some [true] ∧ ∀ c, c ∈ (pTest g sco 6 q).2.2 → okc sco c := ⟨(GT_test 6 q h).1 [] (by simp), (GT_test 6 q h).2⟩
theorem sum_ty {q : Nat} (h : (pSum g sco 6 q).1 = 0) : tcs (pSum g sco 6 q).2.2 [] = some [false] ∧ ∀ c, c ∈ (pSum g sco 6 q).2.2 → okc sco c := ⟨(GT_sum 6 q h).1 [] (by simp), (GT_sum 6 q h).2⟩
theorem okc_lok {w c : Nat} (h : okc (if w = 2 then 2 else 1) c) (hw : w < 3) : lok w c := by
  refine ⟨fun e => ?_, fun h1 h2 => ?_⟩
  · have := h.1 e
    split at this <;> omega
  · have h3 := h.2 h1 h2 (fun e => by have := h.1 e; split at this <;> omega)
    simp only [alw, decide_eq_true_eq] at h3
    split
    · next e => rw [if_pos e] at h3; omega
    · next e => rw [if_neg e] at h3; omega
theorem tcs_ne {cs : List Nat} {t : Bool} (h : tcs cs [] = some [t]) : cs ≠ [] := by
  rintro rfl
  simp [tcs] at h
end TY

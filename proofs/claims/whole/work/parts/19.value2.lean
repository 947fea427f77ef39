/-! Formula.isTold, Formula.value -/
/-- a formula at o holds for its part k the codes cs -/
def EnF (I : Ii) (o k : Nat) (cs : List Nat) : Prop := ∃ f t, I (o + 2) k = nI f ∧ I (o + 3) k = nI t ∧ f + cs.length = t ∧ t ≤ 1600 ∧ ∀ i, i < cs.length → I (o + 1) (f + i) = iI (trc (cs.getD i 0))
theorem EnF.kept {I I' : Ii} {o k : Nat} {cs : List Nat} (h : EnF I o k cs) (h1 : I' (o + 1) = I (o + 1)) (h2 : I' (o + 2) = I (o + 2)) (h3 : I' (o + 3) = I (o + 3)) : EnF I' o k cs := by
  unfold EnF at h ⊢
  rw [h1, h2, h3]
  exact h
section SP
variable {d : Nat} {I : Ii} {J : Jj}
theorem s_isTold {o k : Nat} {cs : List Nat} {K : KI} (ho : z_Ob wX o 3) (hk : k < 3) (hF : EnF I o k cs) (h : K (if cs = [] then 0 else 1) I J) : CalI wX d mX3_isTold [.ref o, .int (nI k)] I J K := by
  obtain ⟨f, t, hf, ht, hft, h16, -⟩ := hF
  refine Cal.of (by decide) (Nat.le_of_ble_eq_true rfl) (bX3_isTold_0 ho ⟨fun q => absurd q (nI_pos (by omega)), fun _ => ⟨fun q => absurd ((nI_leI (a := 3) (by decide) (by omega)).mp q) (by omega), fun _ => ⟨vp_in_nI hk (by omega), ?_⟩⟩⟩)
  rw [nI_clamp (by omega), hf, ht, nI_leI (by omega) (by omega)]
  refine ⟨fun q => ?_, fun q => ?_⟩
  · have : cs = [] := List.length_eq_zero_iff.mp (by omega)
    rw [if_pos this] at h
    exact h
  · have : cs ≠ [] := fun e => by rw [e] at hft; simp at hft; omega
    rw [if_neg this] at h
    exact h
theorem s_max {a b : Int32} {K : KI} (h : K (if a < b then b else a) I J) : CalI wX d mJ9_max_7cf53 [.int a, .int b] I J K := by
  refine Cal.ofF pf_max (Nat.le_of_ble_eq_true rfl) (bJ9_max_7cf53_0 ⟨fun q => ?_, fun q => ?_⟩)
  · rw [if_pos q] at h; exact h
  · rw [if_neg q] at h; exact h
theorem s_min {a b : Int32} {K : KI} (h : K (if b < a then b else a) I J) : CalI wX d mJ9_min_7cf53 [.int a, .int b] I J K := by
  refine Cal.ofF pf_min (Nat.le_of_ble_eq_true rfl) (bJ9_min_7cf53_0 ⟨fun q => ?_, fun q => ?_⟩)
  · rw [if_pos q] at h; exact h
  · rw [if_neg q] at h; exact h
/-- the pile, the oldest first -/
def plo (R : Nat → Int32) (st : List Int) : Prop := ∀ i, i < st.length → R i = iI (st.getD (st.length - 1 - i) 0)
theorem plo_push {R R' : Nat → Int32} {st : List Int} {v : Int} (h : plo R st) (hv : R' st.length = iI v) (hk : ∀ i, i < st.length → R' i = R i) : plo R' (v :: st) := by
  intro i hi
  simp only [List.length_cons] at hi ⊢
  by_cases e : i = st.length
  · subst e
    rw [hv, show st.length + 1 - 1 - st.length = 0 by omega]
    rfl
  · rw [hk i (by omega), h i (by omega), show st.length + 1 - 1 - i = (st.length - 1 - i) + 1 by omega, List.getD_cons_succ]
theorem plo_top {R : Nat → Int32} {st : List Int} {v : Int} (h : plo R (v :: st)) : R st.length = iI v := by
  have := h st.length (by simp)
  rw [this]
  simp
theorem plo_tail {R : Nat → Int32} {st : List Int} {v : Int} (h : plo R (v :: st)) : plo R st := by
  intro i hi
  have := h i (by simp; omega)
  rw [this]
  simp only [List.length_cons]
  rw [show st.length + 1 - 1 - i = (st.length - 1 - i) + 1 by omega, List.getD_cons_succ]
theorem k31_bit : ∀ n, n < 256 → ∀ j, j < 31 → 8 ≤ j → (nI n >>> (nI j &&& 31)) &&& 1 = 0 := by decide +kernel
theorem s_hasBitI {n : Nat} {v : Int} {K : KI} (hn : n < 256) (hv : sm v) (h : K (iI (if 0 ≤ v ∧ v < 8 ∧ bq n v.toNat = 1 then 1 else 0)) I J) : CalI wX d mX12_hasBit [.int (nI n), .int (iI v)] I J K := by
  by_cases h0 : v < 0
  · rw [if_neg (by omega)] at h
    refine Cal.of (by decide) (Nat.le_of_ble_eq_true rfl) (bX12_hasBit_0 ⟨fun _ => h, fun q => absurd ?_ q⟩)
    exact (iI_lt (b := 0) hv (by unfold sm; omega)).mpr h0
  · obtain ⟨j, rfl⟩ : ∃ j : Nat, v = (j : Int) := ⟨v.toNat, by omega⟩
    rw [iI_n]
    unfold sm at hv
    by_cases h8 : j < 8
    · refine s_hasBit hn h8 ?_
      rcases bq01 n j with e | e
      · rw [if_neg (by simp [e])] at h; rw [e]; exact h
      · rw [if_pos ⟨by omega, by omega, by simpa using e⟩] at h; rw [e]; exact h
    · rw [if_neg (by omega)] at h
      refine Cal.of (by decide) (Nat.le_of_ble_eq_true rfl) (bX12_hasBit_0 ⟨fun _ => h, fun _ => ⟨fun _ => h, fun q => ⟨fun _ => h, fun q2 => ?_⟩⟩⟩)
      have hj : j < 31 := by
        rcases Nat.lt_or_ge j 31 with z | z
        · exact z
        · exact absurd (nI_le (a := 31) (b := j) z (by omega)) q
      rw [k31_bit n hn j hj (by omega)] at q2
      exact absurd q2 (by decide)
theorem s_value {o a k who : Nat} {cs : List Nat} {σ : Nat → Int} {t : Bool} {K : KI} (ho : z_Ob wX o 3) (ha : z_Ar wX a 1 13) (hk : k < 3) (hao : a ≠ o + 4)
    (hF : EnF I o k cs) (hn : cs ≠ []) (hσ : ∀ j, j < 12 → sm (σ j) ∧ (j + 40 ∈ cs → I a j = iI (σ j))) (hw : who < 256 ∧ (60 ∈ cs → I a 12 = nI who)) (ht : tcs cs [] = some [t])
    (h : ∀ v I', evs σ who cs [] = [v] → okv t v → (∀ q, q ≠ o + 4 → I' q = I q) → K (iI v) I' J) : CalI wX (d + 2) mX3_value [.ref o, .int (nI k), .ref a] I J K := by
  refine Cal.of (by decide) (Nat.le_of_ble_eq_true rfl) (bX3_value_0 ho ha (s_isTold ho hk hF ⟨fun q => ?_, fun _ => ⟨vp_in_nI hk (by omega), ?_⟩⟩))
  · rw [if_neg hn] at q; exact absurd q (by decide)
  obtain ⟨f, e, hf, he, hfe, h16, hst⟩ := hF
  rw [nI_clamp (by omega), hf]
  refine s_max ?_
  rw [if_neg (nI_pos (by omega))]
  -- the loop
  have key : ∀ (n : Nat) (i : Nat) (st : List Int) (ts : List Bool) (I1 : Ii), i + n = cs.length → okst ts st → ts.length ≤ 60 → tcs (cs.drop i) ts = some [t] → evs σ who cs [] = evs σ who (cs.drop i) st → plo (I1 (o + 4)) st → (∀ q, q ≠ o + 4 → I1 q = I q) →
      GoI wX (d + 1 + 1) mX3_value 31 [(0, .ref o), (1, .int (nI k)), (2, .ref a), (3, .int (nI st.length)), (4, .int (nI (f + i)))] [] I1 J K := by
    intro n
    induction n with
    | zero =>
      intro i st ts I1 hi hok hlen htc hev hpl hI1
      have hd : cs.drop i = [] := List.drop_eq_nil_of_le (by omega)
      rw [hd] at htc hev
      cases htc
      match st, hok with
      | [v], hok =>
        refine bX3_value_31 ho ha ⟨vp_in_nI hk (by omega), ?_⟩
        rw [nI_clamp (by omega), hI1 (o + 3) (by omega), he]
        have e0 : nI [v].length - 1 = nI 0 := nI_pred 0
        rw [e0]
        refine ⟨fun _ => ⟨fun q => absurd ((nI_ltI (a := 1) (b := 1) (by decide) (by decide)).mp q) (by omega), fun _ => ⟨vp_in_nI (by omega) (by omega), ?_⟩⟩, fun q => absurd (nI_le (by omega) (by omega)) q⟩
        have hv := plo_top hpl
        rw [nI_clamp (by omega)]
        have hv : I1 (o + 4) 0 = iI v := hv
        rw [hv]
        exact h v I1 hev hok.1 hI1
    | succ n ih =>
      intro i st ts I1 hi hok hlen htc hev hpl hI1
      have hil : i < cs.length := by omega
      obtain ⟨c, hc⟩ : ∃ c, cs[i]? = some c := ⟨cs[i], by simp [hil]⟩
      have hcd : cs.drop i = c :: cs.drop (i + 1) := by
        rw [List.drop_eq_getElem_cons hil]
        congr 1
        have := List.getElem?_eq_getElem hil
        rw [this] at hc
        exact Option.some.inj hc
      have hcm : c ∈ cs := List.mem_of_getElem? hc
      have hcD : cs.getD i 0 = c := by simp [List.getD, hc]
      have hlst := okst_len hok
      rw [hcd] at htc hev
      simp only [tcs] at htc
      cases ht1 : tc1 c ts with
      | none => rw [ht1] at htc; cases htc
      | some ts' =>
        rw [ht1] at htc
        simp only at htc
        by_cases hl6 : ts'.length ≤ 60
        case neg => rw [if_neg hl6] at htc; cases htc
        rw [if_pos hl6] at htc
        have hok' := ev_ok (σ := σ) (who := who) (fun j hj => (hσ j hj).1) hok ht1
        have hstep : I1 (o + 1) (nI (f + i)).toNatClampNeg = iI (trc c) := by
          rw [nI_clamp (by omega), hI1 (o + 1) (by omega), hst i hil, hcD]
        have hev' : evs σ who cs [] = evs σ who (cs.drop (i + 1)) (ev1 σ who c st) := hev
        -- go on with any memory that holds the new pile
        have go : ∀ (st' : List Int) (I2 : Ii), ev1 σ who c st = st' → plo (I2 (o + 4)) st' → (∀ q, q ≠ o + 4 → I2 q = I q) → GoI wX (d + 1 + 1) mX3_value 31 [(0, .ref o), (1, .int (nI k)), (2, .ref a), (3, .int (nI st'.length)), (4, .int (nI (f + i) + 1))] [] I2 J K := by
          intro st' I2 e1 e2 e3
          subst e1
          rw [nI_1, Nat.add_assoc]
          exact ih (i + 1) _ _ I2 (by omega) hok' hl6 htc hev' e2 e3
        refine bX3_value_31 ho ha ⟨vp_in_nI hk (by omega), ?_⟩
        rw [nI_clamp (show k < 2 ^ 31 by omega), hI1 (o + 3) (by omega), he]
        refine ⟨fun q => absurd ((nI_leI (by omega) (by omega)).mp q) (by omega), fun _ => ⟨fun q => absurd ((nI_leI (a := 1600) (by decide) (by omega)).mp q) (by omega), fun _ => ⟨vp_in_nI (by omega) (by omega), ?_⟩⟩⟩
        rw [hstep]
        have hsl : st.length ≤ 60 := by omega
        -- a push
        have push : ∀ (v : Int), ev1 σ who c st = v :: st → GoI wX (d + 1 + 1) mX3_value 31 [(0, .ref o), (1, .int (nI k)), (2, .ref a), (3, .int (nI st.length + 1)), (4, .int (nI (f + i) + 1))] [] (u2 I1 (o + 4) (nI st.length).toNatClampNeg (iI v)) J K := by
          intro v e1
          rw [nI_clamp (by omega), nI_1]
          have := go (v :: st) (u2 I1 (o + 4) st.length (iI v)) e1 (plo_push hpl (u2_at _ _ _ _) (fun j hj => u2_k (by omega))) (fun q hq => by rw [u2_row hq]; exact hI1 q hq)
          simpa using this
        have hx13 : ∀ {x : Int}, sm x → (iI x < -13 ↔ x < -13) := fun hx => by rw [show (-13 : Int32) = iI (-13) by decide]; exact iI_lt hx (by unfold sm; omega)
        have hx0 : ∀ {x : Int}, sm x → (iI x < 0 ↔ x < 0) := fun hx => iI_lt (b := 0) hx (by unfold sm; omega)
        have h64 : ¬ (64 : Int32) ≤ nI st.length := fun q => absurd ((nI_leI (a := 64) (by decide) (by omega)).mp q) (by omega)
        have hin : vp_in (nI st.length) 64 := vp_in_nI (by omega) (by omega)
        unfold tc1 at ht1
        split at ht1
        · next c1 =>
          split at ht1
          case isFalse => cases ht1
          next c2 =>
          have e1 : trc c = (c : Int) - 1000 := by simp [trc, c1]
          have hsm : sm (trc c) := by rw [e1]; unfold sm; omega
          have hpu := push (trc c) (by simp [ev1, c1, e1])
          exact ⟨fun q => absurd ((hx13 hsm).mp q) (by omega), fun _ => ⟨fun q => absurd q h64, fun _ => ⟨fun q => absurd ((hx0 hsm).mp q) (by omega), fun _ => ⟨hin, hpu⟩⟩⟩⟩
        · next c1 =>
          split at ht1
          · next c2 =>
            subst c2
            match ts, st, hok with
            | false :: ts0, v :: st0, hok =>
              have hv := plo_top hpl
              have e2 : nI (v :: st0).length - 1 = nI st0.length := by rw [List.length_cons]; exact nI_pred _
              rw [e2]
              have hin' : vp_in (nI st0.length) 64 := vp_in_nI (by simp at hsl; omega) (by omega)
              have e3 : iI (trc 60) = -32 := by decide
              rw [e3]
              refine ⟨fun _ => ⟨fun _ => ⟨fun q => absurd rfl q, fun _ => ⟨fun q => absurd q ?_, fun _ => ⟨hin', ?_⟩⟩⟩, fun q => absurd q (by decide)⟩, fun q => absurd (by decide) q⟩
              · exact fun q => absurd ((nI_ltI (b := 1) (by simp at hsl ⊢; omega) (by decide)).mp q) (by simp)
              · rw [nI_clamp (by simp at hsl; omega), hv, hI1 a hao, show ((12 : Int32)).toNatClampNeg = 12 from rfl, hw.2 hcm]
                refine s_hasBitI hw.1 (okv_sm hok.1) ?_
                have g0 : ∀ (z : Int), (z = 0 ∨ z = 1) → (if 0 ≤ v ∧ v < 8 ∧ bq who v.toNat = 1 then (1 : Int) else 0) = z → GoI wX (d + 1 + 1) mX3_value 31 [(0, .ref o), (1, .int (nI k)), (2, .ref a), (3, .int (nI (v :: st0).length)), (4, .int (nI (f + i) + 1))] [] (u2 I1 (o + 4) st0.length (iI z)) J K := by
                  intro z _ ez
                  have := go (z :: st0) (u2 I1 (o + 4) st0.length (iI z)) (by simp [ev1, ez]) (plo_push (plo_tail hpl) (u2_at _ _ _ _) (fun j hj => u2_k (by omega))) (fun q hq => by rw [u2_row hq]; exact hI1 q hq)
                  simpa using this
                refine ⟨fun q => ?_, fun q => ?_⟩
                · by_cases hb : 0 ≤ v ∧ v < 8 ∧ bq who v.toNat = 1
                  · rw [if_pos hb] at q; exact absurd q (by decide)
                  · exact g0 0 (Or.inl rfl) (if_neg hb)
                · by_cases hb : 0 ≤ v ∧ v < 8 ∧ bq who v.toNat = 1
                  · exact g0 1 (Or.inr rfl) (if_pos hb)
                  · rw [if_neg hb] at q; exact absurd rfl q
            | true :: ts0, v :: st0, hok => cases ht1
            | [], [], hok => cases ht1
          · next c2 =>
            split at ht1
            · next c3 =>
              split at ht1
              case isFalse => cases ht1
              next c4 =>
              have e1 : trc c = 39 - (c : Int) := by simp [trc, c1, c2, c3]
              have hsm : sm (trc c) := by rw [e1]; unfold sm; omega
              have e2 : (-1 : Int32) - iI (trc c) = nI (c - 40) := by
                rw [← iI_n]
                have h9 : ((-1 : Int32)).toInt = -1 := by decide
                exact i32_ext (by rw [Jvm.Kit.i32_sub (by rw [h9, sm_t hsm]; omega) (by rw [h9, sm_t hsm]; omega), h9, sm_t hsm, iI_t (by omega) (by omega)]; omega)
              have hpu := push (σ (c - 40)) (by simp [ev1, c1, c2, c3])
              rw [e2, nI_clamp (show c - 40 < 2 ^ 31 by omega), hI1 a hao, (hσ (c - 40) (by omega)).2 (by rw [show c - 40 + 40 = c by omega]; exact hcm)]
              exact ⟨fun q => absurd ((hx13 hsm).mp q) (by omega), fun _ => ⟨fun q => absurd q h64, fun _ => ⟨fun _ => ⟨vp_in_nI (by omega) (by omega), hin, hpu⟩, fun q => absurd ((hx0 hsm).mpr (by omega)) q⟩⟩⟩
            · next c3 =>
              split at ht1
              · next c4 =>
                subst c4
                have e3 : iI (trc 13) = 1 := by decide
                have hpu := push 1 (by simp [ev1])
                rw [e3]
                exact ⟨fun q => absurd q (by decide), fun _ => ⟨fun q => absurd q h64, fun _ => ⟨fun q => absurd q (by decide), fun _ => ⟨hin, hpu⟩⟩⟩⟩
              · next c4 =>
                split at ht1
                · next c5 =>
                  subst c5
                  match ts, st, hok with
                  | true :: ts0, v :: st0, hok =>
                    have hv := plo_top hpl
                    have e2 : nI (v :: st0).length - 1 = nI st0.length := by rw [List.length_cons]; exact nI_pred _
                    rw [e2]
                    have hin' : vp_in (nI st0.length) 64 := vp_in_nI (by simp at hsl; omega) (by omega)
                    have e3 : iI (trc 12) = -31 := by decide
                    rw [e3]
                    refine ⟨fun _ => ⟨fun q => absurd rfl q, fun _ => ⟨fun q => absurd q ?_, fun _ => ⟨hin', ?_⟩⟩⟩, fun q => absurd (by decide) q⟩
                    · exact fun q => absurd ((nI_ltI (b := 1) (by simp at hsl ⊢; omega) (by decide)).mp q) (by simp)
                    · rw [nI_clamp (by simp at hsl; omega), hv]
                      have h01 : v = 0 ∨ v = 1 := hok.1
                      have e4 : (1 : Int32) - iI v = iI (1 - v) := by rcases h01 with rfl | rfl <;> rfl
                      rw [e4]
                      have := go ((1 - v) :: st0) (u2 I1 (o + 4) st0.length (iI (1 - v))) (by simp [ev1]) (plo_push (plo_tail hpl) (u2_at _ _ _ _) (fun j hj => u2_k (by omega))) (fun q hq => by rw [u2_row hq]; exact hI1 q hq)
                      simpa using this
                  | false :: ts0, v :: st0, hok => cases ht1
                  | [], [], hok => cases ht1
                · next c5 =>
                  -- the two on top are joined
                  have hsh : ∃ v w st0, st = v :: w :: st0 ∧ 1 ≤ c ∧ c ≤ 11 ∧ okj c w v := by
                    split at ht1
                    · next c6 =>
                      match ts, st, hok with
                      | false :: false :: ts0, v :: w :: st0, hok => exact ⟨v, w, st0, rfl, by omega, by omega, by rw [okj, if_pos (by omega)]; exact ⟨hok.2.1, hok.1⟩⟩
                      | true :: ts0, v :: vs, hok => cases ht1
                      | false :: true :: ts0, v :: w :: vs, hok => cases ht1
                      | [false], [v], hok => cases ht1
                      | [], [], hok => cases ht1
                    · next c6 =>
                      split at ht1
                      · next c7 =>
                        match ts, st, hok with
                        | false :: false :: ts0, v :: w :: st0, hok => exact ⟨v, w, st0, rfl, by omega, by omega, by rw [okj, if_pos (by omega)]; exact ⟨hok.2.1, hok.1⟩⟩
                        | true :: ts0, v :: vs, hok => cases ht1
                        | false :: true :: ts0, v :: w :: vs, hok => cases ht1
                        | [false], [v], hok => cases ht1
                        | [], [], hok => cases ht1
                      · next c7 =>
                        split at ht1
                        · next c8 =>
                          match ts, st, hok with
                          | true :: true :: ts0, v :: w :: st0, hok => exact ⟨v, w, st0, rfl, by omega, by omega, by rw [okj, if_neg (by omega)]; exact ⟨hok.2.1, hok.1⟩⟩
                          | false :: ts0, v :: vs, hok => cases ht1
                          | true :: false :: ts0, v :: w :: vs, hok => cases ht1
                          | [true], [v], hok => cases ht1
                          | [], [], hok => cases ht1
                        · cases ht1
                  obtain ⟨v, w, st0, est, g1, g2, hoj⟩ := hsh
                  subst est
                  have e1 : trc c = -19 - (c : Int) := by simp [trc, c1, c2, c3, c4, c5]
                  have hsm : sm (trc c) := by rw [e1]; unfold sm; omega
                  have n31 : ¬ iI (trc c) = -31 := fun q => by
                    rw [show (-31 : Int32) = iI (-31) by decide, iI_eq hsm (by unfold sm; omega)] at q
                    omega
                  have n32 : ¬ iI (trc c) = -32 := fun q => by
                    rw [show (-32 : Int32) = iI (-32) by decide, iI_eq hsm (by unfold sm; omega)] at q
                    omega
                  have e4 : nI (v :: w :: st0).length + Int32.ofInt (-1) = nI (w :: st0).length := by rw [litm1]; exact pk_m1 _
                  have e5 : nI (w :: st0).length - 1 = nI st0.length := nI_pred _
                  simp only [List.length_cons] at hsl
                  rw [e4, e5, nI_clamp (show st0.length < 2 ^ 31 by omega), nI_clamp (show (w :: st0).length < 2 ^ 31 by simp; omega), plo_top hpl, plo_top (plo_tail hpl)]
                  refine ⟨fun _ => ⟨fun _ => ⟨fun _ => ⟨fun q => absurd ((nI_ltI (b := 2) (by simp; omega) (by decide)).mp q) (by simp), fun _ => ⟨vp_in_nI (by omega) (by omega), vp_in_nI (by simp; omega) (by omega), ?_⟩⟩, fun q => absurd q n32⟩, fun q => absurd q n31⟩, fun q => absurd ((hx13 hsm).mpr (by omega)) q⟩
                  refine s_joined g1 g2 hoj ?_
                  have := go (jn c w v :: st0) (u2 I1 (o + 4) st0.length (iI (jn c w v))) (by simp [ev1, c1, c2, c3, c4, c5]) (plo_push (plo_tail (plo_tail hpl)) (u2_at _ _ _ _) (fun j hj => u2_k (by omega))) (fun q hq => by rw [u2_row hq]; exact hI1 q hq)
                  simpa using this
  have := key cs.length 0 [] [] I (by omega) trivial (by simp) (by simpa using ht) (by simp) (fun i hi => absurd hi (by simp)) (fun _ _ => rfl)
  exact this
end SP

/-! the reference: a question's value -/
section MU
variable {d : Nat} {I : Ii} {J : Jj} {sc s g : Sx} {L : Nat → List Nat} {ps : Nat → Sx} {p f : Nat}
theorem m_partQ {j : Nat} {K : KL} (hC : EnMC I J sc L) (hV : EnV I sc s) (h55 : I 0 55 = nI p) (h52 : I 0 52 = 2) (hp : p < sc 0 1) (hf : f < sc 0 0) (hj : j < 12 ∧ j ≠ 5 ∧ j ≠ 6) (h : K (lI (sq sc s p f j)) I J) : CalL wM (d + 2) mX13_qPartOf [.ref 0, .int (nI j), .int (nI f)] I J K := by
  have hP := hV.2.2.1
  have hF := hV.2.2.2.1
  have hb := hV.b (p := p) (by omega)
  have hcp := hC.2.2.2.2.2.2.1 p hp
  refine Cal.of (by decide) (Nat.le_of_ble_eq_true rfl) (bX13_qPartOf_0 ?_)
  rw [h55]
  rcases (show j = 0 ∨ j = 1 ∨ j = 2 ∨ j = 3 ∨ j = 4 ∨ j = 7 ∨ j = 8 ∨ j = 9 ∨ j = 10 ∨ j = 11 by omega) with rfl | rfl | rfl | rfl | rfl | rfl | rfl | rfl | rfl | rfl
  · refine ⟨fun _ => ?_, fun y => absurd y (by decide), fun y => absurd y (by decide), fun y => absurd y (by decide), fun y => absurd y (by decide), fun y => absurd y (by decide), fun y => absurd y (by decide), fun y => absurd y (by decide), fun y => absurd y (by decide), fun y => absurd y (by decide), fun y => absurd y (by decide), fun y => absurd rfl y⟩
    rw [ix8, nI_clamp (by omega), hcp.2.2.1, nI64 (by omega)]
    exact ⟨vp_in_nI (by omega) (by omega), h⟩
  · refine ⟨fun y => absurd y (by decide), fun _ => ?_, fun y => absurd y (by decide), fun y => absurd y (by decide), fun y => absurd y (by decide), fun y => absurd y (by decide), fun y => absurd y (by decide), fun y => absurd y (by decide), fun y => absurd y (by decide), fun y => absurd y (by decide), fun y => absurd y (by decide), fun _ y => absurd rfl y⟩
    refine ⟨fun q => absurd h52 q, fun _ => m_rightMany hC hV (by omega) ?_⟩
    rw [nI64 (by have := pc8_le (who s 1 f); omega)]
    exact h
  · refine ⟨fun y => absurd y (by decide), fun y => absurd y (by decide), fun _ => ?_, fun y => absurd y (by decide), fun y => absurd y (by decide), fun y => absurd y (by decide), fun y => absurd y (by decide), fun y => absurd y (by decide), fun y => absurd y (by decide), fun y => absurd y (by decide), fun y => absurd y (by decide), fun _ _ y => absurd rfl y⟩
    refine ⟨fun q => absurd h52 q, fun _ => m_wrongMany hC hV (by omega) ?_⟩
    rw [nI64 (by have := pc8_le (who s 2 f); omega)]
    exact h
  · refine ⟨fun y => absurd y (by decide), fun y => absurd y (by decide), fun y => absurd y (by decide), fun _ => ?_, fun y => absurd y (by decide), fun y => absurd y (by decide), fun y => absurd y (by decide), fun y => absurd y (by decide), fun y => absurd y (by decide), fun y => absurd y (by decide), fun y => absurd y (by decide), fun _ _ _ y => absurd rfl y⟩
    rw [c0, hV.1.1, nI64 (by have := hV.2.2.2.2; omega)]
    exact h
  · refine ⟨fun y => absurd y (by decide), fun y => absurd y (by decide), fun y => absurd y (by decide), fun y => absurd y (by decide), fun _ => ?_, fun y => absurd y (by decide), fun y => absurd y (by decide), fun y => absurd y (by decide), fun y => absurd y (by decide), fun y => absurd y (by decide), fun y => absurd y (by decide), fun _ _ _ _ y => absurd rfl y⟩
    have hw := hC.2.2.2.2.2.1 f hf
    rw [ix8, nI_clamp (by omega), hw.2.2.1, nI64 (by omega)]
    exact ⟨vp_in_nI (by omega) (by omega), h⟩
  · refine ⟨fun y => absurd y (by decide), fun y => absurd y (by decide), fun y => absurd y (by decide), fun y => absurd y (by decide), fun y => absurd y (by decide), fun y => absurd y (by decide), fun y => absurd y (by decide), fun _ => ?_, fun y => absurd y (by decide), fun y => absurd y (by decide), fun y => absurd y (by decide), fun _ _ _ _ _ _ _ y => absurd rfl y⟩
    refine m_leftOf hV hp ?_
    rw [nI64 (by omega)]
    exact h
  · refine ⟨fun y => absurd y (by decide), fun y => absurd y (by decide), fun y => absurd y (by decide), fun y => absurd y (by decide), fun y => absurd y (by decide), fun y => absurd y (by decide), fun y => absurd y (by decide), fun y => absurd y (by decide), fun _ => ?_, fun y => absurd y (by decide), fun y => absurd y (by decide), fun _ _ _ _ _ _ _ _ y => absurd rfl y⟩
    refine m_marksOf hC hV hp ?_
    have hbd := mrkN_b (sc := sc) (s := s) (p := p) (n := sc 0 0) (fun j hj => (hC.2.2.2.2.2.1 j (by omega)).2.2.2)
    rw [iI_l (by unfold sm mrk; omega)]
    exact h
  · refine ⟨fun y => absurd y (by decide), fun y => absurd y (by decide), fun y => absurd y (by decide), fun y => absurd y (by decide), fun y => absurd y (by decide), fun y => absurd y (by decide), fun y => absurd y (by decide), fun y => absurd y (by decide), fun y => absurd y (by decide), fun _ => ?_, fun y => absurd y (by decide), fun _ _ _ _ _ _ _ _ _ y => absurd rfl y⟩
    rw [nI64 (by omega)]
    exact h
  · refine ⟨fun y => absurd y (by decide), fun y => absurd y (by decide), fun y => absurd y (by decide), fun y => absurd y (by decide), fun y => absurd y (by decide), fun y => absurd y (by decide), fun y => absurd y (by decide), fun y => absurd y (by decide), fun y => absurd y (by decide), fun y => absurd y (by decide), fun _ => ?_, fun _ _ _ _ _ _ _ _ _ _ y => absurd rfl y⟩
    refine m_rightOf hV hp ?_
    rw [k8_bit _ hb.2.1 f (by omega), nI64 (by have := bq01 (s 1 p) f; omega)]
    have e : sq sc s p f 10 = (bq (s 1 p) f : Int) := by
      show (if bel s p f = 1 then 1 else 0 : Int) = _
      unfold bel
      rcases bq01 (s 1 p) f with e | e
      · rw [e]; rcases bq01 (s 2 p) f with e2 | e2 <;> simp [e2]
      · rw [e]; rfl
    rw [e] at h
    exact h
  · refine ⟨fun y => absurd y (by decide), fun y => absurd y (by decide), fun y => absurd y (by decide), fun y => absurd y (by decide), fun y => absurd y (by decide), fun y => absurd y (by decide), fun y => absurd y (by decide), fun y => absurd y (by decide), fun y => absurd y (by decide), fun y => absurd y (by decide), fun y => absurd y (by decide), fun _ _ _ _ _ _ _ _ _ _ _ => ?_⟩
    refine m_wrongOf hV hp ?_
    rw [k8_bit _ hb.2.2.1 f (by omega), nI64 (by have := bq01 (s 2 p) f; omega)]
    have e : sq sc s p f 11 = (bq (s 2 p) f : Int) := by
      show (if bel s p f = 2 then 1 else 0 : Int) = _
      have hn := (hV.2.1.1 p (by omega)).2.2.2.1 f (by omega)
      unfold bel
      rcases bq01 (s 1 p) f with e | e
      · rw [e]; rcases bq01 (s 2 p) f with e2 | e2 <;> simp [e2]
      · rw [e]; rcases bq01 (s 2 p) f with e2 | e2
        · rw [e2]; rfl
        · exact absurd ⟨e, e2⟩ hn
    rw [e] at h
    exact h
theorem m_qOf {v : Int} {x : Int32} {K : KL} (hC : EnMC I J sc L) (hV : EnV I sc s) (hp : p < sc 0 1) (hf : f < sc 0 0) (hv : sm v) (h : K (lI (if 0 ≤ v ∧ v < 8 ∧ bq (who s 1 f) v.toNat = 1 then 1 else 0)) I J) : CalL wM (d + 1) mX13_qOf [.ref 0, .int x, .long (lI v), .int (nI f)] I J K := by
  have hP := hV.2.2.1
  have hF := hV.2.2.2.1
  have hv' := hv
  unfold sm at hv'
  refine Cal.of (by decide) (Nat.le_of_ble_eq_true rfl) (bX13_qOf_0 (m_pm hC (m_isIn ?_)))
  have e : (nI (sc 0 1) - 1).toInt = (sc 0 1 : Int) - 1 := by rw [show (1 : Int32) = nI 1 from rfl, pk_sub_toInt (by omega) (by omega)]; rfl
  rw [Jvm.Kit.i64_of_i32, e, show ((0 : Int64)).toInt = 0 by decide, lI_t (by omega) (by omega)]
  have hw : ∀ k, k < 8 → bq (who s 1 f) k = bq (s 1 k) f := fun k hk => by unfold who; rw [msk_bq _ 8 k hk]; exact bq_if _ _
  refine here_if (fun z => ?_) (fun z => ?_)
  · obtain ⟨n, rfl⟩ : ∃ n : Nat, v = (n : Int) := ⟨v.toNat, by omega⟩
    have hn : n < sc 0 1 := by omega
    have e32 : (lI (n : Int)).toInt32 = nI n := by
      rw [nI_iI]
      exact i32_ext (by rw [Jvm.Kit.i32_of_i64 (by rw [lI_t (by omega) (by omega)]; omega) (by rw [lI_t (by omega) (by omega)]; omega), lI_t (by omega) (by omega), iI_t (by omega) (by omega)])
    rw [e32]
    refine m_rightOf hV hn ?_
    have hb := hV.b (p := n) (by omega)
    rw [k8_bit _ hb.2.1 f (by omega), nI64 (by have := bq01 (s 1 n) f; omega)]
    have e2 : (if 0 ≤ (n : Int) ∧ (n : Int) < 8 ∧ bq (who s 1 f) (n : Int).toNat = 1 then 1 else 0 : Int) = (bq (s 1 n) f : Int) := by
      rw [Int.toNat_natCast, hw n (by omega)]
      rcases bq01 (s 1 n) f with y | y
      · rw [y, if_neg (by omega)]; rfl
      · rw [y, if_pos (by omega)]; rfl
    rw [e2] at h
    exact h
  · have e2 : ¬ (0 ≤ v ∧ v < 8 ∧ bq (who s 1 f) v.toNat = 1) := by
      rintro ⟨h1, h2, h3⟩
      obtain ⟨n, rfl⟩ : ∃ n : Nat, v = (n : Int) := ⟨v.toNat, by omega⟩
      rw [Int.toNat_natCast, hw n (by omega), ((hV.2.1.1 n (by omega)).2.2.2.2.2 (by omega)).2.1] at h3
      simp [bq] at h3
    rw [if_neg e2] at h
    exact h
theorem msq_sm (hC : EnMC I J sc L) (hV : EnV I sc s) (hp : p < sc 0 1) (hf : f < sc 0 0) (j : Nat) : sm (sq sc s p f j) := by
  have hP := hV.2.2.1
  have hF := hV.2.2.2.1
  have h4 := (hC.2.2.2.2.2.2.1 p hp).2.2.2
  have h2 := (hC.2.2.2.2.2.1 f hf).2.2.2
  have b1 := pc8_le (who s 1 f)
  have b2 := pc8_le (who s 2 f)
  have by_ := hV.2.2.2.2
  have b7 := (hV.b (p := p) (by omega)).2.2.2
  have hbd := mrkN_b (sc := sc) (s := s) (p := p) (n := sc 0 0) (fun j hj => (hC.2.2.2.2.2.1 j (by omega)).2.2.2)
  unfold sq
  split
  case h_7 => unfold sm mrk; omega
  all_goals (unfold sm; first | omega | (split <;> omega))
theorem m_qTold {cs : List Nat} {tb : Bool} {K : KL} (hC : EnMC I J sc L) (hV : EnV I sc s) (h55 : I 0 55 = nI p) (h52 : I 0 52 = 2) (hp : p < sc 0 1) (hf : f < sc 0 0) (hcd : Cod I cs) (hcl : cs.length ≤ 1600) (hty : tcs cs [] = some [tb]) (hoc : ∀ c, c ∈ cs → okc 4 c) (h : ∀ I' J', (∀ a, a ≠ 0 → I' a = I a) → (∀ k, k ≠ 100 → I' 0 k = I 0 k) → (∀ a, a ≠ 77 → J' a = J a) → okv tb (qv sc s p cs f) → K (lI (qv sc s p cs f)) I' J') : CalL wM (d + 3) mX13_qTold [.ref 0, .int (nI f)] I J K := by
  have hP := hV.2.2.1
  have hF := hV.2.2.2.1
  have hσ := fun j => msq_sm hC hV hp hf j
  have key : ∀ (n i : Nat) (st : List Int) (ts : List Bool) (I1 : Ii) (J1 : Jj), i + n = cs.length → okst ts st → ts.length ≤ 60 → tcs (cs.drop i) ts = some [tb] → evs (sq sc s p f) (who s 1 f) cs [] = evs (sq sc s p f) (who s 1 f) (cs.drop i) st → ploL (J1 77) st → I1 0 100 = nI st.length → (∀ a, a ≠ 0 → I1 a = I a) → (∀ k, k ≠ 100 → I1 0 k = I 0 k) → (∀ a, a ≠ 77 → J1 a = J a) →
      GoL wM (d + 2 + 1) mX13_qTold 7 [(0, .ref 0), (1, .int (nI f)), (2, .int (nI i))] [] I1 J1 K := by
    intro n
    induction n with
    | zero =>
      intro i st ts I1 J1 hi hok hlen htc hev hpl h100 fr fk fj
      have hd : cs.drop i = [] := List.drop_eq_nil_of_le (by omega)
      rw [hd] at htc hev
      cases htc
      match st, hok with
      | [v], hok =>
        refine bX13_qTold_7 ?_
        rw [fk 94 (by omega), hcd.1, c0, show J1 77 0 = lI v from ploL_top hpl]
        have hhl : qv sc s p cs f = v := by unfold qv; rw [hev]; rfl
        refine ⟨fun _ => ?_, fun q => absurd (nI_le (by omega) (by omega)) q⟩
        have := h I1 J1 fr fk fj (by rw [hhl]; exact hok.1)
        rw [hhl] at this
        exact this
    | succ n ih =>
      intro i st ts I1 J1 hi hok hlen htc hev hpl h100 fr fk fj
      have hil : i < cs.length := by omega
      obtain ⟨c, hc⟩ : ∃ c, cs[i]? = some c := ⟨cs[i], by simp [hil]⟩
      have hcd2 : cs.drop i = c :: cs.drop (i + 1) := by
        rw [List.drop_eq_getElem_cons hil]
        congr 1
        have := List.getElem?_eq_getElem hil
        rw [this] at hc
        exact Option.some.inj hc
      have hcm : c ∈ cs := List.mem_of_getElem? hc
      have hcD : cs.getD i 0 = c := by simp [List.getD, hc]
      have hlst := okst_len hok
      have hlo := hoc c hcm
      have hC1 : EnMC I1 J1 sc L := hC.kept (fun a ha => fr a (by omega)) (fj 32 (by omega))
      have hV1 : EnV I1 sc s := hV.row (fr 42 (by omega))
      have e55 : I1 0 55 = nI p := by rw [fk 55 (by omega)]; exact h55
      have e52 : I1 0 52 = 2 := by rw [fk 52 (by omega)]; exact h52
      rw [hcd2] at htc hev
      simp only [tcs] at htc
      cases ht1 : tc1 c ts with
      | none => rw [ht1] at htc; cases htc
      | some ts' =>
        rw [ht1] at htc
        simp only at htc
        by_cases hl6 : ts'.length ≤ 60
        case neg => rw [if_neg hl6] at htc; cases htc
        rw [if_pos hl6] at htc
        have hok' := ev_ok (σ := sq sc s p f) (who := who s 1 f) (fun j hj => hσ j) hok ht1
        have hev' : evs (sq sc s p f) (who s 1 f) cs [] = evs (sq sc s p f) (who s 1 f) (cs.drop (i + 1)) (ev1 (sq sc s p f) (who s 1 f) c st) := hev
        have hcb : c ≤ 10999 := by
          unfold tc1 at ht1
          split at ht1
          · split at ht1
            · assumption
            · cases ht1
          · omega
        have hstep : I1 75 (nI i).toNatClampNeg = nI c := by
          rw [nI_clamp (by omega), fr 75 (by omega), hcd.2 i hil, hcD]
        have go : ∀ (st' : List Int) (I2 : Ii) (J2 : Jj), ev1 (sq sc s p f) (who s 1 f) c st = st' → ploL (J2 77) st' → I2 0 100 = nI st'.length → (∀ a, a ≠ 0 → I2 a = I1 a) → (∀ k, k ≠ 100 → I2 0 k = I1 0 k) → (∀ a, a ≠ 77 → J2 a = J1 a) → GoL wM (d + 2 + 1) mX13_qTold 7 [(0, .ref 0), (1, .int (nI f)), (2, .int (nI i + 1))] [] I2 J2 K := by
          intro st' I2 J2 e1 e2 e3 e4 e5 e6
          subst e1
          rw [nI_1]
          exact ih (i + 1) _ _ I2 J2 (by omega) hok' hl6 htc hev' e2 e3 (fun a ha => (e4 a ha).trans (fr a ha)) (fun k hk => (e5 k hk).trans (fk k hk)) (fun a ha => (e6 a ha).trans (fj a ha))
        have push : ∀ (x : Int64) (v : Int), x = lI v → ev1 (sq sc s p f) (who s 1 f) c st = v :: st → CalV wM (d + 2) mX13_qPuts [.ref 0, .long x] I1 J1 (fun I2 J2 => GoL wM (d + 2 + 1) mX13_qTold 7 [(0, .ref 0), (1, .int (nI f)), (2, .int (nI i + 1))] [] I2 J2 K) := by
          intro x v ex e1
          refine m_qPuts h100 (by omega) (go (v :: st) _ _ e1 (ploL_push hpl (by rw [w2_at, ex]) (fun i hi => by rw [w2_k (by omega)])) (u2_at _ _ _ _) (fun a ha => u2_row ha) (fun k hk => u2_k hk) (fun a ha => ?_))
          funext j
          rw [w2_o ha]
        refine bX13_qTold_7 ?_
        rw [fk 94 (by omega), hcd.1, hstep]
        refine ⟨fun q => absurd ((nI_leI (by omega) (by omega)).mp q) (by omega), fun _ => ⟨vp_in_nI (by omega) (by omega), fun q1 => ?_, fun q1 => ?_⟩⟩
        case refine_2 =>
          have c1 : 1000 ≤ c := Nat.le_of_not_lt (fun z => q1 (nI_lt (b := 1000) z (by decide)))
          refine push _ ((c : Int) - 1000) ?_ (by simp [ev1, c1])
          rw [show (1000 : Int32) = nI 1000 from rfl, pk_sub c1, nI64 (by omega)]
          congr 1
          omega
        have c1 : ¬ 1000 ≤ c := fun z => by
          have := (nI_ltI (b := 1000) (by omega) (by decide)).mp q1
          omega
        have c60 : 60 ≤ c → c = 60 := fun z => by
          by_cases y : c = 60
          · exact y
          · have := hlo.2 (by omega) (by omega) y
            simp only [alw, decide_eq_true_eq] at this
            omega
        refine ⟨fun q2 => ?_, fun q2 => ?_⟩
        case refine_2 =>
          have c2 : c = 60 := c60 (Nat.le_of_not_lt (fun z => q2 (nI_lt (b := 60) z (by decide))))
          obtain ⟨v, st0, rfl, hv, -⟩ := top1 hok ht1 (Or.inr c2)
          have e2 : nI (v :: st0).length - 1 = nI st0.length := by rw [List.length_cons]; exact nI_pred _
          rw [h100, e2, nI_clamp (by simp at hlst; omega), ploL_top hpl]
          refine ⟨vp_in_nI (by simp at hlst; omega) (by omega), m_qOf (d := d + 1) (p := p) hC1 hV1 hp hf hv (m_qClip ?_ ?_)⟩
          · split <;> omega
          have ec : clp (if 0 ≤ v ∧ v < 8 ∧ bq (who s 1 f) v.toNat = 1 then 1 else 0) = (if 0 ≤ v ∧ v < 8 ∧ bq (who s 1 f) v.toNat = 1 then 1 else 0) := by
            split <;> rfl
          rw [ec]
          refine go ((if 0 ≤ v ∧ v < 8 ∧ bq (who s 1 f) v.toNat = 1 then 1 else 0) :: st0) I1 _ (by rw [c2]; simp [ev1]) (ploL_push (ploL_tail hpl) (w2_at _ _ _ _) (fun i hi => by rw [w2_k (by omega)])) (by rw [h100]; rfl) (fun _ _ => rfl) (fun _ _ => rfl) (fun a ha => ?_)
          funext j
          rw [w2_o ha]
        have c2 : ¬ c = 60 := fun z => by
          have := (nI_ltI (b := 60) (by omega) (by decide)).mp q2
          omega
        refine ⟨fun q2 => ?_, fun q2 => ?_⟩
        case refine_2 =>
          have c3 : 40 ≤ c := Nat.le_of_not_lt (fun z => q2 (nI_lt (b := 40) z (by decide)))
          have hl2 := hlo.2 c3 (by omega) c2
          rw [show (40 : Int32) = nI 40 from rfl, pk_sub c3]
          have hsm := hσ (c - 40)
          have hsm' := hsm
          unfold sm at hsm'
          refine m_partQ (d := d) hC1 hV1 e55 e52 hp hf ?_ (m_qClip (by omega) (push _ (sq sc s p f (c - 40)) ?_ (by simp [ev1, c1, c2, c3])))
          · simp only [alw, decide_eq_true_eq] at hl2
            omega
          · unfold clp; rw [if_neg (by omega), if_neg (by omega)]
        have c3 : ¬ 40 ≤ c := fun z => by
          have := (nI_ltI (b := 40) (by omega) (by decide)).mp q2
          omega
        refine ⟨fun q3 => ?_, fun q3 => ?_⟩
        case refine_2 =>
          have c4 : c = 13 := (nI_eq (b := 13) (by omega) (by decide)).mp q3
          exact push 1 1 (by decide) (by simp [ev1, c4])
        have c4 : ¬ c = 13 := fun z => q3 (by rw [z]; rfl)
        refine ⟨fun q4 => ?_, fun q4 => ?_⟩
        case refine_2 =>
          have c5 : c = 12 := (nI_eq (b := 12) (by omega) (by decide)).mp q4
          obtain ⟨v, st0, rfl, hv, h01⟩ := top1 hok ht1 (Or.inl c5)
          have e2 : nI (v :: st0).length - 1 = nI st0.length := by rw [List.length_cons]; exact nI_pred _
          rw [h100, e2, nI_clamp (by simp at hlst; omega), ploL_top hpl, one_lI (h01 c5)]
          refine ⟨vp_in_nI (by simp at hlst; omega) (by omega), go ((1 - v) :: st0) I1 _ (by simp [ev1, c5]) (ploL_push (ploL_tail hpl) (w2_at _ _ _ _) (fun i hi => by rw [w2_k (by omega)])) (by rw [h100]; rfl) (fun _ _ => rfl) (fun _ _ => rfl) (fun a ha => ?_)⟩
          funext j
          rw [w2_o ha]
        have c5 : ¬ c = 12 := fun z => q4 (by rw [z]; rfl)
        obtain ⟨v, w', st0, rfl, g1, g2, hoj⟩ := top2 hok ht1 c1 c2 c3 c4 c5
        simp only [List.length_cons] at hlst
        exact m_qJoins (d := d + 1) g1 g2 hoj (by omega) (by rw [h100]; rfl) hpl (fun I2 J2 e1 e2 e3 e4 e5 => go (jn c w' v :: st0) I2 J2 (by simp [ev1, c1, c2, c3, c4, c5]) e1 e2 e3 e4 e5)
  refine Cal.of (by decide) (Nat.le_of_ble_eq_true rfl) (bX13_qTold_0 (key cs.length 0 [] [] _ J (by omega) trivial (by simp) (by simpa using hty) (by simp) (fun i hi => absurd hi (by simp)) (by rw [u2_at]; rfl) (fun a ha => u2_row ha) (fun k hk => u2_k hk) (fun _ _ => rfl)))
end MU

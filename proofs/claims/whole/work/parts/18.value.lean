/-! the class's Formula: limited, floorDiv, joined -/
theorem ediv_uniq {x n k : Int} (hn : 0 < n) (h1 : k * n ≤ x) (h2 : x < (k + 1) * n) : x / n = k := by
  have a := (Int.le_ediv_iff_mul_le hn).mpr h1
  have b := (Int.ediv_lt_iff_lt_mul hn).mpr h2
  omega
theorem xor_sign (x y : Int32) : 0 ≤ x ^^^ y ↔ (x.toInt < 0 ↔ y.toInt < 0) := by
  have k : ∀ z : Int32, z.toBitVec.msb = decide (z.toInt < 0) := fun z => BitVec.msb_eq_toInt
  rw [Int32.le_iff_toInt_le, Int32.toInt_zero]
  have h1 := k (x ^^^ y)
  rw [Int32.toBitVec_xor, BitVec.msb_xor, k x, k y] at h1
  by_cases hx : x.toInt < 0 <;> by_cases hy : y.toInt < 0 <;> by_cases hz : (x ^^^ y).toInt < 0 <;> simp [hx, hy, hz] at h1 ⊢ <;> omega
theorem Cal.ofF {ω : Wl} {d : Nat} {M : Mt} {I : Ii} {J : Jj} {Q : Qt} {av : List Value} (hy : plainFor M.1 = true) (hlen : (lg_sl av).length ≤ M.2.2.1) (h : Go ω d M 0 (lv_args 0 av) [] I J Q) : Cal ω d M av I J Q := by
  intro E
  refine va_MetF (cc := M.2.1) (maxL := M.2.2.1) (ret := M.2.2.2) hy rfl ?_
  intro p e s m args below meth c s₁ B hml hv
  obtain ⟨rfl, hw⟩ := hv
  have hts := atoms_spec (ws := z_wsM M) B.pre
  have hown : s.vm.findClass M.1.cls = some m.cls := findClass_of_methodNamed B.named
  have hl := lv_entry (av.map (z_rv E)) (n := M.2.2.1) (by rw [z_slLen]; exact hlen)
  rw [lg_entry_eq]
  rw [z_argsMap] at hl
  exact h E p e s m _ below meth c s.heap _ [] ⟨B.exec, B.bytes, B.returns, hml, hown, hts, B.notSynchronized⟩ hl hw.1 hw.2 va_S.rf
theorem pf_floorDiv : plainFor mJ9_floorDiv_7cf53.1 = true := by decide +kernel
theorem pf_max : plainFor mJ9_max_7cf53.1 = true := by decide +kernel
theorem pf_min : plainFor mJ9_min_7cf53.1 = true := by decide +kernel
theorem pf_maxl : plainFor mJ9_max_f86c9.1 = true := by decide +kernel
theorem pf_minl : plainFor mJ9_min_f86c9.1 = true := by decide +kernel
theorem pf_fill : plainFor mJ7_fill_53178.1 = true := by decide +kernel
section SP
variable {d : Nat} {I : Ii} {J : Jj}
theorem s_limited {z : Int} {K : KI} (h1 : -2000000000000 ≤ z) (h2 : z ≤ 2000000000000) (h : K (iI (clp z)) I J) : CalI wX d mX3_limited [.long (lI z)] I J K := by
  have ht : (lI z).toInt = z := lI_t (by omega) (by omega)
  have e1 : ((1000000 : Int64)).toInt = 1000000 := by decide
  have e2 : ((-1000000 : Int64)).toInt = -1000000 := by decide
  refine Cal.of (by decide) (Nat.le_of_ble_eq_true rfl) (bX3_limited_0 ?_)
  rw [lgc_le, lgc_ge, Int64.le_iff_toInt_le, Int64.le_iff_toInt_le, ht, e1, e2]
  unfold clp at h
  refine ⟨fun q => ⟨fun q2 => ?_, fun q2 => ?_⟩, fun q => ?_⟩
  · rw [if_neg (by omega), if_neg (by omega)] at h
    have e : (lI z).toInt32 = iI z := i32_ext (by rw [Jvm.Kit.i32_of_i64 (by omega) (by omega), ht, iI_t (by omega) (by omega)])
    rw [e]
    exact h
  · rw [if_neg (by omega), if_pos (by omega)] at h
    exact h
  · rw [if_pos (by omega)] at h
    exact h
theorem s_floorDiv {a b : Int} {K : KI} (ha : sm a) (hb : sm b) (h0 : b ≠ 0) (h : K (iI (a.fdiv b)) I J) : CalI wX d mJ9_floorDiv_7cf53 [.int (iI a), .int (iI b)] I J K := by
  have hta := sm_t ha
  have htb := sm_t hb
  have hsm := fdv_sm ha hb
  simp only [fdv, h0, if_false] at hsm
  unfold sm at ha hb hsm
  have hq : (iI a / iI b).toInt = a.tdiv b := by rw [Jvm.Kit.i32_div (by rw [hta]; omega), hta, htb]
  refine Cal.ofF pf_floorDiv (Nat.le_of_ble_eq_true rfl) (bJ9_floorDiv_7cf53_0 ⟨fun q => h0 ?_, ?_⟩)
  · have := congrArg Int32.toInt q
    rw [htb] at this
    simpa using this
  · rw [xor_sign, hta, htb]
    have hfin : ∀ x : Int32, x.toInt = a.fdiv b → K x I J := fun x e => by
      have : x = iI (a.fdiv b) := i32_ext (by rw [e, iI_t (by omega) (by omega)])
      rw [this]; exact h
    have hmul : ((iI a / iI b) * iI b = iI a) ↔ a.tdiv b * b = a := by
      have hle : (a.tdiv b * b).natAbs ≤ a.natAbs := by
        rw [Int.natAbs_mul, Int.natAbs_tdiv]
        exact Nat.div_mul_le_self _ _
      rw [← Int32.toInt_inj, Jvm.Kit.i32_mul (by rw [hq, htb]; omega) (by rw [hq, htb]; omega), hq, htb, hta]
    rw [hmul]
    rcases Int.lt_or_le a 0 with h1 | h1 <;> rcases Int.lt_or_le b 0 with h2 | h2
    · refine ⟨fun _ => hfin _ ?_, fun q => absurd (by omega) q⟩
      rw [hq, show a = -(-a) by omega, show b = -(-b) by omega, Int.neg_fdiv_neg, Int.neg_tdiv, Int.tdiv_neg, Int.neg_neg, Int.fdiv_eq_ediv_of_nonneg _ (by omega), Int.tdiv_eq_ediv_of_nonneg (by omega)]
    · refine ⟨fun q => absurd q (by omega), fun _ => ?_⟩
      have e1 : a.tdiv b = -((-a) / b) := by rw [show a.tdiv b = (-(-a)).tdiv b by rw [Int.neg_neg], Int.neg_tdiv, Int.tdiv_eq_ediv_of_nonneg (by omega)]
      have hb0 : 0 < b := by omega
      have l1 := Int.ediv_mul_le (-a) (b := b) (by omega)
      have l2 := Int.lt_ediv_add_one_mul_self (-a) (b := b) hb0
      rw [e1]
      refine ⟨fun q => hfin _ ?_, fun q => hfin _ ?_⟩
      · rw [hq, e1, Int.fdiv_eq_ediv_of_nonneg _ (by omega)]
        symm
        apply ediv_uniq hb0
        · omega
        · rw [Int.add_mul]; omega
      · have hx : (iI a / iI b - 1).toInt = a.tdiv b - 1 := by
          have hr : (a.tdiv b).natAbs ≤ a.natAbs := by rw [Int.natAbs_tdiv]; exact Nat.div_le_self _ _
          have e1' : ((1 : Int32)).toInt = 1 := by decide
          rw [Jvm.Kit.i32_sub (by rw [hq, e1']; omega) (by rw [hq, e1']; omega), hq, e1']
        rw [hx, e1, Int.fdiv_eq_ediv_of_nonneg _ (by omega)]
        symm
        rw [Int.add_mul] at l2
        generalize hg : (-a) / b = g at l1 l2 q ⊢
        have e3 : -g * b = -(g * b) := Int.neg_mul g b
        have e4 : (-g - 1) * b = -(g * b) - b := by rw [Int.sub_mul, Int.neg_mul, Int.one_mul]
        have e5 : (-g - 1 + 1) * b = -(g * b) := by rw [show -g - 1 + 1 = -g by omega, Int.neg_mul]
        apply ediv_uniq hb0
        · omega
        · omega
    · refine ⟨fun q => absurd q (by omega), fun _ => ?_⟩
      have hb0 : 0 < -b := by omega
      have e1 : a.tdiv b = -(a / (-b)) := by rw [show a.tdiv b = a.tdiv (-(-b)) by rw [Int.neg_neg], Int.tdiv_neg, Int.tdiv_eq_ediv_of_nonneg (by omega)]
      have ef : a.fdiv b = (-a) / (-b) := by rw [← Int.neg_fdiv_neg, Int.fdiv_eq_ediv_of_nonneg _ (by omega)]
      have l1 := Int.ediv_mul_le a (b := -b) (by omega)
      have l2 := Int.lt_ediv_add_one_mul_self a (b := -b) hb0
      rw [e1]
      refine ⟨fun q => hfin _ ?_, fun q => hfin _ ?_⟩
      · rw [hq, e1, ef]
        symm
        rw [Int.add_mul] at l2
        generalize hg : a / (-b) = g at l1 l2 q ⊢
        have e3 : -g * b = g * -b := by rw [Int.neg_mul, Int.mul_neg]
        have e4 : -g * -b = -(g * -b) := Int.neg_mul g (-b)
        have e5 : (-g + 1) * -b = -(g * -b) + -b := by rw [Int.add_mul, Int.neg_mul, Int.one_mul]
        apply ediv_uniq hb0
        · omega
        · omega
      · have hx : (iI a / iI b - 1).toInt = a.tdiv b - 1 := by
          have hr : (a.tdiv b).natAbs ≤ a.natAbs := by rw [Int.natAbs_tdiv]; exact Nat.div_le_self _ _
          have e1' : ((1 : Int32)).toInt = 1 := by decide
          rw [Jvm.Kit.i32_sub (by rw [hq, e1']; omega) (by rw [hq, e1']; omega), hq, e1']
        rw [hx, e1, ef]
        symm
        rw [Int.add_mul] at l2
        generalize hg : a / (-b) = g at l1 l2 q ⊢
        have e3 : -g * b = g * -b := by rw [Int.neg_mul, Int.mul_neg]
        have e4 : (-g - 1) * -b = -(g * -b) - -b := by rw [Int.sub_mul, Int.neg_mul, Int.one_mul]
        have e5 : (-g - 1 + 1) * -b = -(g * -b) := by rw [show -g - 1 + 1 = -g by omega, Int.neg_mul]
        apply ediv_uniq hb0
        · omega
        · omega
    · refine ⟨fun _ => hfin _ ?_, fun q => absurd (by omega) q⟩
      rw [hq, Int.fdiv_eq_ediv_of_nonneg _ (by omega), Int.tdiv_eq_ediv_of_nonneg (by omega)]
theorem l64 {a : Int} (h : sm a) : (iI a).toInt64 = lI a := i64_ext (by rw [Jvm.Kit.i64_of_i32, sm_t h, lI_t (by have := h.1; omega) (by have := h.2; omega)])
theorem lI_add {a b : Int} (ha : sm a) (hb : sm b) : lI a + lI b = lI (a + b) := by
  unfold sm at ha hb
  have e1 : (lI a).toInt = a := lI_t (by omega) (by omega)
  have e2 : (lI b).toInt = b := lI_t (by omega) (by omega)
  exact i64_ext (by rw [Jvm.Kit.i64_add (by rw [e1, e2]; omega) (by rw [e1, e2]; omega), e1, e2, lI_t (by omega) (by omega)])
theorem lI_sub {a b : Int} (ha : sm a) (hb : sm b) : lI a - lI b = lI (a - b) := by
  unfold sm at ha hb
  have e1 : (lI a).toInt = a := lI_t (by omega) (by omega)
  have e2 : (lI b).toInt = b := lI_t (by omega) (by omega)
  exact i64_ext (by rw [Jvm.Kit.i64_sub (by rw [e1, e2]; omega) (by rw [e1, e2]; omega), e1, e2, lI_t (by omega) (by omega)])
theorem sm_mul {a b : Int} (ha : sm a) (hb : sm b) : -1000000000000 ≤ a * b ∧ a * b ≤ 1000000000000 := by
  unfold sm at ha hb
  have h : (a * b).natAbs ≤ 1000000 * 1000000 := by
    rw [Int.natAbs_mul]
    exact Nat.mul_le_mul (by omega) (by omega)
  omega
theorem lI_mul {a b : Int} (ha : sm a) (hb : sm b) : lI a * lI b = lI (a * b) := by
  have hm := sm_mul ha hb
  unfold sm at ha hb
  have e1 : (lI a).toInt = a := lI_t (by omega) (by omega)
  have e2 : (lI b).toInt = b := lI_t (by omega) (by omega)
  exact i64_ext (by rw [Jvm.Kit.i64_mul (by rw [e1, e2]; omega) (by rw [e1, e2]; omega), e1, e2, lI_t (by omega) (by omega)])
/-- numbers for 1 to 9, tests for 10, 11 -/
def okj (c : Nat) (a b : Int) : Prop := if c < 10 then sm a ∧ sm b else (a = 0 ∨ a = 1) ∧ (b = 0 ∨ b = 1)
theorem s_joined {c : Nat} {a b : Int} {K : KI} (h1 : 1 ≤ c) (h2 : c ≤ 11) (hab : okj c a b) (h : K (iI (jn c a b)) I J) : CalI wX (d + 1) mX3_joined [.int (iI (trc c)), .int (iI a), .int (iI b)] I J K := by
  refine Cal.of (by decide) (Nat.le_of_ble_eq_true rfl) (bX3_joined_0 ?_)
  rcases (show c = 1 ∨ c = 2 ∨ c = 3 ∨ c = 4 ∨ c = 5 ∨ c = 6 ∨ c = 7 ∨ c = 8 ∨ c = 9 ∨ c = 10 ∨ c = 11 by omega) with rfl | rfl | rfl | rfl | rfl | rfl | rfl | rfl | rfl | rfl | rfl
  · obtain ⟨ha, hb⟩ : sm a ∧ sm b := hab
    rw [show iI (trc 1) = -20 by decide]
    refine ⟨fun q => absurd q (by decide), fun q => absurd q (by decide), fun q => absurd q (by decide), fun q => absurd q (by decide), fun q => absurd q (by decide), fun q => absurd q (by decide), fun q => absurd q (by decide), fun q => absurd q (by decide), fun q => absurd q (by decide), fun q => absurd q (by decide), fun _ => ?_, fun n0 n1 n2 n3 n4 n5 n6 n7 n8 n9 n10 => absurd rfl n10⟩
    rw [l64 ha, l64 hb, lI_add ha hb]
    exact s_limited (by unfold sm at ha hb; omega) (by unfold sm at ha hb; omega) h
  · obtain ⟨ha, hb⟩ : sm a ∧ sm b := hab
    rw [show iI (trc 2) = -21 by decide]
    refine ⟨fun q => absurd q (by decide), fun q => absurd q (by decide), fun q => absurd q (by decide), fun q => absurd q (by decide), fun q => absurd q (by decide), fun q => absurd q (by decide), fun q => absurd q (by decide), fun q => absurd q (by decide), fun q => absurd q (by decide), fun _ => ?_, fun q => absurd q (by decide), fun n0 n1 n2 n3 n4 n5 n6 n7 n8 n9 n10 => absurd rfl n9⟩
    rw [l64 ha, l64 hb, lI_sub ha hb]
    exact s_limited (by unfold sm at ha hb; omega) (by unfold sm at ha hb; omega) h
  · obtain ⟨ha, hb⟩ : sm a ∧ sm b := hab
    rw [show iI (trc 3) = -22 by decide]
    refine ⟨fun q => absurd q (by decide), fun q => absurd q (by decide), fun q => absurd q (by decide), fun q => absurd q (by decide), fun q => absurd q (by decide), fun q => absurd q (by decide), fun q => absurd q (by decide), fun q => absurd q (by decide), fun _ => ?_, fun q => absurd q (by decide), fun q => absurd q (by decide), fun n0 n1 n2 n3 n4 n5 n6 n7 n8 n9 n10 => absurd rfl n8⟩
    rw [l64 ha, l64 hb, lI_mul ha hb]
    have hm := sm_mul ha hb
    exact s_limited (by omega) (by omega) h
  · obtain ⟨ha, hb⟩ : sm a ∧ sm b := hab
    rw [show iI (trc 4) = -23 by decide]
    refine ⟨fun q => absurd q (by decide), fun q => absurd q (by decide), fun q => absurd q (by decide), fun q => absurd q (by decide), fun q => absurd q (by decide), fun q => absurd q (by decide), fun q => absurd q (by decide), fun _ => ?_, fun q => absurd q (by decide), fun q => absurd q (by decide), fun q => absurd q (by decide), fun n0 n1 n2 n3 n4 n5 n6 n7 n8 n9 n10 => absurd rfl n7⟩
    have h : K (iI (fdv a b)) I J := h
    refine ⟨fun q => ?_, fun q => ?_⟩
    · have hb0 : b ≠ 0 := fun e => q (by rw [e]; rfl)
      simp only [fdv, hb0, if_false] at h
      exact s_floorDiv ha hb hb0 h
    · have hb0 : b = 0 := (iI_eq hb (by unfold sm; omega)).mp q
      simp only [fdv, hb0, if_true] at h
      exact h
  · obtain ⟨ha, hb⟩ : sm a ∧ sm b := hab
    rw [show iI (trc 5) = -24 by decide]
    refine ⟨fun q => absurd q (by decide), fun q => absurd q (by decide), fun q => absurd q (by decide), fun q => absurd q (by decide), fun q => absurd q (by decide), fun q => absurd q (by decide), fun _ => ?_, fun q => absurd q (by decide), fun q => absurd q (by decide), fun q => absurd q (by decide), fun q => absurd q (by decide), fun n0 n1 n2 n3 n4 n5 n6 n7 n8 n9 n10 => absurd rfl n6⟩
    have h : K (iI (if a < b then a else b)) I J := h
    rw [iI_le hb ha]
    refine ⟨fun q => ?_, fun q => ?_⟩
    · rw [if_neg (by omega)] at h; exact h
    · rw [if_pos (by omega)] at h; exact h
  · obtain ⟨ha, hb⟩ : sm a ∧ sm b := hab
    rw [show iI (trc 6) = -25 by decide]
    refine ⟨fun q => absurd q (by decide), fun q => absurd q (by decide), fun q => absurd q (by decide), fun q => absurd q (by decide), fun q => absurd q (by decide), fun _ => ?_, fun q => absurd q (by decide), fun q => absurd q (by decide), fun q => absurd q (by decide), fun q => absurd q (by decide), fun q => absurd q (by decide), fun n0 n1 n2 n3 n4 n5 n6 n7 n8 n9 n10 => absurd rfl n5⟩
    have h : K (iI (if b < a then a else b)) I J := h
    rw [iI_le ha hb]
    refine ⟨fun q => ?_, fun q => ?_⟩
    · rw [if_neg (by omega)] at h; exact h
    · rw [if_pos (by omega)] at h; exact h
  · obtain ⟨ha, hb⟩ : sm a ∧ sm b := hab
    rw [show iI (trc 7) = -26 by decide]
    refine ⟨fun q => absurd q (by decide), fun q => absurd q (by decide), fun q => absurd q (by decide), fun q => absurd q (by decide), fun _ => ?_, fun q => absurd q (by decide), fun q => absurd q (by decide), fun q => absurd q (by decide), fun q => absurd q (by decide), fun q => absurd q (by decide), fun q => absurd q (by decide), fun n0 n1 n2 n3 n4 n5 n6 n7 n8 n9 n10 => absurd rfl n4⟩
    have h : K (iI (if a < b then 1 else 0)) I J := h
    rw [iI_le hb ha]
    refine ⟨fun q => ?_, fun q => ?_⟩
    · rw [if_neg (by omega)] at h; exact h
    · rw [if_pos (by omega)] at h; exact h
  · obtain ⟨ha, hb⟩ : sm a ∧ sm b := hab
    rw [show iI (trc 8) = -27 by decide]
    refine ⟨fun q => absurd q (by decide), fun q => absurd q (by decide), fun q => absurd q (by decide), fun _ => ?_, fun q => absurd q (by decide), fun q => absurd q (by decide), fun q => absurd q (by decide), fun q => absurd q (by decide), fun q => absurd q (by decide), fun q => absurd q (by decide), fun q => absurd q (by decide), fun n0 n1 n2 n3 n4 n5 n6 n7 n8 n9 n10 => absurd rfl n3⟩
    have h : K (iI (if b < a then 1 else 0)) I J := h
    rw [iI_le ha hb]
    refine ⟨fun q => ?_, fun q => ?_⟩
    · rw [if_neg (by omega)] at h; exact h
    · rw [if_pos (by omega)] at h; exact h
  · obtain ⟨ha, hb⟩ : sm a ∧ sm b := hab
    rw [show iI (trc 9) = -28 by decide]
    refine ⟨fun q => absurd q (by decide), fun q => absurd q (by decide), fun _ => ?_, fun q => absurd q (by decide), fun q => absurd q (by decide), fun q => absurd q (by decide), fun q => absurd q (by decide), fun q => absurd q (by decide), fun q => absurd q (by decide), fun q => absurd q (by decide), fun q => absurd q (by decide), fun n0 n1 n2 n3 n4 n5 n6 n7 n8 n9 n10 => absurd rfl n2⟩
    have h : K (iI (if a = b then 1 else 0)) I J := h
    rw [iI_eq ha hb]
    refine ⟨fun q => ?_, fun q => ?_⟩
    · rw [if_neg q] at h; exact h
    · rw [if_pos q] at h; exact h
  · obtain ⟨ha, hb⟩ : (a = 0 ∨ a = 1) ∧ (b = 0 ∨ b = 1) := hab
    rw [show iI (trc 10) = -29 by decide]
    refine ⟨fun q => absurd q (by decide), fun _ => ?_, fun q => absurd q (by decide), fun q => absurd q (by decide), fun q => absurd q (by decide), fun q => absurd q (by decide), fun q => absurd q (by decide), fun q => absurd q (by decide), fun q => absurd q (by decide), fun q => absurd q (by decide), fun q => absurd q (by decide), fun n0 n1 n2 n3 n4 n5 n6 n7 n8 n9 n10 => absurd rfl n1⟩
    have h : K (iI (a * b)) I J := h
    rcases ha with rfl | rfl <;> rcases hb with rfl | rfl <;> exact h
  · obtain ⟨ha, hb⟩ : (a = 0 ∨ a = 1) ∧ (b = 0 ∨ b = 1) := hab
    rw [show iI (trc 11) = -30 by decide]
    refine ⟨fun _ => ?_, fun q => absurd q (by decide), fun q => absurd q (by decide), fun q => absurd q (by decide), fun q => absurd q (by decide), fun q => absurd q (by decide), fun q => absurd q (by decide), fun q => absurd q (by decide), fun q => absurd q (by decide), fun q => absurd q (by decide), fun q => absurd q (by decide), fun n0 n1 n2 n3 n4 n5 n6 n7 n8 n9 n10 => absurd rfl n0⟩
    have h : K (iI (if 0 < a + b then 1 else 0)) I J := h
    rcases ha with rfl | rfl <;> rcases hb with rfl | rfl <;> exact h
end SP

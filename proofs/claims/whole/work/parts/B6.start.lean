/-! the start: what the Statement gives of it -/
def flG : List Cond := flatC (Cond.and given_1 narrow_1)
theorem fg_ex : ∀ i, i < 34 → flG[([170, 176, 182, 98, 188, 194, 200, 206, 212, 218, 134, 128, 104, 110, 116, 122, 92, 224, 230, 236, 86, 242, 248, 254, 260, 266, 272, 278, 140, 146, 4, 152, 158, 164] : List Nat).getD i 0]? = some (Cond.exactly (.static "PupilsPupil$Word" (z_wnm.getD i "") "LPupilsPupil$Word;") "PupilsPupil$Word") := by decide +kernel
theorem fg_f0 : ∀ i, i < 34 → flG[([171, 177, 183, 99, 189, 195, 201, 207, 213, 219, 135, 129, 105, 111, 117, 123, 93, 225, 231, 237, 87, 243, 249, 255, 261, 267, 273, 279, 141, 147, 5, 153, 159, 165] : List Nat).getD i 0]? = some (Cond.eq (.field (.static "PupilsPupil$Word" (z_wnm.getD i "") "LPupilsPupil$Word;") "java/lang/Enum" "ordinal" "I") (.int ((z_wF.getD 0 ("", "", "", [])).2.2.2.getD i 0))) := by decide +kernel
theorem fg_f1 : ∀ i, i < 34 → flG[([172, 178, 184, 100, 190, 196, 202, 208, 214, 220, 136, 130, 106, 112, 118, 124, 94, 226, 232, 238, 88, 244, 250, 256, 262, 268, 274, 280, 142, 148, 6, 154, 160, 166] : List Nat).getD i 0]? = some (Cond.eq (.field (.static "PupilsPupil$Word" (z_wnm.getD i "") "LPupilsPupil$Word;") "PupilsPupil$Word" "packed" "I") (.int ((z_wF.getD 1 ("", "", "", [])).2.2.2.getD i 0))) := by decide +kernel
theorem fg_f2 : ∀ i, i < 34 → flG[([173, 179, 185, 101, 191, 197, 203, 209, 215, 221, 137, 131, 107, 113, 119, 125, 95, 227, 233, 239, 89, 245, 251, 257, 263, 269, 275, 281, 143, 149, 7, 155, 161, 167] : List Nat).getD i 0]? = some (Cond.eq (.field (.static "PupilsPupil$Word" (z_wnm.getD i "") "LPupilsPupil$Word;") "PupilsPupil$Word" "own" "Z") (.int ((z_wF.getD 2 ("", "", "", [])).2.2.2.getD i 0))) := by decide +kernel
theorem fg_f3 : ∀ i, i < 34 → flG[([174, 180, 186, 102, 192, 198, 204, 210, 216, 222, 138, 132, 108, 114, 120, 126, 96, 228, 234, 240, 90, 246, 252, 258, 264, 270, 276, 282, 144, 150, 8, 156, 162, 168] : List Nat).getD i 0]? = some (Cond.eq (.field (.static "PupilsPupil$Word" (z_wnm.getD i "") "LPupilsPupil$Word;") "PupilsPupil$Word" "slot" "I") (.int ((z_wF.getD 3 ("", "", "", [])).2.2.2.getD i 0))) := by decide +kernel
theorem fg_f4 : ∀ i, i < 34 → flG[([175, 181, 187, 103, 193, 199, 205, 211, 217, 223, 139, 133, 109, 115, 121, 127, 97, 229, 235, 241, 91, 247, 253, 259, 265, 271, 277, 283, 145, 151, 9, 157, 163, 169] : List Nat).getD i 0]? = some (Cond.eq (.field (.static "PupilsPupil$Word" (z_wnm.getD i "") "LPupilsPupil$Word;") "PupilsPupil$Word" "scopes" "I") (.int ((z_wF.getD 4 ("", "", "", [])).2.2.2.getD i 0))) := by decide +kernel
theorem fg_w : ∀ i, i < 34 → flG[([15, 16, 17, 18, 19, 20, 21, 22, 23, 24, 25, 26, 27, 28, 29, 30, 31, 32, 33, 34, 35, 36, 37, 38, 39, 40, 41, 42, 43, 44, 45, 46, 47, 48] : List Nat).getD i 0]? = some (Cond.eq (.elem (.static "PupilsPupil$Word" "WORDS" "[LPupilsPupil$Word;") (.int (Int32.ofNat i))) (.static "PupilsPupil$Word" (z_wnm.getD i "") "LPupilsPupil$Word;")) := by decide +kernel
theorem fg_s : ∀ i, i < 34 → flG[([52, 53, 54, 55, 56, 57, 58, 59, 60, 61, 62, 63, 64, 65, 66, 67, 68, 69, 70, 71, 72, 73, 74, 75, 76, 77, 78, 79, 80, 81, 82, 83, 84, 85] : List Nat).getD i 0]? = some (Cond.eq (.elem (.static "PupilsPupil$1" "$SwitchMap$PupilsPupil$Word" "[I") (.int (Int32.ofNat i))) (.int (z_wsw.getD i 0))) := by decide +kernel
theorem fg_aw : flG[12]? = some (Cond.arrayOf (.static "PupilsPupil$Word" "WORDS" "[LPupilsPupil$Word;") (.object "PupilsPupil$Word")) := by decide +kernel
theorem fg_lw : flG[13]? = some (Cond.eq (.length (.static "PupilsPupil$Word" "WORDS" "[LPupilsPupil$Word;")) (.int 34)) := by decide +kernel
theorem fg_as : flG[50]? = some (Cond.arrayOf (.static "PupilsPupil$1" "$SwitchMap$PupilsPupil$Word" "[I") .int) := by decide +kernel
theorem fg_ls : flG[51]? = some (Cond.eq (.length (.static "PupilsPupil$1" "$SwitchMap$PupilsPupil$Word" "[I")) (.int 34)) := by decide +kernel
theorem tb_l : ∀ i, i < 34 → tables_1[([1972, 1973, 1974, 596, 1975, 1976, 1977, 1978, 1979, 1980, 682, 680, 631, 644, 665, 667, 564, 1981, 1982, 1983, 546, 1984, 1985, 1986, 1987, 1988, 1989, 1990, 1051, 1053, 374, 1055, 1057, 1059] : List Nat).getD i 0]? = some (Cond.laysStatic "PupilsPupil$Word" (z_wnm.getD i "") "LPupilsPupil$Word;") := by decide +kernel
theorem tb_nm : z_NM.map (fun q => some (Cond.methodLinkNest q.1 q.2.1 q.2.2 "PupilsPupil")) = ([30, 75, 81, 335, 372, 580, 618, 802, 811, 885, 894, 955, 956, 1063, 1064, 1077] : List Nat).map (fun i => tables_1[i]?) := by decide +kernel
theorem tb_nf : z_NF.map (fun q => some (Cond.fieldLinkNest q.1 q.2.1 q.2.2.1 q.2.2.2.1 q.2.2.2.2 "PupilsPupil")) = ([1968, 1969, 1970, 1971] : List Nat).map (fun i => tables_1[i]?) := by decide +kernel
theorem od_inj : ∀ i, i < 34 → ∀ j, j < 34 → ((z_wF.getD 0 ("", "", "", [])).2.2.2.getD i 0) = ((z_wF.getD 0 ("", "", "", [])).2.2.2.getD j 0) → i = j := by decide +kernel
theorem tb_in {w : Cond} (h : w ∈ tables_1) : w ∈ lw_tbl := by unfold lw_tbl; exact List.mem_append_right _ h
section ST
variable {b : Nat} {s : State} {A : Nat → Prop}
theorem en_start (hts : ∀ w ∈ lw_tbl, w.before #[Value.ref b] s = true) (hgv : (Cond.and given_1 narrow_1).before #[Value.ref b] s = true) (hA : ∀ a : Nat, a < s.heap.size → ¬ A a) : ∃ ad : Nat → Nat, va_En "PupilsPupil$Word" "LPupilsPupil$Word;" z_wnm z_wF ad A s s.heap ∧ ∀ i, i < 34 → (Term.static "PupilsPupil$Word" (z_wnm.getD i "") "LPupilsPupil$Word;").eval #[Value.ref b] s none [] s = some (.ref (ad i)) := by
  have hg : ∀ {k : Nat} {w : Cond}, flG[k]? = some w → w.before #[Value.ref b] s = true := fun h => flat_of_before _ hgv _ (List.mem_of_getElem? h)
  have h34 : z_wnm.length = 34 := rfl
  have h0 : ∀ i : Nat, ∃ t : Nat, i < 34 → (Term.static "PupilsPupil$Word" (z_wnm.getD i "") "LPupilsPupil$Word;").eval #[Value.ref b] s none [] s = some (.ref t) ∧ va_O "PupilsPupil$Word" t A s s.heap := by
    intro i
    by_cases hi : i < 34
    · obtain ⟨a, c, cell, k, q1, q2, q3, q4, q5, q6, -⟩ := Cond.exactly_spec (hg (fg_ex i hi))
      exact ⟨a, fun _ => ⟨q1, cell, q3, q5, by rw [q6]; exact q2, hA a (Array.getElem?_eq_some_iff.mp q3).1⟩⟩
    · exact ⟨0, fun h => absurd h hi⟩
  obtain ⟨ad, had⟩ := Classical.axiomOfChoice h0
  have hf : ∀ q ∈ z_wF, ∀ i, i < 34 → va_OF q.1 q.2.1 q.2.2.1 (.int (q.2.2.2.getD i 0)) (ad i) A s s.heap := by
    intro q hq i hi
    have hv : (Cond.eq (.field (.static "PupilsPupil$Word" (z_wnm.getD i "") "LPupilsPupil$Word;") q.1 q.2.1 q.2.2.1) (.int (q.2.2.2.getD i 0))).before #[Value.ref b] s = true := by
      simp only [z_wF, List.mem_cons, List.not_mem_nil, or_false] at hq
      rcases hq with rfl | rfl | rfl | rfl | rfl
      · exact hg (fg_f0 i hi)
      · exact hg (fg_f1 i hi)
      · exact hg (fg_f2 i hi)
      · exact hg (fg_f3 i hi)
      · exact hg (fg_f4 i hi)
    have hv := va_eqt hv
    cases hfo : s.fieldFound? q.1 q.2.1 q.2.2.1 with
    | none =>
      rw [va_fe (had i hi).1] at hv
      simp [State.fieldOf?, State.fieldNamed?, hfo] at hv
    | some x =>
      obtain ⟨cf, k, fi, f⟩ := x
      obtain ⟨g1, cell, g2, g3, -, -, g6⟩ := Term.field_spec hfo (had i hi).1 hv
      exact ⟨cf, k, fi, f, cell, hfo, g1, g2, g3, g6, hA _ (Array.getElem?_eq_some_iff.mp g2).1⟩
  refine ⟨ad, ⟨fun i hi => ⟨va_Zref (hts _ (tb_in (List.mem_of_getElem? (tb_l i hi)))) (hts _ (List.mem_filter.mp (z_c1 14 (by decide +kernel) rfl)).1) (had i hi).1 hA, (had i hi).2, fun q hq => hf q hq i hi⟩, fun i j hi hj e => ?_⟩, fun i hi => (had i hi).1⟩
  obtain ⟨cf, k, fi, f, cell, a1, a2, a3, a4, a5, -⟩ := hf _ (List.mem_of_getElem? (i := 0) rfl) i hi
  obtain ⟨cf', k', fi', f', cell', b1, b2, b3, b4, b5, -⟩ := hf _ (List.mem_of_getElem? (i := 0) rfl) j hj
  rw [← e] at b3
  cases a1.symm.trans b1
  cases a3.symm.trans b3
  have h5 := a5.symm.trans b5
  exact od_inj i hi j hj (Value.int.inj (Option.some.inj h5))
theorem kn_start (hts : ∀ w ∈ lw_tbl, w.before #[Value.ref b] s = true) : ∃ (dC : Nat → ClassId) (dI : Nat → Nat → Nat), ∀ (c : Nat) (q : vw_C), z_cls[c]? = some q → u_Kn s q.1 q.2.1 q.2.2 (dC c) (dI c) := by
  have hT : ∀ w ∈ z_Tg, w.before #[Value.ref b] s = true := fun w hw => hts w (List.mem_filter.mp hw).1
  have key : ∀ c, c < 14 → ∃ (cC : ClassId) (iS : Nat → Nat), u_Kn s (z_R c) (z_T c) (z_nF c) cC iS := by
    intro c hc
    match c, hc with
    | 0, h => exact u_known (n := 16) hT (z_in 0 h) (hT _ (z_c1 21 (by decide +kernel) rfl))
    | 11, h => exact u_known (n := 16) hT (z_in 11 h) (hT _ (z_c1 21 (by decide +kernel) rfl))
    | 1, h => exact u_known (n := 4) hT (z_in 1 h) (hT _ (z_c1 239 (by decide +kernel) rfl))
    | 2, h => exact u_known (n := 6) hT (z_in 2 h) (hT _ (z_c2 18 (by decide +kernel) rfl))
    | 3, h => exact u_known (n := 5) hT (z_in 3 h) (hT _ (z_c1 80 (by decide +kernel) rfl))
    | 4, h => exact u_known (n := 3) hT (z_in 4 h) (hT _ (z_c2 97 (by decide +kernel) rfl))
    | 5, h => exact u_known (n := 7) hT (z_in 5 h) (hT _ (z_c2 126 (by decide +kernel) rfl))
    | 6, h => exact u_known (n := 10) hT (z_in 6 h) (hT _ (z_c2 47 (by decide +kernel) rfl))
    | 7, h => exact u_known (n := 11) hT (z_in 7 h) (hT _ (z_c1 74 (by decide +kernel) rfl))
    | 8, h => exact u_known (n := 3) hT (z_in 8 h) (hT _ (z_c2 89 (by decide +kernel) rfl))
    | 9, h => exact u_known (n := 9) hT (z_in 9 h) (hT _ (z_c1 102 (by decide +kernel) rfl))
    | 10, h => exact u_known (n := 9) hT (z_in 10 h) (hT _ (z_c1 29 (by decide +kernel) rfl))
    | 12, h => exact u_known (n := 16) hT (z_in 12 h) (hT _ (z_c1 21 (by decide +kernel) rfl))
    | 13, h => exact u_known (n := 105) hT (z_in 13 h) (hT _ (z_c5 162 (by decide +kernel) rfl))
    | n + 14, h => exact absurd h (by omega)
  have key2 : ∀ c : Nat, ∃ p : ClassId × (Nat → Nat), c < 14 → u_Kn s (z_R c) (z_T c) (z_nF c) p.1 p.2 := by
    intro c
    by_cases h : c < 14
    · obtain ⟨x, y, z⟩ := key c h
      exact ⟨(x, y), fun _ => z⟩
    · exact ⟨(0, fun _ => 0), fun q => absurd q h⟩
  obtain ⟨f, hf⟩ := Classical.axiomOfChoice key2
  refine ⟨fun c => (f c).1, fun c => (f c).2, fun c q hq => ?_⟩
  have hc : c < 14 := (List.getElem?_eq_some_iff.mp hq).1
  rw [z_clsAt c hc] at hq
  cases hq
  exact hf c hc
theorem ar_start {ty : FieldType} (h : (Cond.arrayClass ty).before #[Value.ref b] s = true) (hty : ∀ C, ty ≠ .object C) : ∃ cA : ClassId, ArrOfT s cA ty ∧ va_RA s cA ty := by
  obtain ⟨cA, kA, comp, f1, f2, f3⟩ := Cond.arrayClass_spec h
  refine ⟨cA, fun N z => ⟨(fun k h => by cases h), kA, f2, comp, f3⟩, ?_⟩
  cases ty with
  | object C => exact absurd rfl (hty C)
  | _ => exact f1
theorem ao_start {C : String} (h : va_AO C s) : ∃ cA : ClassId, ArrOfT s cA (.object C) ∧ va_RA s cA (.object C) := by
  obtain ⟨comp, c, k, h1, h2, h3, h4, h5⟩ := Cond.arrayOver_spec h
  exact ⟨c, fun N z => ⟨(fun k h => by cases h), k, h3, comp, h4⟩, k, comp, h3, h4, h1, h5⟩
/-- where the worlds begin -/
theorem z_start0 (l : Launch) (n : Nat) (hts : ∀ w ∈ lw_tbl, w.before #[Value.ref b] s = true) (hgv : (Cond.and given_1 narrow_1).before #[Value.ref b] s = true) (hA : ∀ a : Nat, a < s.heap.size → ¬ A a) : ∃ E : En, E.1 = l ∧ E.2.1 = n ∧ z_CN A E s s.heap := by
  have hg : ∀ {k : Nat} {w : Cond}, flG[k]? = some w → w.before #[Value.ref b] s = true := fun h => flat_of_before _ hgv _ (List.mem_of_getElem? h)
  have hT : ∀ w ∈ z_Tg, w.before #[Value.ref b] s = true := fun w hw => hts w (List.mem_filter.mp hw).1
  obtain ⟨ad, hEn, hev⟩ := en_start hts hgv hA
  obtain ⟨dC, dI, hK⟩ := kn_start hts
  obtain ⟨tW, eW, TW⟩ := va_Tof (N := 34) (f := fun j => .ref (ad j)) (by decide) (hg fg_aw) (va_eqt (hg fg_lw)) (fun j hj => va_eqv (hg (fg_w j hj)) (hev j hj)) hA
  obtain ⟨tS, eS, TS⟩ := va_Tof (N := 34) (f := fun j => .int (z_wsw.getD j 0)) (by decide) (hg fg_as) (va_eqt (hg fg_ls)) (fun j hj => va_eqt (hg (fg_s j hj))) hA
  have hAO : va_AO "PupilsPupil$State" s := va_AO.of (hts _ (tb_in (List.mem_of_getElem? (i := 237) (by decide +kernel))))
  obtain ⟨c1, r1⟩ := ar_start (ty := .int) (hT _ (z_c1 72 (by decide +kernel) rfl)) (fun C h => by cases h)
  obtain ⟨c2, r2⟩ := ar_start (ty := .char) (hT _ (z_c7 3 (by decide +kernel) rfl)) (fun C h => by cases h)
  obtain ⟨c3, r3⟩ := ar_start (ty := .long) (hT _ (z_c7 4 (by decide +kernel) rfl)) (fun C h => by cases h)
  obtain ⟨c4, r4⟩ := ao_start hAO
  have ea : ∀ i, i < 34 → (fun k : Nat => if k = 10000 then tW else if k = 10001 then tS else ad k) i = ad i := fun i hi => by
    show (if i = 10000 then tW else if i = 10001 then tS else ad i) = ad i
    rw [if_neg (by omega), if_neg (by omega)]
  refine ⟨(l, n, fun k => if k = 10000 then tW else if k = 10001 then tS else ad k, (dC, dI), fun k => if k = 1 then c1 else if k = 2 then c2 else if k = 3 then c3 else c4), rfl, rfl, ⟨⟨hK, fun k q hk => ?_⟩, ⟨fun q hq => ?_, fun q hq => ?_⟩, ⟨fun i hi => ?_, fun i j hi hj e => ?_⟩, ⟨?_, ?_⟩, ?_, TS⟩, hAO⟩
  · match k, hk with
    | 0, hk => cases hk; exact r1
    | 1, hk => cases hk; exact r2
    | 2, hk => cases hk; exact r3
    | 3, hk => cases hk; exact r4
    | k + 4, hk => cases hk
  · have h1 : some (Cond.methodLinkNest q.1 q.2.1 q.2.2 "PupilsPupil") ∈ z_NM.map (fun q => some (Cond.methodLinkNest q.1 q.2.1 q.2.2 "PupilsPupil")) := List.mem_map.mpr ⟨q, hq, rfl⟩
    rw [tb_nm] at h1
    obtain ⟨i, -, hi⟩ := List.mem_map.mp h1
    exact va_Nw.of rfl (hts _ (tb_in (List.mem_of_getElem? hi)))
  · have h1 : some (Cond.fieldLinkNest q.1 q.2.1 q.2.2.1 q.2.2.2.1 q.2.2.2.2 "PupilsPupil") ∈ z_NF.map (fun q => some (Cond.fieldLinkNest q.1 q.2.1 q.2.2.1 q.2.2.2.1 q.2.2.2.2 "PupilsPupil")) := List.mem_map.mpr ⟨q, hq, rfl⟩
    rw [tb_nf] at h1
    obtain ⟨i, -, hi⟩ := List.mem_map.mp h1
    exact va_Nw.of rfl (hts _ (tb_in (List.mem_of_getElem? hi)))
  · have := hEn.1 i hi
    rw [← ea i hi] at this
    exact this
  · have e1 := ea i hi
    have e2 := ea j hj
    exact hEn.2 i j hi hj (e1.symm.trans (e.trans e2))
  · exact va_Zref (hts _ (tb_in (List.mem_of_getElem? (i := 509) (by decide +kernel)))) (hT _ (z_c1 14 (by decide +kernel) rfl)) eW hA
  · obtain ⟨cell, h1, h2, h3, h4, h5, h6, h7⟩ := TW
    exact ⟨cell, h1, h2, h3, h4, h5, fun j hj => (h6 j hj).trans (congrArg (fun q => some (Value.ref q)) (ea j hj).symm), h7⟩
  · exact va_Zref (hts _ (tb_in (List.mem_of_getElem? (i := 515) (by decide +kernel)))) (hT _ (z_c1 16 (by decide +kernel) rfl)) eS hA
end ST

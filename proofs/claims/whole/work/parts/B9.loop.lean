/-! the law: its loop -/
theorem dL_0 : decode code 0 = .ok (.new 7, 3) := by decide +kernel
theorem dL_3 : decode code 3 = .ok (.dup, 1) := by decide +kernel
theorem dL_4 : decode code 4 = .ok (.invokespecial 9, 3) := by decide +kernel
theorem dL_7 : decode code 7 = .ok (.astore_n 1, 1) := by decide +kernel
theorem dL_8 : decode code 8 = .ok (.new 10, 3) := by decide +kernel
theorem dL_11 : decode code 11 = .ok (.dup, 1) := by decide +kernel
theorem dL_12 : decode code 12 = .ok (.invokespecial 12, 3) := by decide +kernel
theorem dL_15 : decode code 15 = .ok (.astore_n 2, 1) := by decide +kernel
theorem dL_16 : decode code 16 = .ok (.iconst 0, 1) := by decide +kernel
theorem dL_17 : decode code 17 = .ok (.istore_n 3, 1) := by decide +kernel
theorem dL_18 : decode code 18 = .ok (.iload_n 3, 1) := by decide +kernel
theorem dL_19 : decode code 19 = .ok (.aload_n 0, 1) := by decide +kernel
theorem dL_20 : decode code 20 = .ok (.arraylength, 1) := by decide +kernel
theorem dL_21 : decode code 21 = .ok (.bipush 6, 2) := by decide +kernel
theorem dL_23 : decode code 23 = .ok (.isub, 1) := by decide +kernel
theorem dL_24 : decode code 24 = .ok (.if_icmp .gt 1046, 3) := by decide +kernel
theorem dL_27 : decode code 27 = .ok (.aload_n 0, 1) := by decide +kernel
theorem dL_28 : decode code 28 = .ok (.iload_n 3, 1) := by decide +kernel
theorem dL_29 : decode code 29 = .ok (.iaload, 1) := by decide +kernel
theorem dL_30 : decode code 30 = .ok (.bipush 31, 2) := by decide +kernel
theorem dL_32 : decode code 32 = .ok (.iand, 1) := by decide +kernel
theorem dL_33 : decode code 33 = .ok (.tableswitch 1031 0 31 #[143, 206, 229, 242, 265, 288, 331, 364, 397, 421, 444, 477, 510, 533, 556, 589, 632, 665, 678, 711, 754, 787, 820, 853, 876, 899, 912, 935, 959, 972, 995, 1008], 143) := by decide +kernel
theorem dL_1064 : decode code 1064 = .ok (.iinc 3 6, 3) := by decide +kernel
theorem dL_1067 : decode code 1067 = .ok (.goto (-1049), 3) := by decide +kernel
theorem dL_1070 : decode code 1070 = .ok (.iconst 1, 1) := by decide +kernel
theorem dL_1071 : decode code 1071 = .ok (.ireturn, 1) := by decide +kernel
theorem and31 (v : Int32) : ∃ j, j < 32 ∧ v &&& 31 = nI j := by
  refine ⟨v.toBitVec.toNat % 32, Nat.mod_lt _ (by decide), ?_⟩
  apply Int32.toBitVec_inj.mp
  apply BitVec.eq_of_toNat_eq
  have h1 : (v &&& 31).toBitVec = v.toBitVec &&& 31#32 := rfl
  have h2 : (nI (v.toBitVec.toNat % 32)).toBitVec = BitVec.ofNat 32 (v.toBitVec.toNat % 32) := rfl
  rw [h1, h2, BitVec.toNat_and, BitVec.toNat_ofNat, BitVec.toNat_ofNat, show 31 % 2 ^ 32 = 2 ^ 5 - 1 from rfl, Nat.and_two_pow_sub_one_eq_mod]
  have : v.toBitVec.toNat % 32 < 32 := Nat.mod_lt _ (by decide)
  exact (Nat.mod_eq_of_lt (a := v.toBitVec.toNat % 32) (by omega)).symm
section LL
variable {C : Ct} {I1 : Ii} {J1 : Jj} {I2 : Ii} {J2 : Jj} {i : Nat}
theorem l_head (hL : CL C ≤ 3072) (hi : i ≤ 4000) (ha : CL C < i + 6 → LW C 1070 (lsC C i) [] I1 J1 I2 J2) (hb : ¬ CL C < i + 6 → LW C 27 (lsC C i) [] I1 J1 I2 J2) : LW C 18 (lsC C i) [] I1 J1 I2 J2 := by
  refine l_iload dL_18 3 3 rfl rfl ?_
  refine l_aload dL_19 0 0 rfl rfl ?_
  refine l_len dL_20 ?_
  refine l_bipush (v := nI 6) dL_21 (by decide) ?_
  refine l_isub dL_23 ?_
  have key : nI (CL C) - nI 6 < nI i ↔ CL C < i + 6 := by
    rw [Int32.lt_iff_toInt_lt, pk_sub_toInt (by omega) (by omega), nI_toInt (by omega)]
    omega
  exact l_icmp_gt (tgt := 1070) dL_24 rfl (fun q => ha (key.mp q)) (fun q => hb (fun z => q (key.mpr z)))
end LL
theorem law_loop {C : Ct} (hL : CL C ≤ 3072) : ∀ n i, CL C < i + 6 * n → i ≤ 4000 → ∀ I1 J1 I2 J2 sc L s ps g, EnX I1 sc L s ps g → EnM I2 J2 sc L s ps g → LW C 18 (lsC C i) [] I1 J1 I2 J2 := by
  intro n
  induction n with
  | zero =>
    intro i h1 h2 I1 J1 I2 J2 sc L s ps g hX hM
    exact l_head hL h2 (fun _ => l_end dL_1070 dL_1071) (fun q => absurd (by omega) q)
  | succ n ih =>
    intro i h1 h2 I1 J1 I2 J2 sc L s ps g hX hM
    refine l_head hL h2 (fun _ => l_end dL_1070 dL_1071) (fun q => ?_)
    have hi : i + 6 ≤ CL C := by omega
    have hn : ∀ I1' J1' I2' J2' sc' L' s' ps' g', EnX I1' sc' L' s' ps' g' → EnM I2' J2' sc' L' s' ps' g' → LW C 1064 (lsC C i) [] I1' J1' I2' J2' := fun I1' J1' I2' J2' sc' L' s' ps' g' hX' hM' => l_iinc dL_1064 (l_goto (tgt := 18) dL_1067 rfl (ih (i + 6) (by omega) (by omega) I1' J1' I2' J2' sc' L' s' ps' g' hX' hM'))
    refine l_aload dL_27 0 0 rfl rfl ?_
    refine l_iload dL_28 3 3 rfl rfl ?_
    refine l_iald dL_29 (by omega) hL ?_
    refine l_bipush (v := 31) dL_30 (by decide) ?_
    refine l_iand dL_32 ?_
    obtain ⟨j, hj, e⟩ := and31 (Cx C i)
    rw [e]
    match j, hj with
    | 0, _ => exact l_tbl (off := 143) (tgt := 176) dL_33 (by decide) rfl rfl (lc_0 hi hL hX hM hn)
    | 1, _ => exact l_tbl (off := 206) (tgt := 239) dL_33 (by decide) rfl rfl (lc_1 hi hL hX hM hn)
    | 2, _ => exact l_tbl (off := 229) (tgt := 262) dL_33 (by decide) rfl rfl (lc_2 hi hL hX hM hn)
    | 3, _ => exact l_tbl (off := 242) (tgt := 275) dL_33 (by decide) rfl rfl (lc_3 hi hL hX hM hn)
    | 4, _ => exact l_tbl (off := 265) (tgt := 298) dL_33 (by decide) rfl rfl (lc_4 hi hL hX hM hn)
    | 5, _ => exact l_tbl (off := 288) (tgt := 321) dL_33 (by decide) rfl rfl (lc_5 hi hL hX hM hn)
    | 6, _ => exact l_tbl (off := 331) (tgt := 364) dL_33 (by decide) rfl rfl (lc_6 hi hL hX hM hn)
    | 7, _ => exact l_tbl (off := 364) (tgt := 397) dL_33 (by decide) rfl rfl (lc_7 hi hL hX hM hn)
    | 8, _ => exact l_tbl (off := 397) (tgt := 430) dL_33 (by decide) rfl rfl (lc_8 hi hL hX hM hn)
    | 9, _ => exact l_tbl (off := 421) (tgt := 454) dL_33 (by decide) rfl rfl (lc_9 hi hL hX hM hn)
    | 10, _ => exact l_tbl (off := 444) (tgt := 477) dL_33 (by decide) rfl rfl (lc_10 hi hL hX hM hn)
    | 11, _ => exact l_tbl (off := 477) (tgt := 510) dL_33 (by decide) rfl rfl (lc_11 hi hL hX hM hn)
    | 12, _ => exact l_tbl (off := 510) (tgt := 543) dL_33 (by decide) rfl rfl (lc_12 hi hL hX hM hn)
    | 13, _ => exact l_tbl (off := 533) (tgt := 566) dL_33 (by decide) rfl rfl (lc_13 hi hL hX hM hn)
    | 14, _ => exact l_tbl (off := 556) (tgt := 589) dL_33 (by decide) rfl rfl (lc_14 hi hL hX hM hn)
    | 15, _ => exact l_tbl (off := 589) (tgt := 622) dL_33 (by decide) rfl rfl (lc_15 hi hL hX hM hn)
    | 16, _ => exact l_tbl (off := 632) (tgt := 665) dL_33 (by decide) rfl rfl (lc_16 hi hL hX hM hn)
    | 17, _ => exact l_tbl (off := 665) (tgt := 698) dL_33 (by decide) rfl rfl (lc_17 hi hL hX hM hn)
    | 18, _ => exact l_tbl (off := 678) (tgt := 711) dL_33 (by decide) rfl rfl (lc_18 hi hL hX hM hn)
    | 19, _ => exact l_tbl (off := 711) (tgt := 744) dL_33 (by decide) rfl rfl (lc_19 hi hL hX hM hn)
    | 20, _ => exact l_tbl (off := 754) (tgt := 787) dL_33 (by decide) rfl rfl (lc_20 hi hL hX hM hn)
    | 21, _ => exact l_tbl (off := 787) (tgt := 820) dL_33 (by decide) rfl rfl (lc_21 hi hL hX hM hn)
    | 22, _ => exact l_tbl (off := 820) (tgt := 853) dL_33 (by decide) rfl rfl (lc_22 hi hL hX hM hn)
    | 23, _ => exact l_tbl (off := 853) (tgt := 886) dL_33 (by decide) rfl rfl (lc_23 hi hL hX hM hn)
    | 24, _ => exact l_tbl (off := 876) (tgt := 909) dL_33 (by decide) rfl rfl (lc_24 hi hL hX hM hn)
    | 25, _ => exact l_tbl (off := 899) (tgt := 932) dL_33 (by decide) rfl rfl (lc_25 hi hL hX hM hn)
    | 26, _ => exact l_tbl (off := 912) (tgt := 945) dL_33 (by decide) rfl rfl (lc_26 hi hL hX hM hn)
    | 27, _ => exact l_tbl (off := 935) (tgt := 968) dL_33 (by decide) rfl rfl (lc_27 hi hL hX hM hn)
    | 28, _ => exact l_tbl (off := 959) (tgt := 992) dL_33 (by decide) rfl rfl (lc_28 hi hL hX hM hn)
    | 29, _ => exact l_tbl (off := 972) (tgt := 1005) dL_33 (by decide) rfl rfl (lc_29 hi hL hX hM hn)
    | 30, _ => exact l_tbl (off := 995) (tgt := 1028) dL_33 (by decide) rfl rfl (lc_30 hi hL hX hM hn)
    | 31, _ => exact l_tbl (off := 1008) (tgt := 1041) dL_33 (by decide) rfl rfl (lc_31 hi hL hX hM hn)
    | n + 32, h => exact absurd h (by omega)

/-! the law: calls 24 to 31 -/
theorem dL_909 : decode code 909 = .ok (.aload_n 1, 1) := by decide +kernel
theorem dL_910 : decode code 910 = .ok (.aload_n 0, 1) := by decide +kernel
theorem dL_911 : decode code 911 = .ok (.iload_n 3, 1) := by decide +kernel
theorem dL_912 : decode code 912 = .ok (.iconst 1, 1) := by decide +kernel
theorem dL_913 : decode code 913 = .ok (.iadd, 1) := by decide +kernel
theorem dL_914 : decode code 914 = .ok (.iaload, 1) := by decide +kernel
theorem dL_915 : decode code 915 = .ok (.invokevirtual 117, 3) := by decide +kernel
theorem dL_918 : decode code 918 = .ok (.aload_n 2, 1) := by decide +kernel
theorem dL_919 : decode code 919 = .ok (.aload_n 0, 1) := by decide +kernel
theorem dL_920 : decode code 920 = .ok (.iload_n 3, 1) := by decide +kernel
theorem dL_921 : decode code 921 = .ok (.iconst 1, 1) := by decide +kernel
theorem dL_922 : decode code 922 = .ok (.iadd, 1) := by decide +kernel
theorem dL_923 : decode code 923 = .ok (.iaload, 1) := by decide +kernel
theorem dL_924 : decode code 924 = .ok (.invokevirtual 120, 3) := by decide +kernel
theorem dL_927 : decode code 927 = .ok (.if_icmp .eq 137, 3) := by decide +kernel
theorem lc_24 {C : Ct} {i : Nat} {I1 : Ii} {J1 : Jj} {I2 : Ii} {J2 : Jj} {sc : Sx} {L : Nat → List Nat} {s : Sx} {ps : Nat → Sx} {g : Sx} (hi : i + 6 ≤ CL C) (hL : CL C ≤ 3072) (hX : EnX I1 sc L s ps g) (hM : EnM I2 J2 sc L s ps g) (h : ∀ I1' J1' I2' J2' sc' L' s' ps' g', EnX I1' sc' L' s' ps' g' → EnM I2' J2' sc' L' s' ps' g' → LW C 1064 (lsC C i) [] I1' J1' I2' J2') : LW C 909 (lsC C i) [] I1 J1 I2 J2 := by
  refine l_aload dL_909 1 1 rfl rfl ?_
  refine l_aload dL_910 0 0 rfl rfl ?_
  refine l_iload dL_911 3 3 rfl rfl ?_
  refine l_iconst (v := nI 1) dL_912 rfl ?_
  refine l_iadd (z := nI (i + 1)) dL_913 (nI_add i 1) ?_
  refine l_iald dL_914 (by omega) hL ?_
  refine l_callX (As := [.int (Cx C (i + 1))]) (rest := []) dL_915 ml_L_117 md_X12_chance mv_X12_chance rfl rfl (fun _ => rfl) rfl (by decide) (by decide) (x_chance (d := 0) (K := fun x I' _ => x = (r_chance sc L s g (Cx C (i + 1))) ∧ EnX I' sc L (s_ch sc L s g (Cx C (i + 1))) (ps_ye s ps g (Cx C (i + 1))) (g_ch sc L s g (Cx C (i + 1)))) hX (fun I' h9 => ⟨rfl, h9⟩)) (fun r I' J' q => ?_)
  obtain ⟨x, rfl, rfl, hX1⟩ := q
  refine ⟨fun _ => rfl, ?_⟩
  refine l_aload dL_918 2 2 rfl rfl ?_
  refine l_aload dL_919 0 0 rfl rfl ?_
  refine l_iload dL_920 3 3 rfl rfl ?_
  refine l_iconst (v := nI 1) dL_921 rfl ?_
  refine l_iadd (z := nI (i + 1)) dL_922 (nI_add i 1) ?_
  refine l_iald dL_923 (by omega) hL ?_
  refine l_callM (As := [.int (Cx C (i + 1))]) (rest := [.int ((r_chance sc L s g (Cx C (i + 1))))]) dL_924 ml_L_120 md_X13_chance mv_X13_chance rfl rfl (fun _ => rfl) rfl (Nat.le_of_ble_eq_true rfl) (by decide) (y_chance (d := 0) (K := fun x I' J' => x = (r_chance sc L s g (Cx C (i + 1))) ∧ EnM I' J' sc L (s_ch sc L s g (Cx C (i + 1))) (ps_ye s ps g (Cx C (i + 1))) (g_ch sc L s g (Cx C (i + 1)))) hM (fun I' J' h9 => ⟨rfl, h9⟩)) (fun r I2' J2' q => ?_)
  obtain ⟨x, rfl, rfl, hM1⟩ := q
  refine ⟨fun _ => rfl, ?_⟩
  exact l_same dL_927 rfl (h _ _ _ _ _ _ _ _ _ hX1 hM1)
theorem dL_932 : decode code 932 = .ok (.aload_n 1, 1) := by decide +kernel
theorem dL_933 : decode code 933 = .ok (.invokevirtual 121, 3) := by decide +kernel
theorem dL_936 : decode code 936 = .ok (.aload_n 2, 1) := by decide +kernel
theorem dL_937 : decode code 937 = .ok (.invokevirtual 125, 3) := by decide +kernel
theorem dL_940 : decode code 940 = .ok (.if_icmp .eq 124, 3) := by decide +kernel
theorem lc_25 {C : Ct} {i : Nat} {I1 : Ii} {J1 : Jj} {I2 : Ii} {J2 : Jj} {sc : Sx} {L : Nat → List Nat} {s : Sx} {ps : Nat → Sx} {g : Sx} (hi : i + 6 ≤ CL C) (hL : CL C ≤ 3072) (hX : EnX I1 sc L s ps g) (hM : EnM I2 J2 sc L s ps g) (h : ∀ I1' J1' I2' J2' sc' L' s' ps' g', EnX I1' sc' L' s' ps' g' → EnM I2' J2' sc' L' s' ps' g' → LW C 1064 (lsC C i) [] I1' J1' I2' J2') : LW C 932 (lsC C i) [] I1 J1 I2 J2 := by
  refine l_aload dL_932 1 1 rfl rfl ?_
  refine l_callX (As := []) (rest := []) dL_933 ml_L_121 md_X12_undo mv_X12_undo rfl rfl (fun _ => rfl) rfl (by decide) (by decide) (x_undo (d := 0) (K := fun x I' _ => x = (b01 (decide (g 0 6 ≠ 0))) ∧ EnX I' sc L (s_un s ps g) ps (g_un g)) hX (fun I' h9 => ⟨rfl, h9⟩)) (fun r I' J' q => ?_)
  obtain ⟨x, rfl, rfl, hX1⟩ := q
  refine ⟨fun _ => rfl, ?_⟩
  refine l_aload dL_936 2 2 rfl rfl ?_
  refine l_callM (As := []) (rest := [.int ((b01 (decide (g 0 6 ≠ 0))))]) dL_937 ml_L_125 md_X13_undo mv_X13_undo rfl rfl (fun _ => rfl) rfl (Nat.le_of_ble_eq_true rfl) (by decide) (y_undo (d := 0) (K := fun x I' J' => x = (b01 (decide (g 0 6 ≠ 0))) ∧ EnM I' J' sc L (s_un s ps g) ps (g_un g)) hM (fun I' J' h9 => ⟨rfl, h9⟩)) (fun r I2' J2' q => ?_)
  obtain ⟨x, rfl, rfl, hM1⟩ := q
  refine ⟨fun _ => rfl, ?_⟩
  exact l_same dL_940 rfl (h _ _ _ _ _ _ _ _ _ hX1 hM1)
theorem dL_945 : decode code 945 = .ok (.aload_n 1, 1) := by decide +kernel
theorem dL_946 : decode code 946 = .ok (.aload_n 0, 1) := by decide +kernel
theorem dL_947 : decode code 947 = .ok (.iload_n 3, 1) := by decide +kernel
theorem dL_948 : decode code 948 = .ok (.iconst 1, 1) := by decide +kernel
theorem dL_949 : decode code 949 = .ok (.iadd, 1) := by decide +kernel
theorem dL_950 : decode code 950 = .ok (.iaload, 1) := by decide +kernel
theorem dL_951 : decode code 951 = .ok (.invokevirtual 126, 3) := by decide +kernel
theorem dL_954 : decode code 954 = .ok (.aload_n 2, 1) := by decide +kernel
theorem dL_955 : decode code 955 = .ok (.aload_n 0, 1) := by decide +kernel
theorem dL_956 : decode code 956 = .ok (.iload_n 3, 1) := by decide +kernel
theorem dL_957 : decode code 957 = .ok (.iconst 1, 1) := by decide +kernel
theorem dL_958 : decode code 958 = .ok (.iadd, 1) := by decide +kernel
theorem dL_959 : decode code 959 = .ok (.iaload, 1) := by decide +kernel
theorem dL_960 : decode code 960 = .ok (.invokevirtual 129, 3) := by decide +kernel
theorem dL_963 : decode code 963 = .ok (.if_icmp .eq 101, 3) := by decide +kernel
theorem lc_26 {C : Ct} {i : Nat} {I1 : Ii} {J1 : Jj} {I2 : Ii} {J2 : Jj} {sc : Sx} {L : Nat → List Nat} {s : Sx} {ps : Nat → Sx} {g : Sx} (hi : i + 6 ≤ CL C) (hL : CL C ≤ 3072) (hX : EnX I1 sc L s ps g) (hM : EnM I2 J2 sc L s ps g) (h : ∀ I1' J1' I2' J2' sc' L' s' ps' g', EnX I1' sc' L' s' ps' g' → EnM I2' J2' sc' L' s' ps' g' → LW C 1064 (lsC C i) [] I1' J1' I2' J2') : LW C 945 (lsC C i) [] I1 J1 I2 J2 := by
  refine l_aload dL_945 1 1 rfl rfl ?_
  refine l_aload dL_946 0 0 rfl rfl ?_
  refine l_iload dL_947 3 3 rfl rfl ?_
  refine l_iconst (v := nI 1) dL_948 rfl ?_
  refine l_iadd (z := nI (i + 1)) dL_949 (nI_add i 1) ?_
  refine l_iald dL_950 (by omega) hL ?_
  refine l_callX (As := [.int (Cx C (i + 1))]) (rest := []) dL_951 ml_L_126 md_X12_seed mv_X12_seed rfl rfl (fun _ => rfl) rfl (by decide) (by decide) (x_seed (d := 0) (K := fun x I' _ => x = (b01 (decide (0 ≤ (Cx C (i + 1))))) ∧ EnX I' sc L s ps (g_seed g (Cx C (i + 1)))) hX (fun I' h9 => ⟨rfl, h9⟩)) (fun r I' J' q => ?_)
  obtain ⟨x, rfl, rfl, hX1⟩ := q
  refine ⟨fun _ => rfl, ?_⟩
  refine l_aload dL_954 2 2 rfl rfl ?_
  refine l_aload dL_955 0 0 rfl rfl ?_
  refine l_iload dL_956 3 3 rfl rfl ?_
  refine l_iconst (v := nI 1) dL_957 rfl ?_
  refine l_iadd (z := nI (i + 1)) dL_958 (nI_add i 1) ?_
  refine l_iald dL_959 (by omega) hL ?_
  refine l_callM (As := [.int (Cx C (i + 1))]) (rest := [.int ((b01 (decide (0 ≤ (Cx C (i + 1))))))]) dL_960 ml_L_129 md_X13_seed mv_X13_seed rfl rfl (fun _ => rfl) rfl (Nat.le_of_ble_eq_true rfl) (by decide) (y_seed (d := 0) (K := fun x I' J' => x = (b01 (decide (0 ≤ (Cx C (i + 1))))) ∧ EnM I' J' sc L s ps (g_seed g (Cx C (i + 1)))) hM (fun I' J' h9 => ⟨rfl, h9⟩)) (fun r I2' J2' q => ?_)
  obtain ⟨x, rfl, rfl, hM1⟩ := q
  refine ⟨fun _ => rfl, ?_⟩
  exact l_same dL_963 rfl (h _ _ _ _ _ _ _ _ _ hX1 hM1)
theorem dL_968 : decode code 968 = .ok (.aload_n 1, 1) := by decide +kernel
theorem dL_969 : decode code 969 = .ok (.aload_n 0, 1) := by decide +kernel
theorem dL_970 : decode code 970 = .ok (.iload_n 3, 1) := by decide +kernel
theorem dL_971 : decode code 971 = .ok (.iconst 1, 1) := by decide +kernel
theorem dL_972 : decode code 972 = .ok (.iadd, 1) := by decide +kernel
theorem dL_973 : decode code 973 = .ok (.iaload, 1) := by decide +kernel
theorem dL_974 : decode code 974 = .ok (.invokevirtual 130, 3) := by decide +kernel
theorem dL_977 : decode code 977 = .ok (.aload_n 2, 1) := by decide +kernel
theorem dL_978 : decode code 978 = .ok (.aload_n 0, 1) := by decide +kernel
theorem dL_979 : decode code 979 = .ok (.iload_n 3, 1) := by decide +kernel
theorem dL_980 : decode code 980 = .ok (.iconst 1, 1) := by decide +kernel
theorem dL_981 : decode code 981 = .ok (.iadd, 1) := by decide +kernel
theorem dL_982 : decode code 982 = .ok (.iaload, 1) := by decide +kernel
theorem dL_983 : decode code 983 = .ok (.invokevirtual 133, 3) := by decide +kernel
theorem dL_986 : decode code 986 = .ok (.lcmp, 1) := by decide +kernel
theorem dL_987 : decode code 987 = .ok (.ifCond .eq 77, 3) := by decide +kernel
theorem lc_27 {C : Ct} {i : Nat} {I1 : Ii} {J1 : Jj} {I2 : Ii} {J2 : Jj} {sc : Sx} {L : Nat → List Nat} {s : Sx} {ps : Nat → Sx} {g : Sx} (hi : i + 6 ≤ CL C) (hL : CL C ≤ 3072) (hX : EnX I1 sc L s ps g) (hM : EnM I2 J2 sc L s ps g) (h : ∀ I1' J1' I2' J2' sc' L' s' ps' g', EnX I1' sc' L' s' ps' g' → EnM I2' J2' sc' L' s' ps' g' → LW C 1064 (lsC C i) [] I1' J1' I2' J2') : LW C 968 (lsC C i) [] I1 J1 I2 J2 := by
  refine l_aload dL_968 1 1 rfl rfl ?_
  refine l_aload dL_969 0 0 rfl rfl ?_
  refine l_iload dL_970 3 3 rfl rfl ?_
  refine l_iconst (v := nI 1) dL_971 rfl ?_
  refine l_iadd (z := nI (i + 1)) dL_972 (nI_add i 1) ?_
  refine l_iald dL_973 (by omega) hL ?_
  refine l_callX (As := [.int (Cx C (i + 1))]) (rest := []) dL_974 ml_L_130 md_X12_ask mv_X12_ask rfl rfl (fun _ => rfl) rfl (by decide) (by decide) (x_ask (d := 0) (K := fun x I' _ => x = (r_ask sc s g (Cx C (i + 1))) ∧ EnX I' sc L s ps (g_ask sc g (Cx C (i + 1)))) hX (fun I' h9 => ⟨rfl, h9⟩)) (fun r I' J' q => ?_)
  obtain ⟨x, rfl, rfl, hX1⟩ := q
  refine ⟨fun _ => rfl, ?_⟩
  refine l_aload dL_977 2 2 rfl rfl ?_
  refine l_aload dL_978 0 0 rfl rfl ?_
  refine l_iload dL_979 3 3 rfl rfl ?_
  refine l_iconst (v := nI 1) dL_980 rfl ?_
  refine l_iadd (z := nI (i + 1)) dL_981 (nI_add i 1) ?_
  refine l_iald dL_982 (by omega) hL ?_
  refine l_callM (As := [.int (Cx C (i + 1))]) (rest := [.long ((r_ask sc s g (Cx C (i + 1))))]) dL_983 ml_L_133 md_X13_ask mv_X13_ask rfl rfl (fun _ => rfl) rfl (Nat.le_of_ble_eq_true rfl) (by decide) (y_ask (d := 0) (K := fun x I' J' => x = (r_ask sc s g (Cx C (i + 1))) ∧ EnM I' J' sc L s ps (g_ask sc g (Cx C (i + 1)))) hM (fun I' J' h9 => ⟨rfl, h9⟩)) (fun r I2' J2' q => ?_)
  obtain ⟨x, rfl, rfl, hM1⟩ := q
  refine ⟨fun _ => rfl, ?_⟩
  refine l_lcmp dL_986 ?_
  exact l_zero dL_987 rfl ((lgc_eq _ _).mpr rfl) (h _ _ _ _ _ _ _ _ _ hX1 hM1)
theorem dL_992 : decode code 992 = .ok (.aload_n 1, 1) := by decide +kernel
theorem dL_993 : decode code 993 = .ok (.invokevirtual 134, 3) := by decide +kernel
theorem dL_996 : decode code 996 = .ok (.aload_n 2, 1) := by decide +kernel
theorem dL_997 : decode code 997 = .ok (.invokevirtual 137, 3) := by decide +kernel
theorem dL_1000 : decode code 1000 = .ok (.if_icmp .eq 64, 3) := by decide +kernel
theorem lc_28 {C : Ct} {i : Nat} {I1 : Ii} {J1 : Jj} {I2 : Ii} {J2 : Jj} {sc : Sx} {L : Nat → List Nat} {s : Sx} {ps : Nat → Sx} {g : Sx} (hi : i + 6 ≤ CL C) (hL : CL C ≤ 3072) (hX : EnX I1 sc L s ps g) (hM : EnM I2 J2 sc L s ps g) (h : ∀ I1' J1' I2' J2' sc' L' s' ps' g', EnX I1' sc' L' s' ps' g' → EnM I2' J2' sc' L' s' ps' g' → LW C 1064 (lsC C i) [] I1' J1' I2' J2') : LW C 992 (lsC C i) [] I1 J1 I2 J2 := by
  refine l_aload dL_992 1 1 rfl rfl ?_
  refine l_callX (As := []) (rest := []) dL_993 ml_L_134 md_X12_image mv_X12_image rfl rfl (fun _ => rfl) rfl (by decide) (by decide) (x_image (d := 0) (K := fun x I' _ => x = (nI (3 + 5 * sc 0 1)) ∧ EnX I' sc L s ps (g_im sc s g)) hX (fun I' h9 => ⟨rfl, h9⟩)) (fun r I' J' q => ?_)
  obtain ⟨x, rfl, rfl, hX1⟩ := q
  refine ⟨fun _ => rfl, ?_⟩
  refine l_aload dL_996 2 2 rfl rfl ?_
  refine l_callM (As := []) (rest := [.int ((nI (3 + 5 * sc 0 1)))]) dL_997 ml_L_137 md_X13_image mv_X13_image rfl rfl (fun _ => rfl) rfl (Nat.le_of_ble_eq_true rfl) (by decide) (y_image (d := 0) (K := fun x I' J' => x = (nI (3 + 5 * sc 0 1)) ∧ EnM I' J' sc L s ps (g_im sc s g)) hM (fun I' J' h9 => ⟨rfl, h9⟩)) (fun r I2' J2' q => ?_)
  obtain ⟨x, rfl, rfl, hM1⟩ := q
  refine ⟨fun _ => rfl, ?_⟩
  exact l_same dL_1000 rfl (h _ _ _ _ _ _ _ _ _ hX1 hM1)
theorem dL_1005 : decode code 1005 = .ok (.aload_n 1, 1) := by decide +kernel
theorem dL_1006 : decode code 1006 = .ok (.aload_n 0, 1) := by decide +kernel
theorem dL_1007 : decode code 1007 = .ok (.iload_n 3, 1) := by decide +kernel
theorem dL_1008 : decode code 1008 = .ok (.iconst 1, 1) := by decide +kernel
theorem dL_1009 : decode code 1009 = .ok (.iadd, 1) := by decide +kernel
theorem dL_1010 : decode code 1010 = .ok (.iaload, 1) := by decide +kernel
theorem dL_1011 : decode code 1011 = .ok (.invokevirtual 138, 3) := by decide +kernel
theorem dL_1014 : decode code 1014 = .ok (.aload_n 2, 1) := by decide +kernel
theorem dL_1015 : decode code 1015 = .ok (.aload_n 0, 1) := by decide +kernel
theorem dL_1016 : decode code 1016 = .ok (.iload_n 3, 1) := by decide +kernel
theorem dL_1017 : decode code 1017 = .ok (.iconst 1, 1) := by decide +kernel
theorem dL_1018 : decode code 1018 = .ok (.iadd, 1) := by decide +kernel
theorem dL_1019 : decode code 1019 = .ok (.iaload, 1) := by decide +kernel
theorem dL_1020 : decode code 1020 = .ok (.invokevirtual 141, 3) := by decide +kernel
theorem dL_1023 : decode code 1023 = .ok (.if_icmp .eq 41, 3) := by decide +kernel
theorem lc_29 {C : Ct} {i : Nat} {I1 : Ii} {J1 : Jj} {I2 : Ii} {J2 : Jj} {sc : Sx} {L : Nat → List Nat} {s : Sx} {ps : Nat → Sx} {g : Sx} (hi : i + 6 ≤ CL C) (hL : CL C ≤ 3072) (hX : EnX I1 sc L s ps g) (hM : EnM I2 J2 sc L s ps g) (h : ∀ I1' J1' I2' J2' sc' L' s' ps' g', EnX I1' sc' L' s' ps' g' → EnM I2' J2' sc' L' s' ps' g' → LW C 1064 (lsC C i) [] I1' J1' I2' J2') : LW C 1005 (lsC C i) [] I1 J1 I2 J2 := by
  refine l_aload dL_1005 1 1 rfl rfl ?_
  refine l_aload dL_1006 0 0 rfl rfl ?_
  refine l_iload dL_1007 3 3 rfl rfl ?_
  refine l_iconst (v := nI 1) dL_1008 rfl ?_
  refine l_iadd (z := nI (i + 1)) dL_1009 (nI_add i 1) ?_
  refine l_iald dL_1010 (by omega) hL ?_
  refine l_callX (As := [.int (Cx C (i + 1))]) (rest := []) dL_1011 ml_L_138 md_X12_octet mv_X12_octet rfl rfl (fun _ => rfl) rfl (by decide) (by decide) (x_octet (d := 0) (K := fun x I' _ => x = (r_octet g (Cx C (i + 1))) ∧ EnX I' sc L s ps g) hX ⟨rfl, hX⟩) (fun r I' J' q => ?_)
  obtain ⟨x, rfl, rfl, hX1⟩ := q
  refine ⟨fun _ => rfl, ?_⟩
  refine l_aload dL_1014 2 2 rfl rfl ?_
  refine l_aload dL_1015 0 0 rfl rfl ?_
  refine l_iload dL_1016 3 3 rfl rfl ?_
  refine l_iconst (v := nI 1) dL_1017 rfl ?_
  refine l_iadd (z := nI (i + 1)) dL_1018 (nI_add i 1) ?_
  refine l_iald dL_1019 (by omega) hL ?_
  refine l_callM (As := [.int (Cx C (i + 1))]) (rest := [.int ((r_octet g (Cx C (i + 1))))]) dL_1020 ml_L_141 md_X13_octet mv_X13_octet rfl rfl (fun _ => rfl) rfl (Nat.le_of_ble_eq_true rfl) (by decide) (y_octet (d := 0) (K := fun x I' J' => x = (r_octet g (Cx C (i + 1))) ∧ EnM I' J' sc L s ps g) hM ⟨rfl, hM⟩) (fun r I2' J2' q => ?_)
  obtain ⟨x, rfl, rfl, hM1⟩ := q
  refine ⟨fun _ => rfl, ?_⟩
  exact l_same dL_1023 rfl (h _ _ _ _ _ _ _ _ _ hX1 hM1)
theorem dL_1028 : decode code 1028 = .ok (.aload_n 1, 1) := by decide +kernel
theorem dL_1029 : decode code 1029 = .ok (.invokevirtual 142, 3) := by decide +kernel
theorem dL_1032 : decode code 1032 = .ok (.aload_n 2, 1) := by decide +kernel
theorem dL_1033 : decode code 1033 = .ok (.invokevirtual 145, 3) := by decide +kernel
theorem dL_1036 : decode code 1036 = .ok (.if_icmp .eq 28, 3) := by decide +kernel
theorem lc_30 {C : Ct} {i : Nat} {I1 : Ii} {J1 : Jj} {I2 : Ii} {J2 : Jj} {sc : Sx} {L : Nat → List Nat} {s : Sx} {ps : Nat → Sx} {g : Sx} (hi : i + 6 ≤ CL C) (hL : CL C ≤ 3072) (hX : EnX I1 sc L s ps g) (hM : EnM I2 J2 sc L s ps g) (h : ∀ I1' J1' I2' J2' sc' L' s' ps' g', EnX I1' sc' L' s' ps' g' → EnM I2' J2' sc' L' s' ps' g' → LW C 1064 (lsC C i) [] I1' J1' I2' J2') : LW C 1028 (lsC C i) [] I1 J1 I2 J2 := by
  refine l_aload dL_1028 1 1 rfl rfl ?_
  refine l_callX (As := []) (rest := []) dL_1029 ml_L_142 md_X12_on mv_X12_on rfl rfl (fun _ => rfl) rfl (by decide) (by decide) (x_on (d := 0) (K := fun x I' _ => x = (b01 (onq sc g)) ∧ EnX I' sc L (s_on sc s g) ps (g_on sc g)) hX (fun I' h9 => ⟨rfl, h9⟩)) (fun r I' J' q => ?_)
  obtain ⟨x, rfl, rfl, hX1⟩ := q
  refine ⟨fun _ => rfl, ?_⟩
  refine l_aload dL_1032 2 2 rfl rfl ?_
  refine l_callM (As := []) (rest := [.int ((b01 (onq sc g)))]) dL_1033 ml_L_145 md_X13_on mv_X13_on rfl rfl (fun _ => rfl) rfl (Nat.le_of_ble_eq_true rfl) (by decide) (y_on (d := 0) (K := fun x I' J' => x = (b01 (onq sc g)) ∧ EnM I' J' sc L (s_on sc s g) ps (g_on sc g)) hM (fun I' J' h9 => ⟨rfl, h9⟩)) (fun r I2' J2' q => ?_)
  obtain ⟨x, rfl, rfl, hM1⟩ := q
  refine ⟨fun _ => rfl, ?_⟩
  exact l_same dL_1036 rfl (h _ _ _ _ _ _ _ _ _ hX1 hM1)
theorem dL_1041 : decode code 1041 = .ok (.aload_n 1, 1) := by decide +kernel
theorem dL_1042 : decode code 1042 = .ok (.aload_n 0, 1) := by decide +kernel
theorem dL_1043 : decode code 1043 = .ok (.iload_n 3, 1) := by decide +kernel
theorem dL_1044 : decode code 1044 = .ok (.iconst 1, 1) := by decide +kernel
theorem dL_1045 : decode code 1045 = .ok (.iadd, 1) := by decide +kernel
theorem dL_1046 : decode code 1046 = .ok (.iaload, 1) := by decide +kernel
theorem dL_1047 : decode code 1047 = .ok (.invokevirtual 146, 3) := by decide +kernel
theorem dL_1050 : decode code 1050 = .ok (.aload_n 2, 1) := by decide +kernel
theorem dL_1051 : decode code 1051 = .ok (.aload_n 0, 1) := by decide +kernel
theorem dL_1052 : decode code 1052 = .ok (.iload_n 3, 1) := by decide +kernel
theorem dL_1053 : decode code 1053 = .ok (.iconst 1, 1) := by decide +kernel
theorem dL_1054 : decode code 1054 = .ok (.iadd, 1) := by decide +kernel
theorem dL_1055 : decode code 1055 = .ok (.iaload, 1) := by decide +kernel
theorem dL_1056 : decode code 1056 = .ok (.invokevirtual 149, 3) := by decide +kernel
theorem dL_1059 : decode code 1059 = .ok (.if_icmp .eq 5, 3) := by decide +kernel
theorem lc_31 {C : Ct} {i : Nat} {I1 : Ii} {J1 : Jj} {I2 : Ii} {J2 : Jj} {sc : Sx} {L : Nat → List Nat} {s : Sx} {ps : Nat → Sx} {g : Sx} (hi : i + 6 ≤ CL C) (hL : CL C ≤ 3072) (hX : EnX I1 sc L s ps g) (hM : EnM I2 J2 sc L s ps g) (h : ∀ I1' J1' I2' J2' sc' L' s' ps' g', EnX I1' sc' L' s' ps' g' → EnM I2' J2' sc' L' s' ps' g' → LW C 1064 (lsC C i) [] I1' J1' I2' J2') : LW C 1041 (lsC C i) [] I1 J1 I2 J2 := by
  refine l_aload dL_1041 1 1 rfl rfl ?_
  refine l_aload dL_1042 0 0 rfl rfl ?_
  refine l_iload dL_1043 3 3 rfl rfl ?_
  refine l_iconst (v := nI 1) dL_1044 rfl ?_
  refine l_iadd (z := nI (i + 1)) dL_1045 (nI_add i 1) ?_
  refine l_iald dL_1046 (by omega) hL ?_
  refine l_callX (As := [.int (Cx C (i + 1))]) (rest := []) dL_1047 ml_L_146 md_X12_status mv_X12_status rfl rfl (fun _ => rfl) rfl (by decide) (by decide) (x_status (d := 0) (K := fun x I' _ => x = (r_status g (Cx C (i + 1))) ∧ EnX I' sc L s ps g) hX ⟨rfl, hX⟩) (fun r I' J' q => ?_)
  obtain ⟨x, rfl, rfl, hX1⟩ := q
  refine ⟨fun _ => rfl, ?_⟩
  refine l_aload dL_1050 2 2 rfl rfl ?_
  refine l_aload dL_1051 0 0 rfl rfl ?_
  refine l_iload dL_1052 3 3 rfl rfl ?_
  refine l_iconst (v := nI 1) dL_1053 rfl ?_
  refine l_iadd (z := nI (i + 1)) dL_1054 (nI_add i 1) ?_
  refine l_iald dL_1055 (by omega) hL ?_
  refine l_callM (As := [.int (Cx C (i + 1))]) (rest := [.int ((r_status g (Cx C (i + 1))))]) dL_1056 ml_L_149 md_X13_status mv_X13_status rfl rfl (fun _ => rfl) rfl (Nat.le_of_ble_eq_true rfl) (by decide) (y_status (d := 0) (K := fun x I' J' => x = (r_status g (Cx C (i + 1))) ∧ EnM I' J' sc L s ps g) hM ⟨rfl, hM⟩) (fun r I2' J2' q => ?_)
  obtain ⟨x, rfl, rfl, hM1⟩ := q
  refine ⟨fun _ => rfl, ?_⟩
  exact l_same dL_1059 rfl (h _ _ _ _ _ _ _ _ _ hX1 hM1)

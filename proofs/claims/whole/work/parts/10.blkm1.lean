theorem dX13_feed_0 : decode cX13_feed 0 = .ok (.aload_n 0, 1) := by decide +kernel
theorem dX13_feed_1 : decode cX13_feed 1 = .ok (.getfield 254, 3) := by decide +kernel
theorem dX13_feed_4 : decode cX13_feed 4 = .ok (.bipush 20, 2) := by decide +kernel
theorem dX13_feed_6 : decode cX13_feed 6 = .ok (.iadd, 1) := by decide +kernel
theorem dX13_feed_7 : decode cX13_feed 7 = .ok (.sipush 1600, 3) := by decide +kernel
theorem dX13_feed_10 : decode cX13_feed 10 = .ok (.if_icmp .le 15, 3) := by decide +kernel
theorem dX13_feed_13 : decode cX13_feed 13 = .ok (.aload_n 0, 1) := by decide +kernel
theorem dX13_feed_14 : decode cX13_feed 14 = .ok (.getfield 17, 3) := by decide +kernel
theorem dX13_feed_17 : decode cX13_feed 17 = .ok (.iconst 0, 1) := by decide +kernel
theorem dX13_feed_18 : decode cX13_feed 18 = .ok (.dup2, 1) := by decide +kernel
theorem dX13_feed_19 : decode cX13_feed 19 = .ok (.iaload, 1) := by decide +kernel
theorem dX13_feed_20 : decode cX13_feed 20 = .ok (.iconst 1, 1) := by decide +kernel
theorem dX13_feed_21 : decode cX13_feed 21 = .ok (.iadd, 1) := by decide +kernel
theorem dX13_feed_22 : decode cX13_feed 22 = .ok (.iastore, 1) := by decide +kernel
theorem dX13_feed_23 : decode cX13_feed 23 = .ok (.iconst (-1), 1) := by decide +kernel
theorem dX13_feed_24 : decode cX13_feed 24 = .ok (.ireturn, 1) := by decide +kernel
theorem dX13_feed_25 : decode cX13_feed 25 = .ok (.iconst 0, 1) := by decide +kernel
theorem dX13_feed_26 : decode cX13_feed 26 = .ok (.istore 6, 2) := by decide +kernel
theorem dX13_feed_28 : decode cX13_feed 28 = .ok (.iload 6, 2) := by decide +kernel
theorem dX13_feed_30 : decode cX13_feed 30 = .ok (.bipush 20, 2) := by decide +kernel
theorem dX13_feed_32 : decode cX13_feed 32 = .ok (.if_icmp .ge 92, 3) := by decide +kernel
theorem dX13_feed_35 : decode cX13_feed 35 = .ok (.iload 6, 2) := by decide +kernel
theorem dX13_feed_37 : decode cX13_feed 37 = .ok (.iconst 4, 1) := by decide +kernel
theorem dX13_feed_38 : decode cX13_feed 38 = .ok (.if_icmp .ge 7, 3) := by decide +kernel
theorem dX13_feed_41 : decode cX13_feed 41 = .ok (.iload_n 1, 1) := by decide +kernel
theorem dX13_feed_42 : decode cX13_feed 42 = .ok (.goto 39, 3) := by decide +kernel
theorem dX13_feed_45 : decode cX13_feed 45 = .ok (.iload 6, 2) := by decide +kernel
theorem dX13_feed_47 : decode cX13_feed 47 = .ok (.bipush 8, 2) := by decide +kernel
theorem dX13_feed_49 : decode cX13_feed 49 = .ok (.if_icmp .ge 7, 3) := by decide +kernel
theorem dX13_feed_52 : decode cX13_feed 52 = .ok (.iload_n 2, 1) := by decide +kernel
theorem dX13_feed_53 : decode cX13_feed 53 = .ok (.goto 28, 3) := by decide +kernel
theorem dX13_feed_56 : decode cX13_feed 56 = .ok (.iload 6, 2) := by decide +kernel
theorem dX13_feed_58 : decode cX13_feed 58 = .ok (.bipush 12, 2) := by decide +kernel
theorem dX13_feed_60 : decode cX13_feed 60 = .ok (.if_icmp .ge 7, 3) := by decide +kernel
theorem dX13_feed_63 : decode cX13_feed 63 = .ok (.iload_n 3, 1) := by decide +kernel
theorem dX13_feed_64 : decode cX13_feed 64 = .ok (.goto 17, 3) := by decide +kernel
theorem dX13_feed_67 : decode cX13_feed 67 = .ok (.iload 6, 2) := by decide +kernel
theorem dX13_feed_69 : decode cX13_feed 69 = .ok (.bipush 16, 2) := by decide +kernel
theorem dX13_feed_71 : decode cX13_feed 71 = .ok (.if_icmp .ge 8, 3) := by decide +kernel
theorem dX13_feed_74 : decode cX13_feed 74 = .ok (.iload 4, 2) := by decide +kernel
theorem dX13_feed_76 : decode cX13_feed 76 = .ok (.goto 5, 3) := by decide +kernel
theorem dX13_feed_79 : decode cX13_feed 79 = .ok (.iload 5, 2) := by decide +kernel
theorem dX13_feed_81 : decode cX13_feed 81 = .ok (.istore 7, 2) := by decide +kernel
theorem dX13_feed_83 : decode cX13_feed 83 = .ok (.aload_n 0, 1) := by decide +kernel
theorem dX13_feed_84 : decode cX13_feed 84 = .ok (.getfield 7, 3) := by decide +kernel
theorem dX13_feed_87 : decode cX13_feed 87 = .ok (.aload_n 0, 1) := by decide +kernel
theorem dX13_feed_88 : decode cX13_feed 88 = .ok (.getfield 254, 3) := by decide +kernel
theorem dX13_feed_91 : decode cX13_feed 91 = .ok (.iload 7, 2) := by decide +kernel
theorem dX13_feed_93 : decode cX13_feed 93 = .ok (.bipush 8, 2) := by decide +kernel
theorem dX13_feed_95 : decode cX13_feed 95 = .ok (.iconst 3, 1) := by decide +kernel
theorem dX13_feed_96 : decode cX13_feed 96 = .ok (.iload 6, 2) := by decide +kernel
theorem dX13_feed_98 : decode cX13_feed 98 = .ok (.iconst 4, 1) := by decide +kernel
theorem dX13_feed_99 : decode cX13_feed 99 = .ok (.irem, 1) := by decide +kernel
theorem dX13_feed_100 : decode cX13_feed 100 = .ok (.isub, 1) := by decide +kernel
theorem dX13_feed_101 : decode cX13_feed 101 = .ok (.imul, 1) := by decide +kernel
theorem dX13_feed_102 : decode cX13_feed 102 = .ok (.ishr, 1) := by decide +kernel
theorem dX13_feed_103 : decode cX13_feed 103 = .ok (.sipush 255, 3) := by decide +kernel
theorem dX13_feed_106 : decode cX13_feed 106 = .ok (.iand, 1) := by decide +kernel
theorem dX13_feed_107 : decode cX13_feed 107 = .ok (.iastore, 1) := by decide +kernel
theorem dX13_feed_108 : decode cX13_feed 108 = .ok (.aload_n 0, 1) := by decide +kernel
theorem dX13_feed_109 : decode cX13_feed 109 = .ok (.dup, 1) := by decide +kernel
theorem dX13_feed_110 : decode cX13_feed 110 = .ok (.getfield 254, 3) := by decide +kernel
theorem dX13_feed_113 : decode cX13_feed 113 = .ok (.iconst 1, 1) := by decide +kernel
theorem dX13_feed_114 : decode cX13_feed 114 = .ok (.iadd, 1) := by decide +kernel
theorem dX13_feed_115 : decode cX13_feed 115 = .ok (.putfield 254, 3) := by decide +kernel
theorem dX13_feed_118 : decode cX13_feed 118 = .ok (.iinc 6 1, 3) := by decide +kernel
theorem dX13_feed_121 : decode cX13_feed 121 = .ok (.goto (-93), 3) := by decide +kernel
theorem dX13_feed_124 : decode cX13_feed 124 = .ok (.aload_n 0, 1) := by decide +kernel
theorem dX13_feed_125 : decode cX13_feed 125 = .ok (.getfield 254, 3) := by decide +kernel
theorem dX13_feed_128 : decode cX13_feed 128 = .ok (.ireturn, 1) := by decide +kernel
theorem bX13_feed_0 {d : Nat}  {v1 : Int32} {v2 : Int32} {v3 : Int32} {v4 : Int32} {v5 : Int32} {I : Ii} {J : Jj} {K : KI}
    (h : ((((I 0 1) + 20) ≤ 1600) → (GoI wM d mX13_feed 28 [(0, .ref (0)), (1, .int (v1)), (2, .int (v2)), (3, .int (v3)), (4, .int (v4)), (5, .int (v5)), (6, .int (0))] [] I J K)) ∧ ((¬ ((I 0 1) + 20) ≤ 1600) → (K ((-1)) (u2 I 2 (0 : Int32).toNatClampNeg ((I 2 (0 : Int32).toNatClampNeg) + 1)) J))) :
    GoI wM d mX13_feed 0 [(0, .ref (0)), (1, .int (v1)), (2, .int (v2)), (3, .int (v3)), (4, .int (v4)), (5, .int (v5))] [] I J K :=
  (g_aload_n dX13_feed_0 0 0 rfl rfl (g_getI dX13_feed_1 fl_X13_254 rfl obM_0 (g_bipush dX13_feed_4 kb_20 (g_iadd dX13_feed_6 (g_sipush dX13_feed_7 ks_1600 (g_icmp_le dX13_feed_10 rfl (fun q1 => (g_iconst dX13_feed_25 kc_0 (g_istore dX13_feed_26 (by decide) rfl (g_sub [1, 2, 3, 4, 5, 6, 0] rfl (h.1 q1))))) (fun q1 => (g_aload_n dX13_feed_13 0 0 rfl rfl (g_getP dX13_feed_14 fl_X13_17 rfl obM_0 rfl (g_iconst dX13_feed_17 kc_0 (g_dup2_11 dX13_feed_18 rfl rfl (g_iald dX13_feed_19 arM_2 (by unfold vp_in; decide) (g_iconst dX13_feed_20 kc_1 (g_iadd dX13_feed_21 (g_iast dX13_feed_22 arM_2 (by unfold vp_in; decide) (g_iconst dX13_feed_23 kc_n1 (g_ireturn dX13_feed_24 rfl ⟨_, rfl, (h.2 q1)⟩)))))))))))))))))
theorem bX13_feed_28 {d : Nat}  {v1 : Int32} {v2 : Int32} {v3 : Int32} {v4 : Int32} {v5 : Int32} {v6 : Int32} {I : Ii} {J : Jj} {K : KI}
    (h : ((20 ≤ v6) → (K (I 0 1) I J)) ∧ ((¬ 20 ≤ v6) → (((4 ≤ v6) → (((8 ≤ v6) → (((12 ≤ v6) → (((16 ≤ v6) → (vp_in (I 0 1) 1600 ∧ (∀ I7 : Ii, I7 = u2 I 1 (I 0 1).toNatClampNeg ((v5 >>> ((8 * (3 - (v6 - v6 / 4 * 4))) &&& 31)) &&& 255) → (GoI wM d mX13_feed 28 [(0, .ref (0)), (1, .int (v1)), (2, .int (v2)), (3, .int (v3)), (4, .int (v4)), (5, .int (v5)), (6, .int (v6 + 1))] [] (u2 I7 0 1 ((I7 0 1) + 1)) J K)))) ∧ ((¬ 16 ≤ v6) → (vp_in (I 0 1) 1600 ∧ (∀ I10 : Ii, I10 = u2 I 1 (I 0 1).toNatClampNeg ((v4 >>> ((8 * (3 - (v6 - v6 / 4 * 4))) &&& 31)) &&& 255) → (GoI wM d mX13_feed 28 [(0, .ref (0)), (1, .int (v1)), (2, .int (v2)), (3, .int (v3)), (4, .int (v4)), (5, .int (v5)), (6, .int (v6 + 1))] [] (u2 I10 0 1 ((I10 0 1) + 1)) J K)))))) ∧ ((¬ 12 ≤ v6) → (vp_in (I 0 1) 1600 ∧ (∀ I13 : Ii, I13 = u2 I 1 (I 0 1).toNatClampNeg ((v3 >>> ((8 * (3 - (v6 - v6 / 4 * 4))) &&& 31)) &&& 255) → (GoI wM d mX13_feed 28 [(0, .ref (0)), (1, .int (v1)), (2, .int (v2)), (3, .int (v3)), (4, .int (v4)), (5, .int (v5)), (6, .int (v6 + 1))] [] (u2 I13 0 1 ((I13 0 1) + 1)) J K)))))) ∧ ((¬ 8 ≤ v6) → (vp_in (I 0 1) 1600 ∧ (∀ I16 : Ii, I16 = u2 I 1 (I 0 1).toNatClampNeg ((v2 >>> ((8 * (3 - (v6 - v6 / 4 * 4))) &&& 31)) &&& 255) → (GoI wM d mX13_feed 28 [(0, .ref (0)), (1, .int (v1)), (2, .int (v2)), (3, .int (v3)), (4, .int (v4)), (5, .int (v5)), (6, .int (v6 + 1))] [] (u2 I16 0 1 ((I16 0 1) + 1)) J K)))))) ∧ ((¬ 4 ≤ v6) → (vp_in (I 0 1) 1600 ∧ (∀ I19 : Ii, I19 = u2 I 1 (I 0 1).toNatClampNeg ((v1 >>> ((8 * (3 - (v6 - v6 / 4 * 4))) &&& 31)) &&& 255) → (GoI wM d mX13_feed 28 [(0, .ref (0)), (1, .int (v1)), (2, .int (v2)), (3, .int (v3)), (4, .int (v4)), (5, .int (v5)), (6, .int (v6 + 1))] [] (u2 I19 0 1 ((I19 0 1) + 1)) J K))))))) :
    GoI wM d mX13_feed 28 [(0, .ref (0)), (1, .int (v1)), (2, .int (v2)), (3, .int (v3)), (4, .int (v4)), (5, .int (v5)), (6, .int (v6))] [] I J K :=
  (g_iload dX13_feed_28 6 rfl (g_bipush dX13_feed_30 kb_20 (g_icmp_ge dX13_feed_32 rfl (fun q1 => (g_aload_n dX13_feed_124 0 0 rfl rfl (g_getI dX13_feed_125 fl_X13_254 rfl obM_0 (g_ireturn dX13_feed_128 rfl ⟨_, rfl, (h.1 q1)⟩)))) (fun q1 => (g_iload dX13_feed_35 6 rfl (g_iconst dX13_feed_37 kc_4 (g_icmp_ge dX13_feed_38 rfl (fun q2 => (g_iload dX13_feed_45 6 rfl (g_bipush dX13_feed_47 kb_8 (g_icmp_ge dX13_feed_49 rfl (fun q3 => (g_iload dX13_feed_56 6 rfl (g_bipush dX13_feed_58 kb_12 (g_icmp_ge dX13_feed_60 rfl (fun q4 => (g_iload dX13_feed_67 6 rfl (g_bipush dX13_feed_69 kb_16 (g_icmp_ge dX13_feed_71 rfl (fun q5 => (g_iload dX13_feed_79 5 rfl (g_istore dX13_feed_81 (by decide) rfl (g_aload_n dX13_feed_83 1 0 rfl rfl (g_getP dX13_feed_84 fl_X13_7 rfl obM_0 rfl (g_aload_n dX13_feed_87 1 0 rfl rfl (g_getI dX13_feed_88 fl_X13_254 rfl obM_0 (g_iload dX13_feed_91 0 rfl (g_bipush dX13_feed_93 kb_8 (g_iconst dX13_feed_95 kc_3 (g_iload dX13_feed_96 7 rfl (g_iconst dX13_feed_98 kc_4 (g_irem dX13_feed_99 (by decide) (g_isub dX13_feed_100 (g_imul dX13_feed_101 (g_ishr dX13_feed_102 (g_sipush dX13_feed_103 ks_255 (g_iand dX13_feed_106 (have b6 := (((((h.2 q1).1 q2).1 q3).1 q4).1 q5).1; g_iast dX13_feed_107 arM_1 b6 (g_aload_n dX13_feed_108 1 0 rfl rfl (g_dup dX13_feed_109 rfl (g_getI dX13_feed_110 fl_X13_254 rfl obM_0 (g_iconst dX13_feed_113 kc_1 (g_iadd dX13_feed_114 (g_putI dX13_feed_115 fl_X13_254 rfl rfl obM_0 (g_iinc dX13_feed_118 7 rfl rfl (by decide) rfl (g_goto dX13_feed_121 rfl (g_sub [2, 3, 4, 5, 6, 7, 0] rfl ((((((h.2 q1).1 q2).1 q3).1 q4).1 q5).2 _ rfl))))))))))))))))))))))))))))) (fun q5 => (g_iload dX13_feed_74 4 rfl (g_goto dX13_feed_76 rfl (g_istore dX13_feed_81 (by decide) rfl (g_aload_n dX13_feed_83 1 0 rfl rfl (g_getP dX13_feed_84 fl_X13_7 rfl obM_0 rfl (g_aload_n dX13_feed_87 1 0 rfl rfl (g_getI dX13_feed_88 fl_X13_254 rfl obM_0 (g_iload dX13_feed_91 0 rfl (g_bipush dX13_feed_93 kb_8 (g_iconst dX13_feed_95 kc_3 (g_iload dX13_feed_96 7 rfl (g_iconst dX13_feed_98 kc_4 (g_irem dX13_feed_99 (by decide) (g_isub dX13_feed_100 (g_imul dX13_feed_101 (g_ishr dX13_feed_102 (g_sipush dX13_feed_103 ks_255 (g_iand dX13_feed_106 (have b9 := (((((h.2 q1).1 q2).1 q3).1 q4).2 q5).1; g_iast dX13_feed_107 arM_1 b9 (g_aload_n dX13_feed_108 1 0 rfl rfl (g_dup dX13_feed_109 rfl (g_getI dX13_feed_110 fl_X13_254 rfl obM_0 (g_iconst dX13_feed_113 kc_1 (g_iadd dX13_feed_114 (g_putI dX13_feed_115 fl_X13_254 rfl rfl obM_0 (g_iinc dX13_feed_118 7 rfl rfl (by decide) rfl (g_goto dX13_feed_121 rfl (g_sub [2, 3, 4, 5, 6, 7, 0] rfl ((((((h.2 q1).1 q2).1 q3).1 q4).2 q5).2 _ rfl)))))))))))))))))))))))))))))))))) (fun q4 => (g_iload_n dX13_feed_63 3 3 rfl rfl (g_goto dX13_feed_64 rfl (g_istore dX13_feed_81 (by decide) rfl (g_aload_n dX13_feed_83 1 0 rfl rfl (g_getP dX13_feed_84 fl_X13_7 rfl obM_0 rfl (g_aload_n dX13_feed_87 1 0 rfl rfl (g_getI dX13_feed_88 fl_X13_254 rfl obM_0 (g_iload dX13_feed_91 0 rfl (g_bipush dX13_feed_93 kb_8 (g_iconst dX13_feed_95 kc_3 (g_iload dX13_feed_96 7 rfl (g_iconst dX13_feed_98 kc_4 (g_irem dX13_feed_99 (by decide) (g_isub dX13_feed_100 (g_imul dX13_feed_101 (g_ishr dX13_feed_102 (g_sipush dX13_feed_103 ks_255 (g_iand dX13_feed_106 (have b12 := ((((h.2 q1).1 q2).1 q3).2 q4).1; g_iast dX13_feed_107 arM_1 b12 (g_aload_n dX13_feed_108 1 0 rfl rfl (g_dup dX13_feed_109 rfl (g_getI dX13_feed_110 fl_X13_254 rfl obM_0 (g_iconst dX13_feed_113 kc_1 (g_iadd dX13_feed_114 (g_putI dX13_feed_115 fl_X13_254 rfl rfl obM_0 (g_iinc dX13_feed_118 7 rfl rfl (by decide) rfl (g_goto dX13_feed_121 rfl (g_sub [2, 3, 4, 5, 6, 7, 0] rfl (((((h.2 q1).1 q2).1 q3).2 q4).2 _ rfl)))))))))))))))))))))))))))))))))) (fun q3 => (g_iload_n dX13_feed_52 2 2 rfl rfl (g_goto dX13_feed_53 rfl (g_istore dX13_feed_81 (by decide) rfl (g_aload_n dX13_feed_83 1 0 rfl rfl (g_getP dX13_feed_84 fl_X13_7 rfl obM_0 rfl (g_aload_n dX13_feed_87 1 0 rfl rfl (g_getI dX13_feed_88 fl_X13_254 rfl obM_0 (g_iload dX13_feed_91 0 rfl (g_bipush dX13_feed_93 kb_8 (g_iconst dX13_feed_95 kc_3 (g_iload dX13_feed_96 7 rfl (g_iconst dX13_feed_98 kc_4 (g_irem dX13_feed_99 (by decide) (g_isub dX13_feed_100 (g_imul dX13_feed_101 (g_ishr dX13_feed_102 (g_sipush dX13_feed_103 ks_255 (g_iand dX13_feed_106 (have b15 := (((h.2 q1).1 q2).2 q3).1; g_iast dX13_feed_107 arM_1 b15 (g_aload_n dX13_feed_108 1 0 rfl rfl (g_dup dX13_feed_109 rfl (g_getI dX13_feed_110 fl_X13_254 rfl obM_0 (g_iconst dX13_feed_113 kc_1 (g_iadd dX13_feed_114 (g_putI dX13_feed_115 fl_X13_254 rfl rfl obM_0 (g_iinc dX13_feed_118 7 rfl rfl (by decide) rfl (g_goto dX13_feed_121 rfl (g_sub [2, 3, 4, 5, 6, 7, 0] rfl ((((h.2 q1).1 q2).2 q3).2 _ rfl)))))))))))))))))))))))))))))))))) (fun q2 => (g_iload_n dX13_feed_41 1 1 rfl rfl (g_goto dX13_feed_42 rfl (g_istore dX13_feed_81 (by decide) rfl (g_aload_n dX13_feed_83 1 0 rfl rfl (g_getP dX13_feed_84 fl_X13_7 rfl obM_0 rfl (g_aload_n dX13_feed_87 1 0 rfl rfl (g_getI dX13_feed_88 fl_X13_254 rfl obM_0 (g_iload dX13_feed_91 0 rfl (g_bipush dX13_feed_93 kb_8 (g_iconst dX13_feed_95 kc_3 (g_iload dX13_feed_96 7 rfl (g_iconst dX13_feed_98 kc_4 (g_irem dX13_feed_99 (by decide) (g_isub dX13_feed_100 (g_imul dX13_feed_101 (g_ishr dX13_feed_102 (g_sipush dX13_feed_103 ks_255 (g_iand dX13_feed_106 (have b18 := ((h.2 q1).2 q2).1; g_iast dX13_feed_107 arM_1 b18 (g_aload_n dX13_feed_108 1 0 rfl rfl (g_dup dX13_feed_109 rfl (g_getI dX13_feed_110 fl_X13_254 rfl obM_0 (g_iconst dX13_feed_113 kc_1 (g_iadd dX13_feed_114 (g_putI dX13_feed_115 fl_X13_254 rfl rfl obM_0 (g_iinc dX13_feed_118 7 rfl rfl (by decide) rfl (g_goto dX13_feed_121 rfl (g_sub [2, 3, 4, 5, 6, 7, 0] rfl (((h.2 q1).2 q2).2 _ rfl)))))))))))))))))))))))))))))))))))))
theorem dX13_end_0 : decode cX13_end 0 = .ok (.iload_n 1, 1) := by decide +kernel
theorem dX13_end_1 : decode cX13_end 1 = .ok (.ifCond .lt 11, 3) := by decide +kernel
theorem dX13_end_4 : decode cX13_end 4 = .ok (.iload_n 1, 1) := by decide +kernel
theorem dX13_end_5 : decode cX13_end 5 = .ok (.aload_n 0, 1) := by decide +kernel
theorem dX13_end_6 : decode cX13_end 6 = .ok (.getfield 254, 3) := by decide +kernel
theorem dX13_end_9 : decode cX13_end 9 = .ok (.if_icmp .le 15, 3) := by decide +kernel
theorem dX13_end_12 : decode cX13_end 12 = .ok (.aload_n 0, 1) := by decide +kernel
theorem dX13_end_13 : decode cX13_end 13 = .ok (.getfield 17, 3) := by decide +kernel
theorem dX13_end_16 : decode cX13_end 16 = .ok (.iconst 0, 1) := by decide +kernel
theorem dX13_end_17 : decode cX13_end 17 = .ok (.dup2, 1) := by decide +kernel
theorem dX13_end_18 : decode cX13_end 18 = .ok (.iaload, 1) := by decide +kernel
theorem dX13_end_19 : decode cX13_end 19 = .ok (.iconst 1, 1) := by decide +kernel
theorem dX13_end_20 : decode cX13_end 20 = .ok (.iadd, 1) := by decide +kernel
theorem dX13_end_21 : decode cX13_end 21 = .ok (.iastore, 1) := by decide +kernel
theorem dX13_end_22 : decode cX13_end 22 = .ok (.iconst 0, 1) := by decide +kernel
theorem dX13_end_23 : decode cX13_end 23 = .ok (.ireturn, 1) := by decide +kernel
theorem dX13_end_24 : decode cX13_end 24 = .ok (.aload_n 0, 1) := by decide +kernel
theorem dX13_end_25 : decode cX13_end 25 = .ok (.iload_n 1, 1) := by decide +kernel
theorem dX13_end_26 : decode cX13_end 26 = .ok (.putfield 254, 3) := by decide +kernel
theorem dX13_end_29 : decode cX13_end 29 = .ok (.iconst 1, 1) := by decide +kernel
theorem dX13_end_30 : decode cX13_end 30 = .ok (.ireturn, 1) := by decide +kernel
theorem bX13_end_0 {d : Nat}  {v1 : Int32} {I : Ii} {J : Jj} {K : KI}
    (h : ((v1 < 0) → (K (0) (u2 I 2 (0 : Int32).toNatClampNeg ((I 2 (0 : Int32).toNatClampNeg) + 1)) J)) ∧ ((¬ v1 < 0) → (((v1 ≤ (I 0 1)) → (K (1) (u2 I 0 1 v1) J)) ∧ ((¬ v1 ≤ (I 0 1)) → (K (0) (u2 I 2 (0 : Int32).toNatClampNeg ((I 2 (0 : Int32).toNatClampNeg) + 1)) J))))) :
    GoI wM d mX13_end 0 [(0, .ref (0)), (1, .int (v1))] [] I J K :=
  (g_iload_n dX13_end_0 1 1 rfl rfl (g_if_lt dX13_end_1 rfl (fun q1 => (g_aload_n dX13_end_12 0 0 rfl rfl (g_getP dX13_end_13 fl_X13_17 rfl obM_0 rfl (g_iconst dX13_end_16 kc_0 (g_dup2_11 dX13_end_17 rfl rfl (g_iald dX13_end_18 arM_2 (by unfold vp_in; decide) (g_iconst dX13_end_19 kc_1 (g_iadd dX13_end_20 (g_iast dX13_end_21 arM_2 (by unfold vp_in; decide) (g_iconst dX13_end_22 kc_0 (g_zreturn dX13_end_23 rfl (narZ (by decide)) ⟨_, rfl, (h.1 q1)⟩))))))))))) (fun q1 => (g_iload_n dX13_end_4 1 1 rfl rfl (g_aload_n dX13_end_5 0 0 rfl rfl (g_getI dX13_end_6 fl_X13_254 rfl obM_0 (g_icmp_le dX13_end_9 rfl (fun q4 => (g_aload_n dX13_end_24 0 0 rfl rfl (g_iload_n dX13_end_25 1 1 rfl rfl (g_putI dX13_end_26 fl_X13_254 rfl rfl obM_0 (g_iconst dX13_end_29 kc_1 (g_zreturn dX13_end_30 rfl (narZ (by decide)) ⟨_, rfl, ((h.2 q1).1 q4)⟩)))))) (fun q4 => (g_aload_n dX13_end_12 0 0 rfl rfl (g_getP dX13_end_13 fl_X13_17 rfl obM_0 rfl (g_iconst dX13_end_16 kc_0 (g_dup2_11 dX13_end_17 rfl rfl (g_iald dX13_end_18 arM_2 (by unfold vp_in; decide) (g_iconst dX13_end_19 kc_1 (g_iadd dX13_end_20 (g_iast dX13_end_21 arM_2 (by unfold vp_in; decide) (g_iconst dX13_end_22 kc_0 (g_zreturn dX13_end_23 rfl (narZ (by decide)) ⟨_, rfl, ((h.2 q1).2 q4)⟩))))))))))))))))))
theorem dX13_school_0 : decode cX13_school 0 = .ok (.aload_n 0, 1) := by decide +kernel
theorem dX13_school_1 : decode cX13_school 1 = .ok (.aload_n 0, 1) := by decide +kernel
theorem dX13_school_2 : decode cX13_school 2 = .ok (.getfield 254, 3) := by decide +kernel
theorem dX13_school_5 : decode cX13_school 5 = .ok (.putfield 266, 3) := by decide +kernel
theorem dX13_school_8 : decode cX13_school 8 = .ok (.aload_n 0, 1) := by decide +kernel
theorem dX13_school_9 : decode cX13_school 9 = .ok (.iconst 0, 1) := by decide +kernel
theorem dX13_school_10 : decode cX13_school 10 = .ok (.putfield 254, 3) := by decide +kernel
theorem dX13_school_13 : decode cX13_school 13 = .ok (.aload_n 0, 1) := by decide +kernel
theorem dX13_school_14 : decode cX13_school 14 = .ok (.iconst 0, 1) := by decide +kernel
theorem dX13_school_15 : decode cX13_school 15 = .ok (.putfield 263, 3) := by decide +kernel
theorem dX13_school_18 : decode cX13_school 18 = .ok (.aload_n 0, 1) := by decide +kernel
theorem dX13_school_19 : decode cX13_school 19 = .ok (.iconst (-1), 1) := by decide +kernel
theorem dX13_school_20 : decode cX13_school 20 = .ok (.putfield 277, 3) := by decide +kernel
theorem dX13_school_23 : decode cX13_school 23 = .ok (.aload_n 0, 1) := by decide +kernel
theorem dX13_school_24 : decode cX13_school 24 = .ok (.iconst 0, 1) := by decide +kernel
theorem dX13_school_25 : decode cX13_school 25 = .ok (.putfield 257, 3) := by decide +kernel
theorem dX13_school_28 : decode cX13_school 28 = .ok (.aload_n 0, 1) := by decide +kernel
theorem dX13_school_29 : decode cX13_school 29 = .ok (.iconst (-1), 1) := by decide +kernel
theorem dX13_school_30 : decode cX13_school 30 = .ok (.putfield 260, 3) := by decide +kernel
theorem dX13_school_33 : decode cX13_school 33 = .ok (.aload_n 0, 1) := by decide +kernel
theorem dX13_school_34 : decode cX13_school 34 = .ok (.iconst 0, 1) := by decide +kernel
theorem dX13_school_35 : decode cX13_school 35 = .ok (.putfield 360, 3) := by decide +kernel
theorem dX13_school_38 : decode cX13_school 38 = .ok (.aload_n 0, 1) := by decide +kernel
theorem dX13_school_39 : decode cX13_school 39 = .ok (.iconst 0, 1) := by decide +kernel
theorem dX13_school_40 : decode cX13_school 40 = .ok (.putfield 357, 3) := by decide +kernel
theorem dX13_school_43 : decode cX13_school 43 = .ok (.aload_n 0, 1) := by decide +kernel
theorem dX13_school_44 : decode cX13_school 44 = .ok (.getfield 105, 3) := by decide +kernel
theorem dX13_school_47 : decode cX13_school 47 = .ok (.iconst 0, 1) := by decide +kernel
theorem dX13_school_48 : decode cX13_school 48 = .ok (.iconst 0, 1) := by decide +kernel
theorem dX13_school_49 : decode cX13_school 49 = .ok (.iastore, 1) := by decide +kernel
theorem dX13_school_50 : decode cX13_school 50 = .ok (.aload_n 0, 1) := by decide +kernel
theorem dX13_school_51 : decode cX13_school 51 = .ok (.getfield 105, 3) := by decide +kernel
theorem dX13_school_54 : decode cX13_school 54 = .ok (.iconst 1, 1) := by decide +kernel
theorem dX13_school_55 : decode cX13_school 55 = .ok (.iconst 0, 1) := by decide +kernel
theorem dX13_school_56 : decode cX13_school 56 = .ok (.iastore, 1) := by decide +kernel
theorem dX13_school_57 : decode cX13_school 57 = .ok (.iconst 0, 1) := by decide +kernel
theorem dX13_school_58 : decode cX13_school 58 = .ok (.istore_n 1, 1) := by decide +kernel
theorem dX13_school_59 : decode cX13_school 59 = .ok (.iload_n 1, 1) := by decide +kernel
theorem dX13_school_60 : decode cX13_school 60 = .ok (.bipush 8, 2) := by decide +kernel
theorem dX13_school_62 : decode cX13_school 62 = .ok (.if_icmp .ge 30, 3) := by decide +kernel
theorem dX13_school_65 : decode cX13_school 65 = .ok (.aload_n 0, 1) := by decide +kernel
theorem dX13_school_66 : decode cX13_school 66 = .ok (.getfield 118, 3) := by decide +kernel
theorem dX13_school_69 : decode cX13_school 69 = .ok (.iload_n 1, 1) := by decide +kernel
theorem dX13_school_70 : decode cX13_school 70 = .ok (.iconst 0, 1) := by decide +kernel
theorem dX13_school_71 : decode cX13_school 71 = .ok (.iastore, 1) := by decide +kernel
theorem dX13_school_72 : decode cX13_school 72 = .ok (.aload_n 0, 1) := by decide +kernel
theorem dX13_school_73 : decode cX13_school 73 = .ok (.getfield 121, 3) := by decide +kernel
theorem dX13_school_76 : decode cX13_school 76 = .ok (.iload_n 1, 1) := by decide +kernel
theorem dX13_school_77 : decode cX13_school 77 = .ok (.iconst 0, 1) := by decide +kernel
theorem dX13_school_78 : decode cX13_school 78 = .ok (.iastore, 1) := by decide +kernel
theorem dX13_school_79 : decode cX13_school 79 = .ok (.aload_n 0, 1) := by decide +kernel
theorem dX13_school_80 : decode cX13_school 80 = .ok (.getfield 124, 3) := by decide +kernel
theorem dX13_school_83 : decode cX13_school 83 = .ok (.iload_n 1, 1) := by decide +kernel
theorem dX13_school_84 : decode cX13_school 84 = .ok (.iconst (-1), 1) := by decide +kernel
theorem dX13_school_85 : decode cX13_school 85 = .ok (.iastore, 1) := by decide +kernel
theorem dX13_school_86 : decode cX13_school 86 = .ok (.iinc 1 1, 3) := by decide +kernel
theorem dX13_school_89 : decode cX13_school 89 = .ok (.goto (-30), 3) := by decide +kernel
theorem dX13_school_92 : decode cX13_school 92 = .ok (.iconst 0, 1) := by decide +kernel
theorem dX13_school_93 : decode cX13_school 93 = .ok (.istore_n 1, 1) := by decide +kernel
theorem dX13_school_94 : decode cX13_school 94 = .ok (.iload_n 1, 1) := by decide +kernel
theorem dX13_school_95 : decode cX13_school 95 = .ok (.iconst 3, 1) := by decide +kernel
theorem dX13_school_96 : decode cX13_school 96 = .ok (.if_icmp .ge 16, 3) := by decide +kernel
theorem dX13_school_99 : decode cX13_school 99 = .ok (.aload_n 0, 1) := by decide +kernel
theorem dX13_school_100 : decode cX13_school 100 = .ok (.getfield 130, 3) := by decide +kernel
theorem dX13_school_103 : decode cX13_school 103 = .ok (.iload_n 1, 1) := by decide +kernel
theorem dX13_school_104 : decode cX13_school 104 = .ok (.iconst (-1), 1) := by decide +kernel
theorem dX13_school_105 : decode cX13_school 105 = .ok (.iastore, 1) := by decide +kernel
theorem dX13_school_106 : decode cX13_school 106 = .ok (.iinc 1 1, 3) := by decide +kernel
theorem dX13_school_109 : decode cX13_school 109 = .ok (.goto (-15), 3) := by decide +kernel
theorem dX13_school_112 : decode cX13_school 112 = .ok (.aload_n 0, 1) := by decide +kernel
theorem dX13_school_113 : decode cX13_school 113 = .ok (.getfield 127, 3) := by decide +kernel
theorem dX13_school_116 : decode cX13_school 116 = .ok (.iconst 0, 1) := by decide +kernel
theorem dX13_school_117 : decode cX13_school 117 = .ok (.bipush 10, 2) := by decide +kernel
theorem dX13_school_119 : decode cX13_school 119 = .ok (.iastore, 1) := by decide +kernel
theorem dX13_school_120 : decode cX13_school 120 = .ok (.aload_n 0, 1) := by decide +kernel
theorem dX13_school_121 : decode cX13_school 121 = .ok (.getfield 127, 3) := by decide +kernel
theorem dX13_school_124 : decode cX13_school 124 = .ok (.iconst 1, 1) := by decide +kernel
theorem dX13_school_125 : decode cX13_school 125 = .ok (.iconst 3, 1) := by decide +kernel
theorem dX13_school_126 : decode cX13_school 126 = .ok (.iastore, 1) := by decide +kernel
theorem dX13_school_127 : decode cX13_school 127 = .ok (.aload_n 0, 1) := by decide +kernel
theorem dX13_school_128 : decode cX13_school 128 = .ok (.getfield 127, 3) := by decide +kernel
theorem dX13_school_131 : decode cX13_school 131 = .ok (.iconst 2, 1) := by decide +kernel
theorem dX13_school_132 : decode cX13_school 132 = .ok (.iconst 0, 1) := by decide +kernel
theorem dX13_school_133 : decode cX13_school 133 = .ok (.iastore, 1) := by decide +kernel
theorem dX13_school_134 : decode cX13_school 134 = .ok (.aload_n 0, 1) := by decide +kernel
theorem dX13_school_135 : decode cX13_school 135 = .ok (.getfield 257, 3) := by decide +kernel
theorem dX13_school_138 : decode cX13_school 138 = .ok (.ifCond .ne 18, 3) := by decide +kernel
theorem dX13_school_141 : decode cX13_school 141 = .ok (.aload_n 0, 1) := by decide +kernel
theorem dX13_school_142 : decode cX13_school 142 = .ok (.invokevirtual 269, 3) := by decide +kernel
theorem dX13_school_145 : decode cX13_school 145 = .ok (.iconst (-1), 1) := by decide +kernel
theorem dX13_school_146 : decode cX13_school 146 = .ok (.if_icmp .eq 10, 3) := by decide +kernel
theorem dX13_school_149 : decode cX13_school 149 = .ok (.aload_n 0, 1) := by decide +kernel
theorem dX13_school_150 : decode cX13_school 150 = .ok (.invokevirtual 383, 3) := by decide +kernel
theorem dX13_school_153 : decode cX13_school 153 = .ok (.goto (-19), 3) := by decide +kernel
theorem dX13_school_156 : decode cX13_school 156 = .ok (.aload_n 0, 1) := by decide +kernel
theorem dX13_school_157 : decode cX13_school 157 = .ok (.aload_n 0, 1) := by decide +kernel
theorem dX13_school_158 : decode cX13_school 158 = .ok (.getfield 257, 3) := by decide +kernel
theorem dX13_school_161 : decode cX13_school 161 = .ok (.putfield 386, 3) := by decide +kernel
theorem dX13_school_164 : decode cX13_school 164 = .ok (.aload_n 0, 1) := by decide +kernel
theorem dX13_school_165 : decode cX13_school 165 = .ok (.aload_n 0, 1) := by decide +kernel
theorem dX13_school_166 : decode cX13_school 166 = .ok (.getfield 260, 3) := by decide +kernel
theorem dX13_school_169 : decode cX13_school 169 = .ok (.putfield 13, 3) := by decide +kernel
theorem dX13_school_172 : decode cX13_school 172 = .ok (.aload_n 0, 1) := by decide +kernel
theorem dX13_school_173 : decode cX13_school 173 = .ok (.getfield 257, 3) := by decide +kernel
theorem dX13_school_176 : decode cX13_school 176 = .ok (.ifCond .eq 15, 3) := by decide +kernel
theorem dX13_school_179 : decode cX13_school 179 = .ok (.aload_n 0, 1) := by decide +kernel
theorem dX13_school_180 : decode cX13_school 180 = .ok (.getfield 17, 3) := by decide +kernel
theorem dX13_school_183 : decode cX13_school 183 = .ok (.iconst 1, 1) := by decide +kernel
theorem dX13_school_184 : decode cX13_school 184 = .ok (.dup2, 1) := by decide +kernel
theorem dX13_school_185 : decode cX13_school 185 = .ok (.iaload, 1) := by decide +kernel
theorem dX13_school_186 : decode cX13_school 186 = .ok (.iconst 1, 1) := by decide +kernel
theorem dX13_school_187 : decode cX13_school 187 = .ok (.iadd, 1) := by decide +kernel
theorem dX13_school_188 : decode cX13_school 188 = .ok (.iastore, 1) := by decide +kernel
theorem dX13_school_189 : decode cX13_school 189 = .ok (.iconst (-1), 1) := by decide +kernel
theorem dX13_school_190 : decode cX13_school 190 = .ok (.ireturn, 1) := by decide +kernel
theorem dX13_school_191 : decode cX13_school 191 = .ok (.aload_n 0, 1) := by decide +kernel
theorem dX13_school_192 : decode cX13_school 192 = .ok (.invokevirtual 389, 3) := by decide +kernel
theorem dX13_school_195 : decode cX13_school 195 = .ok (.aload_n 0, 1) := by decide +kernel
theorem dX13_school_196 : decode cX13_school 196 = .ok (.getfield 360, 3) := by decide +kernel
theorem dX13_school_199 : decode cX13_school 199 = .ok (.ireturn, 1) := by decide +kernel
theorem bX13_school_0 {d : Nat}   {I : Ii} {J : Jj} {K : KI}
    (h : GoI wM (d + 1) mX13_school 59 [(0, .ref (0)), (1, .int (0))] [] (u2 (u2 (u2 (u2 (u2 (u2 (u2 (u2 (u2 (u2 I 0 3 (I 0 1)) 0 1 0) 0 2 0) 0 4 ((-1))) 0 5 0) 0 6 ((-1))) 0 51 0) 0 50 0) 31 (0 : Int32).toNatClampNeg 0) 31 (1 : Int32).toNatClampNeg 0) J K) :
    GoI wM (d + 1) mX13_school 0 [(0, .ref (0))] [] I J K :=
  (g_aload_n dX13_school_0 0 0 rfl rfl (g_aload_n dX13_school_1 0 0 rfl rfl (g_getI dX13_school_2 fl_X13_254 rfl obM_0 (g_putI dX13_school_5 fl_X13_266 rfl rfl obM_0 (g_aload_n dX13_school_8 0 0 rfl rfl (g_iconst dX13_school_9 kc_0 (g_putI dX13_school_10 fl_X13_254 rfl rfl obM_0 (g_aload_n dX13_school_13 0 0 rfl rfl (g_iconst dX13_school_14 kc_0 (g_putI dX13_school_15 fl_X13_263 rfl rfl obM_0 (g_aload_n dX13_school_18 0 0 rfl rfl (g_iconst dX13_school_19 kc_n1 (g_putI dX13_school_20 fl_X13_277 rfl rfl obM_0 (g_aload_n dX13_school_23 0 0 rfl rfl (g_iconst dX13_school_24 kc_0 (g_putI dX13_school_25 fl_X13_257 rfl rfl obM_0 (g_aload_n dX13_school_28 0 0 rfl rfl (g_iconst dX13_school_29 kc_n1 (g_putI dX13_school_30 fl_X13_260 rfl rfl obM_0 (g_aload_n dX13_school_33 0 0 rfl rfl (g_iconst dX13_school_34 kc_0 (g_putI dX13_school_35 fl_X13_360 rfl rfl obM_0 (g_aload_n dX13_school_38 0 0 rfl rfl (g_iconst dX13_school_39 kc_0 (g_putI dX13_school_40 fl_X13_357 rfl rfl obM_0 (g_aload_n dX13_school_43 0 0 rfl rfl (g_getP dX13_school_44 fl_X13_105 rfl obM_0 rfl (g_iconst dX13_school_47 kc_0 (g_iconst dX13_school_48 kc_0 (g_iast dX13_school_49 arM_31 (by unfold vp_in; decide) (g_aload_n dX13_school_50 0 0 rfl rfl (g_getP dX13_school_51 fl_X13_105 rfl obM_0 rfl (g_iconst dX13_school_54 kc_1 (g_iconst dX13_school_55 kc_0 (g_iast dX13_school_56 arM_31 (by unfold vp_in; decide) (g_iconst dX13_school_57 kc_0 (g_istore_n dX13_school_58 rfl (by decide) rfl (g_sub [1, 0] rfl h))))))))))))))))))))))))))))))))))))))
theorem bX13_school_59 {d : Nat}  {v1 : Int32} {I : Ii} {J : Jj} {K : KI}
    (h : ((8 ≤ v1) → (GoI wM (d + 1) mX13_school 94 [(0, .ref (0)), (1, .int (0))] [] I J K)) ∧ ((¬ 8 ≤ v1) → (vp_in (v1) 8 ∧ (GoI wM (d + 1) mX13_school 59 [(0, .ref (0)), (1, .int (v1 + 1))] [] (u2 (u2 (u2 I 35 v1.toNatClampNeg 0) 36 v1.toNatClampNeg 0) 37 v1.toNatClampNeg ((-1))) J K)))) :
    GoI wM (d + 1) mX13_school 59 [(0, .ref (0)), (1, .int (v1))] [] I J K :=
  (g_iload_n dX13_school_59 1 1 rfl rfl (g_bipush dX13_school_60 kb_8 (g_icmp_ge dX13_school_62 rfl (fun q1 => (g_iconst dX13_school_92 kc_0 (g_istore_n dX13_school_93 rfl (by decide) rfl (g_sub [1, 0] rfl (h.1 q1))))) (fun q1 => (g_aload_n dX13_school_65 0 0 rfl rfl (g_getP dX13_school_66 fl_X13_118 rfl obM_0 rfl (g_iload_n dX13_school_69 1 1 rfl rfl (g_iconst dX13_school_70 kc_0 (have b2 := (h.2 q1).1; g_iast dX13_school_71 arM_35 b2 (g_aload_n dX13_school_72 0 0 rfl rfl (g_getP dX13_school_73 fl_X13_121 rfl obM_0 rfl (g_iload_n dX13_school_76 1 1 rfl rfl (g_iconst dX13_school_77 kc_0 (g_iast dX13_school_78 arM_36 b2 (g_aload_n dX13_school_79 0 0 rfl rfl (g_getP dX13_school_80 fl_X13_124 rfl obM_0 rfl (g_iload_n dX13_school_83 1 1 rfl rfl (g_iconst dX13_school_84 kc_n1 (g_iast dX13_school_85 arM_37 b2 (g_iinc dX13_school_86 1 rfl rfl (by decide) rfl (g_goto dX13_school_89 rfl (g_sub [1, 0] rfl (h.2 q1).2))))))))))))))))))))))
theorem bX13_school_94 {d : Nat}  {v1 : Int32} {I : Ii} {J : Jj} {K : KI}
    (h : ((3 ≤ v1) → (GoI wM (d + 1) mX13_school 134 [(0, .ref (0))] [] (u2 (u2 (u2 I 38 (0 : Int32).toNatClampNeg 10) 38 (1 : Int32).toNatClampNeg 3) 38 (2 : Int32).toNatClampNeg 0) J K)) ∧ ((¬ 3 ≤ v1) → (vp_in (v1) 6 ∧ (GoI wM (d + 1) mX13_school 94 [(0, .ref (0)), (1, .int (v1 + 1))] [] (u2 I 39 v1.toNatClampNeg ((-1))) J K)))) :
    GoI wM (d + 1) mX13_school 94 [(0, .ref (0)), (1, .int (v1))] [] I J K :=
  (g_iload_n dX13_school_94 1 1 rfl rfl (g_iconst dX13_school_95 kc_3 (g_icmp_ge dX13_school_96 rfl (fun q1 => (g_aload_n dX13_school_112 0 0 rfl rfl (g_getP dX13_school_113 fl_X13_127 rfl obM_0 rfl (g_iconst dX13_school_116 kc_0 (g_bipush dX13_school_117 kb_10 (g_iast dX13_school_119 arM_38 (by unfold vp_in; decide) (g_aload_n dX13_school_120 0 0 rfl rfl (g_getP dX13_school_121 fl_X13_127 rfl obM_0 rfl (g_iconst dX13_school_124 kc_1 (g_iconst dX13_school_125 kc_3 (g_iast dX13_school_126 arM_38 (by unfold vp_in; decide) (g_aload_n dX13_school_127 0 0 rfl rfl (g_getP dX13_school_128 fl_X13_127 rfl obM_0 rfl (g_iconst dX13_school_131 kc_2 (g_iconst dX13_school_132 kc_0 (g_iast dX13_school_133 arM_38 (by unfold vp_in; decide) (g_sub [0] rfl (h.1 q1)))))))))))))))))) (fun q1 => (g_aload_n dX13_school_99 0 0 rfl rfl (g_getP dX13_school_100 fl_X13_130 rfl obM_0 rfl (g_iload_n dX13_school_103 1 1 rfl rfl (g_iconst dX13_school_104 kc_n1 (have b8 := (h.2 q1).1; g_iast dX13_school_105 arM_39 b8 (g_iinc dX13_school_106 1 rfl rfl (by decide) rfl (g_goto dX13_school_109 rfl (g_sub [1, 0] rfl (h.2 q1).2))))))))))))
theorem bX13_school_134 {d : Nat}   {I : Ii} {J : Jj} {K : KI}
    (h : ((¬ (I 0 5) = 0) → (∀ I2 : Ii, I2 = u2 I 0 7 (I 0 5) → (∀ I3 : Ii, I3 = u2 I2 0 8 (I2 0 6) → ((((I3 0 5) = 0) → (CalV wM d mX13_stands [.ref (0)] I3 J (fun I5 J6 => (K (I5 0 51) I5 J6)))) ∧ ((¬ (I3 0 5) = 0) → (K ((-1)) (u2 I3 2 (1 : Int32).toNatClampNeg ((I3 2 (1 : Int32).toNatClampNeg) + 1)) J)))))) ∧ (((I 0 5) = 0) → (CalI wM d mX13_look [.ref (0)] I J (fun x12 I10 J11 => (((x12 = ((-1))) → (∀ I14 : Ii, I14 = u2 I10 0 7 (I10 0 5) → (∀ I15 : Ii, I15 = u2 I14 0 8 (I14 0 6) → ((((I15 0 5) = 0) → (CalV wM d mX13_stands [.ref (0)] I15 J11 (fun I17 J18 => (K (I17 0 51) I17 J18)))) ∧ ((¬ (I15 0 5) = 0) → (K ((-1)) (u2 I15 2 (1 : Int32).toNatClampNeg ((I15 2 (1 : Int32).toNatClampNeg) + 1)) J11)))))) ∧ ((¬ x12 = ((-1))) → (CalV wM d mX13_statementTold [.ref (0)] I10 J11 (fun I22 J23 => (GoI wM (d + 1) mX13_school 134 [(0, .ref (0))] [] I22 J23 K))))))))) :
    GoI wM (d + 1) mX13_school 134 [(0, .ref (0))] [] I J K :=
  (g_aload_n dX13_school_134 0 0 rfl rfl (g_getI dX13_school_135 fl_X13_257 rfl obM_0 (g_if_ne dX13_school_138 rfl (fun q1 => (g_aload_n dX13_school_156 0 0 rfl rfl (g_aload_n dX13_school_157 0 0 rfl rfl (g_getI dX13_school_158 fl_X13_257 rfl obM_0 (g_putI dX13_school_161 fl_X13_386 rfl rfl obM_0 (g_aload_n dX13_school_164 0 0 rfl rfl (g_aload_n dX13_school_165 0 0 rfl rfl (g_getI dX13_school_166 fl_X13_260 rfl obM_0 (g_putI dX13_school_169 fl_X13_13 rfl rfl obM_0 (g_aload_n dX13_school_172 0 0 rfl rfl (g_getI dX13_school_173 fl_X13_257 rfl obM_0 (g_if_eq dX13_school_176 rfl (fun q4 => (g_aload_n dX13_school_191 0 0 rfl rfl (g_callvV dX13_school_192 ml_X13_389 md_X13_stands mv_X13_stands obM_0 rfl rfl rfl (Nat.le_of_ble_eq_true rfl) (CalV.mono ((((h.1 q1) _ rfl) _ rfl).1 q4) (fun I5 J6 h7 => (g_aload_n dX13_school_195 0 0 rfl rfl (g_getI dX13_school_196 fl_X13_360 rfl obM_0 (g_ireturn dX13_school_199 rfl ⟨_, rfl, h7⟩)))))))) (fun q4 => (g_aload_n dX13_school_179 0 0 rfl rfl (g_getP dX13_school_180 fl_X13_17 rfl obM_0 rfl (g_iconst dX13_school_183 kc_1 (g_dup2_11 dX13_school_184 rfl rfl (g_iald dX13_school_185 arM_2 (by unfold vp_in; decide) (g_iconst dX13_school_186 kc_1 (g_iadd dX13_school_187 (g_iast dX13_school_188 arM_2 (by unfold vp_in; decide) (g_iconst dX13_school_189 kc_n1 (g_ireturn dX13_school_190 rfl ⟨_, rfl, ((((h.1 q1) _ rfl) _ rfl).2 q4)⟩))))))))))))))))))))))) (fun q1 => (g_aload_n dX13_school_141 0 0 rfl rfl (g_callvI dX13_school_142 ml_X13_269 md_X13_look mv_X13_look obM_0 rfl rfl rfl (Nat.le_of_ble_eq_true rfl) (CalI.mono (h.2 q1) (fun x12 I10 J11 h25 => (g_iconst dX13_school_145 kc_n1 (g_icmp_eq dX13_school_146 rfl (fun q13 => (g_aload_n dX13_school_156 0 0 rfl rfl (g_aload_n dX13_school_157 0 0 rfl rfl (g_getI dX13_school_158 fl_X13_257 rfl obM_0 (g_putI dX13_school_161 fl_X13_386 rfl rfl obM_0 (g_aload_n dX13_school_164 0 0 rfl rfl (g_aload_n dX13_school_165 0 0 rfl rfl (g_getI dX13_school_166 fl_X13_260 rfl obM_0 (g_putI dX13_school_169 fl_X13_13 rfl rfl obM_0 (g_aload_n dX13_school_172 0 0 rfl rfl (g_getI dX13_school_173 fl_X13_257 rfl obM_0 (g_if_eq dX13_school_176 rfl (fun q16 => (g_aload_n dX13_school_191 0 0 rfl rfl (g_callvV dX13_school_192 ml_X13_389 md_X13_stands mv_X13_stands obM_0 rfl rfl rfl (Nat.le_of_ble_eq_true rfl) (CalV.mono ((((h25.1 q13) _ rfl) _ rfl).1 q16) (fun I17 J18 h19 => (g_aload_n dX13_school_195 0 0 rfl rfl (g_getI dX13_school_196 fl_X13_360 rfl obM_0 (g_ireturn dX13_school_199 rfl ⟨_, rfl, h19⟩)))))))) (fun q16 => (g_aload_n dX13_school_179 0 0 rfl rfl (g_getP dX13_school_180 fl_X13_17 rfl obM_0 rfl (g_iconst dX13_school_183 kc_1 (g_dup2_11 dX13_school_184 rfl rfl (g_iald dX13_school_185 arM_2 (by unfold vp_in; decide) (g_iconst dX13_school_186 kc_1 (g_iadd dX13_school_187 (g_iast dX13_school_188 arM_2 (by unfold vp_in; decide) (g_iconst dX13_school_189 kc_n1 (g_ireturn dX13_school_190 rfl ⟨_, rfl, ((((h25.1 q13) _ rfl) _ rfl).2 q16)⟩))))))))))))))))))))))) (fun q13 => (g_aload_n dX13_school_149 0 0 rfl rfl (g_callvV dX13_school_150 ml_X13_383 md_X13_statementTold mv_X13_statementTold obM_0 rfl rfl rfl (Nat.le_of_ble_eq_true rfl) (CalV.mono (h25.2 q13) (fun I22 J23 h24 => (g_goto dX13_school_153 rfl h24))))))))))))))))
theorem dX13_look_0 : decode cX13_look 0 = .ok (.aload_n 0, 1) := by decide +kernel
theorem dX13_look_1 : decode cX13_look 1 = .ok (.getfield 263, 3) := by decide +kernel
theorem dX13_look_4 : decode cX13_look 4 = .ok (.aload_n 0, 1) := by decide +kernel
theorem dX13_look_5 : decode cX13_look 5 = .ok (.getfield 266, 3) := by decide +kernel
theorem dX13_look_8 : decode cX13_look 8 = .ok (.if_icmp .ge 44, 3) := by decide +kernel
theorem dX13_look_11 : decode cX13_look 11 = .ok (.aload_n 0, 1) := by decide +kernel
theorem dX13_look_12 : decode cX13_look 12 = .ok (.getfield 7, 3) := by decide +kernel
theorem dX13_look_15 : decode cX13_look 15 = .ok (.aload_n 0, 1) := by decide +kernel
theorem dX13_look_16 : decode cX13_look 16 = .ok (.getfield 263, 3) := by decide +kernel
theorem dX13_look_19 : decode cX13_look 19 = .ok (.iaload, 1) := by decide +kernel
theorem dX13_look_20 : decode cX13_look 20 = .ok (.bipush 10, 2) := by decide +kernel
theorem dX13_look_22 : decode cX13_look 22 = .ok (.if_icmp .eq 17, 3) := by decide +kernel
theorem dX13_look_25 : decode cX13_look 25 = .ok (.aload_n 0, 1) := by decide +kernel
theorem dX13_look_26 : decode cX13_look 26 = .ok (.getfield 7, 3) := by decide +kernel
theorem dX13_look_29 : decode cX13_look 29 = .ok (.aload_n 0, 1) := by decide +kernel
theorem dX13_look_30 : decode cX13_look 30 = .ok (.getfield 263, 3) := by decide +kernel
theorem dX13_look_33 : decode cX13_look 33 = .ok (.iaload, 1) := by decide +kernel
theorem dX13_look_34 : decode cX13_look 34 = .ok (.bipush 32, 2) := by decide +kernel
theorem dX13_look_36 : decode cX13_look 36 = .ok (.if_icmp .ne 16, 3) := by decide +kernel
theorem dX13_look_39 : decode cX13_look 39 = .ok (.aload_n 0, 1) := by decide +kernel
theorem dX13_look_40 : decode cX13_look 40 = .ok (.dup, 1) := by decide +kernel
theorem dX13_look_41 : decode cX13_look 41 = .ok (.getfield 263, 3) := by decide +kernel
theorem dX13_look_44 : decode cX13_look 44 = .ok (.iconst 1, 1) := by decide +kernel
theorem dX13_look_45 : decode cX13_look 45 = .ok (.iadd, 1) := by decide +kernel
theorem dX13_look_46 : decode cX13_look 46 = .ok (.putfield 263, 3) := by decide +kernel
theorem dX13_look_49 : decode cX13_look 49 = .ok (.goto (-49), 3) := by decide +kernel
theorem dX13_look_52 : decode cX13_look 52 = .ok (.aload_n 0, 1) := by decide +kernel
theorem dX13_look_53 : decode cX13_look 53 = .ok (.getfield 263, 3) := by decide +kernel
theorem dX13_look_56 : decode cX13_look 56 = .ok (.aload_n 0, 1) := by decide +kernel
theorem dX13_look_57 : decode cX13_look 57 = .ok (.getfield 266, 3) := by decide +kernel
theorem dX13_look_60 : decode cX13_look 60 = .ok (.if_icmp .ge 15, 3) := by decide +kernel
theorem dX13_look_63 : decode cX13_look 63 = .ok (.aload_n 0, 1) := by decide +kernel
theorem dX13_look_64 : decode cX13_look 64 = .ok (.getfield 7, 3) := by decide +kernel
theorem dX13_look_67 : decode cX13_look 67 = .ok (.aload_n 0, 1) := by decide +kernel
theorem dX13_look_68 : decode cX13_look 68 = .ok (.getfield 263, 3) := by decide +kernel
theorem dX13_look_71 : decode cX13_look 71 = .ok (.iaload, 1) := by decide +kernel
theorem dX13_look_72 : decode cX13_look 72 = .ok (.goto 4, 3) := by decide +kernel
theorem dX13_look_75 : decode cX13_look 75 = .ok (.iconst (-1), 1) := by decide +kernel
theorem dX13_look_76 : decode cX13_look 76 = .ok (.ireturn, 1) := by decide +kernel
theorem bX13_look_0 {d : Nat}   {I : Ii} {J : Jj} {K : KI}
    (h : (((I 0 3) ≤ (I 0 2)) → (K ((-1)) I J)) ∧ ((¬ (I 0 3) ≤ (I 0 2)) → (vp_in (I 0 2) 1600 ∧ ((((I 1 (I 0 2).toNatClampNeg) = 10) → (GoI wM d mX13_look 0 [(0, .ref (0))] [] (u2 I 0 2 ((I 0 2) + 1)) J K)) ∧ ((¬ (I 1 (I 0 2).toNatClampNeg) = 10) → (((¬ (I 1 (I 0 2).toNatClampNeg) = 32) → (K (I 1 (I 0 2).toNatClampNeg) I J)) ∧ (((I 1 (I 0 2).toNatClampNeg) = 32) → (GoI wM d mX13_look 0 [(0, .ref (0))] [] (u2 I 0 2 ((I 0 2) + 1)) J K)))))))) :
    GoI wM d mX13_look 0 [(0, .ref (0))] [] I J K :=
  (g_aload_n dX13_look_0 0 0 rfl rfl (g_getI dX13_look_1 fl_X13_263 rfl obM_0 (g_aload_n dX13_look_4 0 0 rfl rfl (g_getI dX13_look_5 fl_X13_266 rfl obM_0 (g_icmp_ge dX13_look_8 rfl (fun q1 => (g_aload_n dX13_look_52 0 0 rfl rfl (g_getI dX13_look_53 fl_X13_263 rfl obM_0 (g_aload_n dX13_look_56 0 0 rfl rfl (g_getI dX13_look_57 fl_X13_266 rfl obM_0 (g_icmp_ge dX13_look_60 rfl (fun _ => (g_iconst dX13_look_75 kc_n1 (g_ireturn dX13_look_76 rfl ⟨_, rfl, (h.1 q1)⟩))) (fun q => absurd q1 q))))))) (fun q1 => (g_aload_n dX13_look_11 0 0 rfl rfl (g_getP dX13_look_12 fl_X13_7 rfl obM_0 rfl (g_aload_n dX13_look_15 0 0 rfl rfl (g_getI dX13_look_16 fl_X13_263 rfl obM_0 (have b2 := (h.2 q1).1; g_iald dX13_look_19 arM_1 b2 (g_bipush dX13_look_20 kb_10 (g_icmp_eq dX13_look_22 rfl (fun q3 => (g_aload_n dX13_look_39 0 0 rfl rfl (g_dup dX13_look_40 rfl (g_getI dX13_look_41 fl_X13_263 rfl obM_0 (g_iconst dX13_look_44 kc_1 (g_iadd dX13_look_45 (g_putI dX13_look_46 fl_X13_263 rfl rfl obM_0 (g_goto dX13_look_49 rfl ((h.2 q1).2.1 q3))))))))) (fun q3 => (g_aload_n dX13_look_25 0 0 rfl rfl (g_getP dX13_look_26 fl_X13_7 rfl obM_0 rfl (g_aload_n dX13_look_29 0 0 rfl rfl (g_getI dX13_look_30 fl_X13_263 rfl obM_0 (g_iald dX13_look_33 arM_1 b2 (g_bipush dX13_look_34 kb_32 (g_icmp_ne dX13_look_36 rfl (fun q5 => (g_aload_n dX13_look_52 0 0 rfl rfl (g_getI dX13_look_53 fl_X13_263 rfl obM_0 (g_aload_n dX13_look_56 0 0 rfl rfl (g_getI dX13_look_57 fl_X13_266 rfl obM_0 (g_icmp_ge dX13_look_60 rfl (fun q => absurd q q1) (fun _ => (g_aload_n dX13_look_63 0 0 rfl rfl (g_getP dX13_look_64 fl_X13_7 rfl obM_0 rfl (g_aload_n dX13_look_67 0 0 rfl rfl (g_getI dX13_look_68 fl_X13_263 rfl obM_0 (g_iald dX13_look_71 arM_1 b2 (g_goto dX13_look_72 rfl (g_ireturn dX13_look_76 rfl ⟨_, rfl, (((h.2 q1).2.2 q3).1 q5)⟩)))))))))))))) (fun q5 => (g_aload_n dX13_look_39 0 0 rfl rfl (g_dup dX13_look_40 rfl (g_getI dX13_look_41 fl_X13_263 rfl obM_0 (g_iconst dX13_look_44 kc_1 (g_iadd dX13_look_45 (g_putI dX13_look_46 fl_X13_263 rfl rfl obM_0 (g_goto dX13_look_49 rfl (((h.2 q1).2.2 q3).2 q5))))))))))))))))))))))))))))))
theorem dX13_statementTold_0 : decode cX13_statementTold 0 = .ok (.aload_n 0, 1) := by decide +kernel
theorem dX13_statementTold_1 : decode cX13_statementTold 1 = .ok (.getfield 263, 3) := by decide +kernel
theorem dX13_statementTold_4 : decode cX13_statementTold 4 = .ok (.istore_n 1, 1) := by decide +kernel
theorem dX13_statementTold_5 : decode cX13_statementTold 5 = .ok (.aload_n 0, 1) := by decide +kernel
theorem dX13_statementTold_6 : decode cX13_statementTold 6 = .ok (.getfield 360, 3) := by decide +kernel
theorem dX13_statementTold_9 : decode cX13_statementTold 9 = .ok (.bipush 80, 2) := by decide +kernel
theorem dX13_statementTold_11 : decode cX13_statementTold 11 = .ok (.if_icmp .ne 10, 3) := by decide +kernel
theorem dX13_statementTold_14 : decode cX13_statementTold 14 = .ok (.aload_n 0, 1) := by decide +kernel
theorem dX13_statementTold_15 : decode cX13_statementTold 15 = .ok (.iconst 5, 1) := by decide +kernel
theorem dX13_statementTold_16 : decode cX13_statementTold 16 = .ok (.iload_n 1, 1) := by decide +kernel
theorem dX13_statementTold_17 : decode cX13_statementTold 17 = .ok (.invokevirtual 287, 3) := by decide +kernel
theorem dX13_statementTold_20 : decode cX13_statementTold 20 = .ok (.return_, 1) := by decide +kernel
theorem dX13_statementTold_21 : decode cX13_statementTold 21 = .ok (.aload_n 0, 1) := by decide +kernel
theorem dX13_statementTold_22 : decode cX13_statementTold 22 = .ok (.aload_n 0, 1) := by decide +kernel
theorem dX13_statementTold_23 : decode cX13_statementTold 23 = .ok (.getfield 20, 3) := by decide +kernel
theorem dX13_statementTold_26 : decode cX13_statementTold 26 = .ok (.invokevirtual 284, 3) := by decide +kernel
theorem dX13_statementTold_29 : decode cX13_statementTold 29 = .ok (.ifCond .eq 11, 3) := by decide +kernel
theorem dX13_statementTold_32 : decode cX13_statementTold 32 = .ok (.aload_n 0, 1) := by decide +kernel
theorem dX13_statementTold_33 : decode cX13_statementTold 33 = .ok (.iload_n 1, 1) := by decide +kernel
theorem dX13_statementTold_34 : decode cX13_statementTold 34 = .ok (.invokevirtual 363, 3) := by decide +kernel
theorem dX13_statementTold_37 : decode cX13_statementTold 37 = .ok (.goto 213, 3) := by decide +kernel
theorem dX13_statementTold_40 : decode cX13_statementTold 40 = .ok (.aload_n 0, 1) := by decide +kernel
theorem dX13_statementTold_41 : decode cX13_statementTold 41 = .ok (.aload_n 0, 1) := by decide +kernel
theorem dX13_statementTold_42 : decode cX13_statementTold 42 = .ok (.getfield 27, 3) := by decide +kernel
theorem dX13_statementTold_45 : decode cX13_statementTold 45 = .ok (.invokevirtual 284, 3) := by decide +kernel
theorem dX13_statementTold_48 : decode cX13_statementTold 48 = .ok (.ifCond .eq 11, 3) := by decide +kernel
theorem dX13_statementTold_51 : decode cX13_statementTold 51 = .ok (.aload_n 0, 1) := by decide +kernel
theorem dX13_statementTold_52 : decode cX13_statementTold 52 = .ok (.iload_n 1, 1) := by decide +kernel
theorem dX13_statementTold_53 : decode cX13_statementTold 53 = .ok (.invokevirtual 367, 3) := by decide +kernel
theorem dX13_statementTold_56 : decode cX13_statementTold 56 = .ok (.goto 194, 3) := by decide +kernel
theorem dX13_statementTold_59 : decode cX13_statementTold 59 = .ok (.aload_n 0, 1) := by decide +kernel
theorem dX13_statementTold_60 : decode cX13_statementTold 60 = .ok (.aload_n 0, 1) := by decide +kernel
theorem dX13_statementTold_61 : decode cX13_statementTold 61 = .ok (.getfield 33, 3) := by decide +kernel
theorem dX13_statementTold_64 : decode cX13_statementTold 64 = .ok (.invokevirtual 284, 3) := by decide +kernel
theorem dX13_statementTold_67 : decode cX13_statementTold 67 = .ok (.ifCond .eq 11, 3) := by decide +kernel
theorem dX13_statementTold_70 : decode cX13_statementTold 70 = .ok (.aload_n 0, 1) := by decide +kernel
theorem dX13_statementTold_71 : decode cX13_statementTold 71 = .ok (.iconst 1, 1) := by decide +kernel
theorem dX13_statementTold_72 : decode cX13_statementTold 72 = .ok (.invokevirtual 370, 3) := by decide +kernel
theorem dX13_statementTold_75 : decode cX13_statementTold 75 = .ok (.goto 175, 3) := by decide +kernel
theorem dX13_statementTold_78 : decode cX13_statementTold 78 = .ok (.aload_n 0, 1) := by decide +kernel
theorem dX13_statementTold_79 : decode cX13_statementTold 79 = .ok (.aload_n 0, 1) := by decide +kernel
theorem dX13_statementTold_80 : decode cX13_statementTold 80 = .ok (.getfield 36, 3) := by decide +kernel
theorem dX13_statementTold_83 : decode cX13_statementTold 83 = .ok (.invokevirtual 284, 3) := by decide +kernel
theorem dX13_statementTold_86 : decode cX13_statementTold 86 = .ok (.ifCond .eq 11, 3) := by decide +kernel
theorem dX13_statementTold_89 : decode cX13_statementTold 89 = .ok (.aload_n 0, 1) := by decide +kernel
theorem dX13_statementTold_90 : decode cX13_statementTold 90 = .ok (.iconst 0, 1) := by decide +kernel
theorem dX13_statementTold_91 : decode cX13_statementTold 91 = .ok (.invokevirtual 370, 3) := by decide +kernel
theorem dX13_statementTold_94 : decode cX13_statementTold 94 = .ok (.goto 156, 3) := by decide +kernel
theorem dX13_statementTold_97 : decode cX13_statementTold 97 = .ok (.aload_n 0, 1) := by decide +kernel
theorem dX13_statementTold_98 : decode cX13_statementTold 98 = .ok (.aload_n 0, 1) := by decide +kernel
theorem dX13_statementTold_99 : decode cX13_statementTold 99 = .ok (.getfield 39, 3) := by decide +kernel
theorem dX13_statementTold_102 : decode cX13_statementTold 102 = .ok (.invokevirtual 284, 3) := by decide +kernel
theorem dX13_statementTold_105 : decode cX13_statementTold 105 = .ok (.ifCond .eq 10, 3) := by decide +kernel
theorem dX13_statementTold_108 : decode cX13_statementTold 108 = .ok (.aload_n 0, 1) := by decide +kernel
theorem dX13_statementTold_109 : decode cX13_statementTold 109 = .ok (.invokevirtual 374, 3) := by decide +kernel
theorem dX13_statementTold_112 : decode cX13_statementTold 112 = .ok (.goto 138, 3) := by decide +kernel
theorem dX13_statementTold_115 : decode cX13_statementTold 115 = .ok (.aload_n 0, 1) := by decide +kernel
theorem dX13_statementTold_116 : decode cX13_statementTold 116 = .ok (.aload_n 0, 1) := by decide +kernel
theorem dX13_statementTold_117 : decode cX13_statementTold 117 = .ok (.getfield 45, 3) := by decide +kernel
theorem dX13_statementTold_120 : decode cX13_statementTold 120 = .ok (.invokevirtual 284, 3) := by decide +kernel
theorem dX13_statementTold_123 : decode cX13_statementTold 123 = .ok (.ifCond .eq 12, 3) := by decide +kernel
theorem dX13_statementTold_126 : decode cX13_statementTold 126 = .ok (.aload_n 0, 1) := by decide +kernel
theorem dX13_statementTold_127 : decode cX13_statementTold 127 = .ok (.iconst 0, 1) := by decide +kernel
theorem dX13_statementTold_128 : decode cX13_statementTold 128 = .ok (.iload_n 1, 1) := by decide +kernel
theorem dX13_statementTold_129 : decode cX13_statementTold 129 = .ok (.invokevirtual 377, 3) := by decide +kernel
theorem dX13_statementTold_132 : decode cX13_statementTold 132 = .ok (.goto 118, 3) := by decide +kernel
theorem dX13_statementTold_135 : decode cX13_statementTold 135 = .ok (.aload_n 0, 1) := by decide +kernel
theorem dX13_statementTold_136 : decode cX13_statementTold 136 = .ok (.aload_n 0, 1) := by decide +kernel
theorem dX13_statementTold_137 : decode cX13_statementTold 137 = .ok (.getfield 48, 3) := by decide +kernel
theorem dX13_statementTold_140 : decode cX13_statementTold 140 = .ok (.invokevirtual 284, 3) := by decide +kernel
theorem dX13_statementTold_143 : decode cX13_statementTold 143 = .ok (.ifCond .eq 12, 3) := by decide +kernel
theorem dX13_statementTold_146 : decode cX13_statementTold 146 = .ok (.aload_n 0, 1) := by decide +kernel
theorem dX13_statementTold_147 : decode cX13_statementTold 147 = .ok (.iconst 1, 1) := by decide +kernel
theorem dX13_statementTold_148 : decode cX13_statementTold 148 = .ok (.iload_n 1, 1) := by decide +kernel
theorem dX13_statementTold_149 : decode cX13_statementTold 149 = .ok (.invokevirtual 377, 3) := by decide +kernel
theorem dX13_statementTold_152 : decode cX13_statementTold 152 = .ok (.goto 98, 3) := by decide +kernel
theorem dX13_statementTold_155 : decode cX13_statementTold 155 = .ok (.aload_n 0, 1) := by decide +kernel
theorem dX13_statementTold_156 : decode cX13_statementTold 156 = .ok (.aload_n 0, 1) := by decide +kernel
theorem dX13_statementTold_157 : decode cX13_statementTold 157 = .ok (.getfield 51, 3) := by decide +kernel
theorem dX13_statementTold_160 : decode cX13_statementTold 160 = .ok (.invokevirtual 284, 3) := by decide +kernel
theorem dX13_statementTold_163 : decode cX13_statementTold 163 = .ok (.ifCond .eq 12, 3) := by decide +kernel
theorem dX13_statementTold_166 : decode cX13_statementTold 166 = .ok (.aload_n 0, 1) := by decide +kernel
theorem dX13_statementTold_167 : decode cX13_statementTold 167 = .ok (.iconst 2, 1) := by decide +kernel
theorem dX13_statementTold_168 : decode cX13_statementTold 168 = .ok (.iload_n 1, 1) := by decide +kernel
theorem dX13_statementTold_169 : decode cX13_statementTold 169 = .ok (.invokevirtual 377, 3) := by decide +kernel
theorem dX13_statementTold_172 : decode cX13_statementTold 172 = .ok (.goto 78, 3) := by decide +kernel
theorem dX13_statementTold_175 : decode cX13_statementTold 175 = .ok (.aload_n 0, 1) := by decide +kernel
theorem dX13_statementTold_176 : decode cX13_statementTold 176 = .ok (.aload_n 0, 1) := by decide +kernel
theorem dX13_statementTold_177 : decode cX13_statementTold 177 = .ok (.getfield 54, 3) := by decide +kernel
theorem dX13_statementTold_180 : decode cX13_statementTold 180 = .ok (.invokevirtual 284, 3) := by decide +kernel
theorem dX13_statementTold_183 : decode cX13_statementTold 183 = .ok (.ifCond .eq 19, 3) := by decide +kernel
theorem dX13_statementTold_186 : decode cX13_statementTold 186 = .ok (.aload_n 0, 1) := by decide +kernel
theorem dX13_statementTold_187 : decode cX13_statementTold 187 = .ok (.getfield 127, 3) := by decide +kernel
theorem dX13_statementTold_190 : decode cX13_statementTold 190 = .ok (.iconst 0, 1) := by decide +kernel
theorem dX13_statementTold_191 : decode cX13_statementTold 191 = .ok (.aload_n 0, 1) := by decide +kernel
theorem dX13_statementTold_192 : decode cX13_statementTold 192 = .ok (.iconst 0, 1) := by decide +kernel
theorem dX13_statementTold_193 : decode cX13_statementTold 193 = .ok (.bipush 99, 2) := by decide +kernel
theorem dX13_statementTold_195 : decode cX13_statementTold 195 = .ok (.invokevirtual 334, 3) := by decide +kernel
theorem dX13_statementTold_198 : decode cX13_statementTold 198 = .ok (.iastore, 1) := by decide +kernel
theorem dX13_statementTold_199 : decode cX13_statementTold 199 = .ok (.goto 51, 3) := by decide +kernel
theorem dX13_statementTold_202 : decode cX13_statementTold 202 = .ok (.aload_n 0, 1) := by decide +kernel
theorem dX13_statementTold_203 : decode cX13_statementTold 203 = .ok (.aload_n 0, 1) := by decide +kernel
theorem dX13_statementTold_204 : decode cX13_statementTold 204 = .ok (.getfield 57, 3) := by decide +kernel
theorem dX13_statementTold_207 : decode cX13_statementTold 207 = .ok (.invokevirtual 284, 3) := by decide +kernel
theorem dX13_statementTold_210 : decode cX13_statementTold 210 = .ok (.ifCond .eq 19, 3) := by decide +kernel
theorem dX13_statementTold_213 : decode cX13_statementTold 213 = .ok (.aload_n 0, 1) := by decide +kernel
theorem dX13_statementTold_214 : decode cX13_statementTold 214 = .ok (.getfield 127, 3) := by decide +kernel
theorem dX13_statementTold_217 : decode cX13_statementTold 217 = .ok (.iconst 1, 1) := by decide +kernel
theorem dX13_statementTold_218 : decode cX13_statementTold 218 = .ok (.aload_n 0, 1) := by decide +kernel
theorem dX13_statementTold_219 : decode cX13_statementTold 219 = .ok (.iconst 0, 1) := by decide +kernel
theorem dX13_statementTold_220 : decode cX13_statementTold 220 = .ok (.bipush 9, 2) := by decide +kernel
theorem dX13_statementTold_222 : decode cX13_statementTold 222 = .ok (.invokevirtual 334, 3) := by decide +kernel
theorem dX13_statementTold_225 : decode cX13_statementTold 225 = .ok (.iastore, 1) := by decide +kernel
theorem dX13_statementTold_226 : decode cX13_statementTold 226 = .ok (.goto 24, 3) := by decide +kernel
theorem dX13_statementTold_229 : decode cX13_statementTold 229 = .ok (.aload_n 0, 1) := by decide +kernel
theorem dX13_statementTold_230 : decode cX13_statementTold 230 = .ok (.aload_n 0, 1) := by decide +kernel
theorem dX13_statementTold_231 : decode cX13_statementTold 231 = .ok (.getfield 60, 3) := by decide +kernel
theorem dX13_statementTold_234 : decode cX13_statementTold 234 = .ok (.invokevirtual 330, 3) := by decide +kernel
theorem dX13_statementTold_237 : decode cX13_statementTold 237 = .ok (.aload_n 0, 1) := by decide +kernel
theorem dX13_statementTold_238 : decode cX13_statementTold 238 = .ok (.getfield 127, 3) := by decide +kernel
theorem dX13_statementTold_241 : decode cX13_statementTold 241 = .ok (.iconst 2, 1) := by decide +kernel
theorem dX13_statementTold_242 : decode cX13_statementTold 242 = .ok (.aload_n 0, 1) := by decide +kernel
theorem dX13_statementTold_243 : decode cX13_statementTold 243 = .ok (.iconst 0, 1) := by decide +kernel
theorem dX13_statementTold_244 : decode cX13_statementTold 244 = .ok (.bipush 100, 2) := by decide +kernel
theorem dX13_statementTold_246 : decode cX13_statementTold 246 = .ok (.invokevirtual 334, 3) := by decide +kernel
theorem dX13_statementTold_249 : decode cX13_statementTold 249 = .ok (.iastore, 1) := by decide +kernel
theorem dX13_statementTold_250 : decode cX13_statementTold 250 = .ok (.aload_n 0, 1) := by decide +kernel
theorem dX13_statementTold_251 : decode cX13_statementTold 251 = .ok (.bipush 59, 2) := by decide +kernel
theorem dX13_statementTold_253 : decode cX13_statementTold 253 = .ok (.invokevirtual 380, 3) := by decide +kernel
theorem dX13_statementTold_256 : decode cX13_statementTold 256 = .ok (.aload_n 0, 1) := by decide +kernel
theorem dX13_statementTold_257 : decode cX13_statementTold 257 = .ok (.dup, 1) := by decide +kernel
theorem dX13_statementTold_258 : decode cX13_statementTold 258 = .ok (.getfield 360, 3) := by decide +kernel
theorem dX13_statementTold_261 : decode cX13_statementTold 261 = .ok (.iconst 1, 1) := by decide +kernel
theorem dX13_statementTold_262 : decode cX13_statementTold 262 = .ok (.iadd, 1) := by decide +kernel
theorem dX13_statementTold_263 : decode cX13_statementTold 263 = .ok (.putfield 360, 3) := by decide +kernel
theorem dX13_statementTold_266 : decode cX13_statementTold 266 = .ok (.return_, 1) := by decide +kernel
theorem bX13_statementTold_0 {d : Nat}   {I : Ii} {J : Jj} {K : KV}
    (h : ((¬ (I 0 51) = 80) → (CalI wM d mX13_takes [.ref (0), .ref (3)] I J (fun x4 I2 J3 => (((x4 = 0) → (CalI wM d mX13_takes [.ref (0), .ref (5)] I2 J3 (fun x8 I6 J7 => (((x8 = 0) → (CalI wM d mX13_takes [.ref (0), .ref (7)] I6 J7 (fun x12 I10 J11 => (((x12 = 0) → (CalI wM d mX13_takes [.ref (0), .ref (8)] I10 J11 (fun x16 I14 J15 => (((x16 = 0) → (CalI wM d mX13_takes [.ref (0), .ref (9)] I14 J15 (fun x20 I18 J19 => (((x20 = 0) → (CalI wM d mX13_takes [.ref (0), .ref (11)] I18 J19 (fun x24 I22 J23 => (((x24 = 0) → (CalI wM d mX13_takes [.ref (0), .ref (12)] I22 J23 (fun x28 I26 J27 => (((x28 = 0) → (CalI wM d mX13_takes [.ref (0), .ref (13)] I26 J27 (fun x32 I30 J31 => (((x32 = 0) → (CalI wM d mX13_takes [.ref (0), .ref (14)] I30 J31 (fun x36 I34 J35 => (((x36 = 0) → (CalI wM d mX13_takes [.ref (0), .ref (15)] I34 J35 (fun x40 I38 J39 => (((x40 = 0) → (CalV wM d mX13_asks [.ref (0), .ref (16)] I38 J39 (fun I42 J43 => (CalI wM d mX13_number [.ref (0), .int (0), .int (100)] I42 J43 (fun x46 I44 J45 => (CalV wM d mX13_asksSign [.ref (0), .int (59)] (u2 I44 38 (2 : Int32).toNatClampNeg x46) J45 (fun I49 J50 => (K (u2 I49 0 51 ((I49 0 51) + 1)) J50)))))))) ∧ ((¬ x40 = 0) → (CalI wM d mX13_number [.ref (0), .int (0), .int (9)] I38 J39 (fun x57 I55 J56 => (CalV wM d mX13_asksSign [.ref (0), .int (59)] (u2 I55 38 (1 : Int32).toNatClampNeg x57) J56 (fun I60 J61 => (K (u2 I60 0 51 ((I60 0 51) + 1)) J61)))))))))) ∧ ((¬ x36 = 0) → (CalI wM d mX13_number [.ref (0), .int (0), .int (99)] I34 J35 (fun x68 I66 J67 => (CalV wM d mX13_asksSign [.ref (0), .int (59)] (u2 I66 38 (0 : Int32).toNatClampNeg x68) J67 (fun I71 J72 => (K (u2 I71 0 51 ((I71 0 51) + 1)) J72)))))))))) ∧ ((¬ x32 = 0) → (CalV wM d mX13_codesTold [.ref (0), .int (2), .int (I 0 2)] I30 J31 (fun I77 J78 => (CalV wM d mX13_asksSign [.ref (0), .int (59)] I77 J78 (fun I79 J80 => (K (u2 I79 0 51 ((I79 0 51) + 1)) J80)))))))))) ∧ ((¬ x28 = 0) → (CalV wM d mX13_codesTold [.ref (0), .int (1), .int (I 0 2)] I26 J27 (fun I85 J86 => (CalV wM d mX13_asksSign [.ref (0), .int (59)] I85 J86 (fun I87 J88 => (K (u2 I87 0 51 ((I87 0 51) + 1)) J88)))))))))) ∧ ((¬ x24 = 0) → (CalV wM d mX13_codesTold [.ref (0), .int (0), .int (I 0 2)] I22 J23 (fun I93 J94 => (CalV wM d mX13_asksSign [.ref (0), .int (59)] I93 J94 (fun I95 J96 => (K (u2 I95 0 51 ((I95 0 51) + 1)) J96)))))))))) ∧ ((¬ x20 = 0) → (CalV wM d mX13_taughtTold [.ref (0)] I18 J19 (fun I101 J102 => (CalV wM d mX13_asksSign [.ref (0), .int (59)] I101 J102 (fun I103 J104 => (K (u2 I103 0 51 ((I103 0 51) + 1)) J104)))))))))) ∧ ((¬ x16 = 0) → (CalV wM d mX13_beliefTold [.ref (0), .int (0)] I14 J15 (fun I109 J110 => (CalV wM d mX13_asksSign [.ref (0), .int (59)] I109 J110 (fun I111 J112 => (K (u2 I111 0 51 ((I111 0 51) + 1)) J112)))))))))) ∧ ((¬ x12 = 0) → (CalV wM d mX13_beliefTold [.ref (0), .int (1)] I10 J11 (fun I117 J118 => (CalV wM d mX13_asksSign [.ref (0), .int (59)] I117 J118 (fun I119 J120 => (K (u2 I119 0 51 ((I119 0 51) + 1)) J120)))))))))) ∧ ((¬ x8 = 0) → (CalV wM d mX13_personTold [.ref (0), .int (I 0 2)] I6 J7 (fun I125 J126 => (CalV wM d mX13_asksSign [.ref (0), .int (59)] I125 J126 (fun I127 J128 => (K (u2 I127 0 51 ((I127 0 51) + 1)) J128)))))))))) ∧ ((¬ x4 = 0) → (CalV wM d mX13_factTold [.ref (0), .int (I 0 2)] I2 J3 (fun I133 J134 => (CalV wM d mX13_asksSign [.ref (0), .int (59)] I133 J134 (fun I135 J136 => (K (u2 I135 0 51 ((I135 0 51) + 1)) J136)))))))))) ∧ (((I 0 51) = 80) → (CalV wM d mX13_fail [.ref (0), .int (5), .int (I 0 2)] I J (fun I141 J142 => (K I141 J142))))) :
    GoV wM (d + 1) mX13_statementTold 0 [(0, .ref (0))] [] I J K :=
  (g_aload_n dX13_statementTold_0 0 0 rfl rfl (g_getI dX13_statementTold_1 fl_X13_263 rfl obM_0 (g_istore_n dX13_statementTold_4 rfl (by decide) rfl (g_aload_n dX13_statementTold_5 1 0 rfl rfl (g_getI dX13_statementTold_6 fl_X13_360 rfl obM_0 (g_bipush dX13_statementTold_9 kb_80 (g_icmp_ne dX13_statementTold_11 rfl (fun q1 => (g_aload_n dX13_statementTold_21 1 0 rfl rfl (g_aload_n dX13_statementTold_22 1 0 rfl rfl (g_getP dX13_statementTold_23 fl_X13_20 rfl obM_0 rfl (g_callvI dX13_statementTold_26 ml_X13_284 md_X13_takes mv_X13_takes obM_0 rfl rfl rfl (Nat.le_of_ble_eq_true rfl) (CalI.mono (h.1 q1) (fun x4 I2 J3 h140 => (g_if_eq dX13_statementTold_29 rfl (fun q5 => (g_aload_n dX13_statementTold_40 1 0 rfl rfl (g_aload_n dX13_statementTold_41 1 0 rfl rfl (g_getP dX13_statementTold_42 fl_X13_27 rfl obM_0 rfl (g_callvI dX13_statementTold_45 ml_X13_284 md_X13_takes mv_X13_takes obM_0 rfl rfl rfl (Nat.le_of_ble_eq_true rfl) (CalI.mono (h140.1 q5) (fun x8 I6 J7 h132 => (g_if_eq dX13_statementTold_48 rfl (fun q9 => (g_aload_n dX13_statementTold_59 1 0 rfl rfl (g_aload_n dX13_statementTold_60 1 0 rfl rfl (g_getP dX13_statementTold_61 fl_X13_33 rfl obM_0 rfl (g_callvI dX13_statementTold_64 ml_X13_284 md_X13_takes mv_X13_takes obM_0 rfl rfl rfl (Nat.le_of_ble_eq_true rfl) (CalI.mono (h132.1 q9) (fun x12 I10 J11 h124 => (g_if_eq dX13_statementTold_67 rfl (fun q13 => (g_aload_n dX13_statementTold_78 1 0 rfl rfl (g_aload_n dX13_statementTold_79 1 0 rfl rfl (g_getP dX13_statementTold_80 fl_X13_36 rfl obM_0 rfl (g_callvI dX13_statementTold_83 ml_X13_284 md_X13_takes mv_X13_takes obM_0 rfl rfl rfl (Nat.le_of_ble_eq_true rfl) (CalI.mono (h124.1 q13) (fun x16 I14 J15 h116 => (g_if_eq dX13_statementTold_86 rfl (fun q17 => (g_aload_n dX13_statementTold_97 1 0 rfl rfl (g_aload_n dX13_statementTold_98 1 0 rfl rfl (g_getP dX13_statementTold_99 fl_X13_39 rfl obM_0 rfl (g_callvI dX13_statementTold_102 ml_X13_284 md_X13_takes mv_X13_takes obM_0 rfl rfl rfl (Nat.le_of_ble_eq_true rfl) (CalI.mono (h116.1 q17) (fun x20 I18 J19 h108 => (g_if_eq dX13_statementTold_105 rfl (fun q21 => (g_aload_n dX13_statementTold_115 1 0 rfl rfl (g_aload_n dX13_statementTold_116 1 0 rfl rfl (g_getP dX13_statementTold_117 fl_X13_45 rfl obM_0 rfl (g_callvI dX13_statementTold_120 ml_X13_284 md_X13_takes mv_X13_takes obM_0 rfl rfl rfl (Nat.le_of_ble_eq_true rfl) (CalI.mono (h108.1 q21) (fun x24 I22 J23 h100 => (g_if_eq dX13_statementTold_123 rfl (fun q25 => (g_aload_n dX13_statementTold_135 1 0 rfl rfl (g_aload_n dX13_statementTold_136 1 0 rfl rfl (g_getP dX13_statementTold_137 fl_X13_48 rfl obM_0 rfl (g_callvI dX13_statementTold_140 ml_X13_284 md_X13_takes mv_X13_takes obM_0 rfl rfl rfl (Nat.le_of_ble_eq_true rfl) (CalI.mono (h100.1 q25) (fun x28 I26 J27 h92 => (g_if_eq dX13_statementTold_143 rfl (fun q29 => (g_aload_n dX13_statementTold_155 1 0 rfl rfl (g_aload_n dX13_statementTold_156 1 0 rfl rfl (g_getP dX13_statementTold_157 fl_X13_51 rfl obM_0 rfl (g_callvI dX13_statementTold_160 ml_X13_284 md_X13_takes mv_X13_takes obM_0 rfl rfl rfl (Nat.le_of_ble_eq_true rfl) (CalI.mono (h92.1 q29) (fun x32 I30 J31 h84 => (g_if_eq dX13_statementTold_163 rfl (fun q33 => (g_aload_n dX13_statementTold_175 1 0 rfl rfl (g_aload_n dX13_statementTold_176 1 0 rfl rfl (g_getP dX13_statementTold_177 fl_X13_54 rfl obM_0 rfl (g_callvI dX13_statementTold_180 ml_X13_284 md_X13_takes mv_X13_takes obM_0 rfl rfl rfl (Nat.le_of_ble_eq_true rfl) (CalI.mono (h84.1 q33) (fun x36 I34 J35 h76 => (g_if_eq dX13_statementTold_183 rfl (fun q37 => (g_aload_n dX13_statementTold_202 1 0 rfl rfl (g_aload_n dX13_statementTold_203 1 0 rfl rfl (g_getP dX13_statementTold_204 fl_X13_57 rfl obM_0 rfl (g_callvI dX13_statementTold_207 ml_X13_284 md_X13_takes mv_X13_takes obM_0 rfl rfl rfl (Nat.le_of_ble_eq_true rfl) (CalI.mono (h76.1 q37) (fun x40 I38 J39 h65 => (g_if_eq dX13_statementTold_210 rfl (fun q41 => (g_aload_n dX13_statementTold_229 1 0 rfl rfl (g_aload_n dX13_statementTold_230 1 0 rfl rfl (g_getP dX13_statementTold_231 fl_X13_60 rfl obM_0 rfl (g_callvV dX13_statementTold_234 ml_X13_330 md_X13_asks mv_X13_asks obM_0 rfl rfl rfl (Nat.le_of_ble_eq_true rfl) (CalV.mono (h65.1 q41) (fun I42 J43 h54 => (g_aload_n dX13_statementTold_237 1 0 rfl rfl (g_getP dX13_statementTold_238 fl_X13_127 rfl obM_0 rfl (g_iconst dX13_statementTold_241 kc_2 (g_aload_n dX13_statementTold_242 1 0 rfl rfl (g_iconst dX13_statementTold_243 kc_0 (g_bipush dX13_statementTold_244 kb_100 (g_callvI dX13_statementTold_246 ml_X13_334 md_X13_number mv_X13_number obM_0 rfl rfl rfl (Nat.le_of_ble_eq_true rfl) (CalI.mono h54 (fun x46 I44 J45 h53 => (g_iast dX13_statementTold_249 arM_38 (by unfold vp_in; decide) (g_aload_n dX13_statementTold_250 1 0 rfl rfl (g_bipush dX13_statementTold_251 kb_59 (g_callvV dX13_statementTold_253 ml_X13_380 md_X13_asksSign mv_X13_asksSign obM_0 rfl rfl rfl (Nat.le_of_ble_eq_true rfl) (CalV.mono h53 (fun I49 J50 h52 => (g_aload_n dX13_statementTold_256 1 0 rfl rfl (g_dup dX13_statementTold_257 rfl (g_getI dX13_statementTold_258 fl_X13_360 rfl obM_0 (g_iconst dX13_statementTold_261 kc_1 (g_iadd dX13_statementTold_262 (g_putI dX13_statementTold_263 fl_X13_360 rfl rfl obM_0 (g_return dX13_statementTold_266 rfl ⟨rfl, h52⟩))))))))))))))))))))))))))))) (fun q41 => (g_aload_n dX13_statementTold_213 1 0 rfl rfl (g_getP dX13_statementTold_214 fl_X13_127 rfl obM_0 rfl (g_iconst dX13_statementTold_217 kc_1 (g_aload_n dX13_statementTold_218 1 0 rfl rfl (g_iconst dX13_statementTold_219 kc_0 (g_bipush dX13_statementTold_220 kb_9 (g_callvI dX13_statementTold_222 ml_X13_334 md_X13_number mv_X13_number obM_0 rfl rfl rfl (Nat.le_of_ble_eq_true rfl) (CalI.mono (h65.2 q41) (fun x57 I55 J56 h64 => (g_iast dX13_statementTold_225 arM_38 (by unfold vp_in; decide) (g_goto dX13_statementTold_226 rfl (g_aload_n dX13_statementTold_250 1 0 rfl rfl (g_bipush dX13_statementTold_251 kb_59 (g_callvV dX13_statementTold_253 ml_X13_380 md_X13_asksSign mv_X13_asksSign obM_0 rfl rfl rfl (Nat.le_of_ble_eq_true rfl) (CalV.mono h64 (fun I60 J61 h63 => (g_aload_n dX13_statementTold_256 1 0 rfl rfl (g_dup dX13_statementTold_257 rfl (g_getI dX13_statementTold_258 fl_X13_360 rfl obM_0 (g_iconst dX13_statementTold_261 kc_1 (g_iadd dX13_statementTold_262 (g_putI dX13_statementTold_263 fl_X13_360 rfl rfl obM_0 (g_return dX13_statementTold_266 rfl ⟨rfl, h63⟩)))))))))))))))))))))))))))))))) (fun q37 => (g_aload_n dX13_statementTold_186 1 0 rfl rfl (g_getP dX13_statementTold_187 fl_X13_127 rfl obM_0 rfl (g_iconst dX13_statementTold_190 kc_0 (g_aload_n dX13_statementTold_191 1 0 rfl rfl (g_iconst dX13_statementTold_192 kc_0 (g_bipush dX13_statementTold_193 kb_99 (g_callvI dX13_statementTold_195 ml_X13_334 md_X13_number mv_X13_number obM_0 rfl rfl rfl (Nat.le_of_ble_eq_true rfl) (CalI.mono (h76.2 q37) (fun x68 I66 J67 h75 => (g_iast dX13_statementTold_198 arM_38 (by unfold vp_in; decide) (g_goto dX13_statementTold_199 rfl (g_aload_n dX13_statementTold_250 1 0 rfl rfl (g_bipush dX13_statementTold_251 kb_59 (g_callvV dX13_statementTold_253 ml_X13_380 md_X13_asksSign mv_X13_asksSign obM_0 rfl rfl rfl (Nat.le_of_ble_eq_true rfl) (CalV.mono h75 (fun I71 J72 h74 => (g_aload_n dX13_statementTold_256 1 0 rfl rfl (g_dup dX13_statementTold_257 rfl (g_getI dX13_statementTold_258 fl_X13_360 rfl obM_0 (g_iconst dX13_statementTold_261 kc_1 (g_iadd dX13_statementTold_262 (g_putI dX13_statementTold_263 fl_X13_360 rfl rfl obM_0 (g_return dX13_statementTold_266 rfl ⟨rfl, h74⟩)))))))))))))))))))))))))))))))) (fun q33 => (g_aload_n dX13_statementTold_166 1 0 rfl rfl (g_iconst dX13_statementTold_167 kc_2 (g_iload_n dX13_statementTold_168 0 1 rfl rfl (g_callvV dX13_statementTold_169 ml_X13_377 md_X13_codesTold mv_X13_codesTold obM_0 rfl rfl rfl (Nat.le_of_ble_eq_true rfl) (CalV.mono (h84.2 q33) (fun I77 J78 h83 => (g_goto dX13_statementTold_172 rfl (g_aload_n dX13_statementTold_250 1 0 rfl rfl (g_bipush dX13_statementTold_251 kb_59 (g_callvV dX13_statementTold_253 ml_X13_380 md_X13_asksSign mv_X13_asksSign obM_0 rfl rfl rfl (Nat.le_of_ble_eq_true rfl) (CalV.mono h83 (fun I79 J80 h82 => (g_aload_n dX13_statementTold_256 1 0 rfl rfl (g_dup dX13_statementTold_257 rfl (g_getI dX13_statementTold_258 fl_X13_360 rfl obM_0 (g_iconst dX13_statementTold_261 kc_1 (g_iadd dX13_statementTold_262 (g_putI dX13_statementTold_263 fl_X13_360 rfl rfl obM_0 (g_return dX13_statementTold_266 rfl ⟨rfl, h82⟩)))))))))))))))))))))))))))) (fun q29 => (g_aload_n dX13_statementTold_146 1 0 rfl rfl (g_iconst dX13_statementTold_147 kc_1 (g_iload_n dX13_statementTold_148 0 1 rfl rfl (g_callvV dX13_statementTold_149 ml_X13_377 md_X13_codesTold mv_X13_codesTold obM_0 rfl rfl rfl (Nat.le_of_ble_eq_true rfl) (CalV.mono (h92.2 q29) (fun I85 J86 h91 => (g_goto dX13_statementTold_152 rfl (g_aload_n dX13_statementTold_250 1 0 rfl rfl (g_bipush dX13_statementTold_251 kb_59 (g_callvV dX13_statementTold_253 ml_X13_380 md_X13_asksSign mv_X13_asksSign obM_0 rfl rfl rfl (Nat.le_of_ble_eq_true rfl) (CalV.mono h91 (fun I87 J88 h90 => (g_aload_n dX13_statementTold_256 1 0 rfl rfl (g_dup dX13_statementTold_257 rfl (g_getI dX13_statementTold_258 fl_X13_360 rfl obM_0 (g_iconst dX13_statementTold_261 kc_1 (g_iadd dX13_statementTold_262 (g_putI dX13_statementTold_263 fl_X13_360 rfl rfl obM_0 (g_return dX13_statementTold_266 rfl ⟨rfl, h90⟩)))))))))))))))))))))))))))) (fun q25 => (g_aload_n dX13_statementTold_126 1 0 rfl rfl (g_iconst dX13_statementTold_127 kc_0 (g_iload_n dX13_statementTold_128 0 1 rfl rfl (g_callvV dX13_statementTold_129 ml_X13_377 md_X13_codesTold mv_X13_codesTold obM_0 rfl rfl rfl (Nat.le_of_ble_eq_true rfl) (CalV.mono (h100.2 q25) (fun I93 J94 h99 => (g_goto dX13_statementTold_132 rfl (g_aload_n dX13_statementTold_250 1 0 rfl rfl (g_bipush dX13_statementTold_251 kb_59 (g_callvV dX13_statementTold_253 ml_X13_380 md_X13_asksSign mv_X13_asksSign obM_0 rfl rfl rfl (Nat.le_of_ble_eq_true rfl) (CalV.mono h99 (fun I95 J96 h98 => (g_aload_n dX13_statementTold_256 1 0 rfl rfl (g_dup dX13_statementTold_257 rfl (g_getI dX13_statementTold_258 fl_X13_360 rfl obM_0 (g_iconst dX13_statementTold_261 kc_1 (g_iadd dX13_statementTold_262 (g_putI dX13_statementTold_263 fl_X13_360 rfl rfl obM_0 (g_return dX13_statementTold_266 rfl ⟨rfl, h98⟩)))))))))))))))))))))))))))) (fun q21 => (g_aload_n dX13_statementTold_108 1 0 rfl rfl (g_callvV dX13_statementTold_109 ml_X13_374 md_X13_taughtTold mv_X13_taughtTold obM_0 rfl rfl rfl (Nat.le_of_ble_eq_true rfl) (CalV.mono (h108.2 q21) (fun I101 J102 h107 => (g_goto dX13_statementTold_112 rfl (g_aload_n dX13_statementTold_250 1 0 rfl rfl (g_bipush dX13_statementTold_251 kb_59 (g_callvV dX13_statementTold_253 ml_X13_380 md_X13_asksSign mv_X13_asksSign obM_0 rfl rfl rfl (Nat.le_of_ble_eq_true rfl) (CalV.mono h107 (fun I103 J104 h106 => (g_aload_n dX13_statementTold_256 1 0 rfl rfl (g_dup dX13_statementTold_257 rfl (g_getI dX13_statementTold_258 fl_X13_360 rfl obM_0 (g_iconst dX13_statementTold_261 kc_1 (g_iadd dX13_statementTold_262 (g_putI dX13_statementTold_263 fl_X13_360 rfl rfl obM_0 (g_return dX13_statementTold_266 rfl ⟨rfl, h106⟩)))))))))))))))))))))))))) (fun q17 => (g_aload_n dX13_statementTold_89 1 0 rfl rfl (g_iconst dX13_statementTold_90 kc_0 (g_callvV dX13_statementTold_91 ml_X13_370 md_X13_beliefTold mv_X13_beliefTold obM_0 rfl rfl rfl (Nat.le_of_ble_eq_true rfl) (CalV.mono (h116.2 q17) (fun I109 J110 h115 => (g_goto dX13_statementTold_94 rfl (g_aload_n dX13_statementTold_250 1 0 rfl rfl (g_bipush dX13_statementTold_251 kb_59 (g_callvV dX13_statementTold_253 ml_X13_380 md_X13_asksSign mv_X13_asksSign obM_0 rfl rfl rfl (Nat.le_of_ble_eq_true rfl) (CalV.mono h115 (fun I111 J112 h114 => (g_aload_n dX13_statementTold_256 1 0 rfl rfl (g_dup dX13_statementTold_257 rfl (g_getI dX13_statementTold_258 fl_X13_360 rfl obM_0 (g_iconst dX13_statementTold_261 kc_1 (g_iadd dX13_statementTold_262 (g_putI dX13_statementTold_263 fl_X13_360 rfl rfl obM_0 (g_return dX13_statementTold_266 rfl ⟨rfl, h114⟩))))))))))))))))))))))))))) (fun q13 => (g_aload_n dX13_statementTold_70 1 0 rfl rfl (g_iconst dX13_statementTold_71 kc_1 (g_callvV dX13_statementTold_72 ml_X13_370 md_X13_beliefTold mv_X13_beliefTold obM_0 rfl rfl rfl (Nat.le_of_ble_eq_true rfl) (CalV.mono (h124.2 q13) (fun I117 J118 h123 => (g_goto dX13_statementTold_75 rfl (g_aload_n dX13_statementTold_250 1 0 rfl rfl (g_bipush dX13_statementTold_251 kb_59 (g_callvV dX13_statementTold_253 ml_X13_380 md_X13_asksSign mv_X13_asksSign obM_0 rfl rfl rfl (Nat.le_of_ble_eq_true rfl) (CalV.mono h123 (fun I119 J120 h122 => (g_aload_n dX13_statementTold_256 1 0 rfl rfl (g_dup dX13_statementTold_257 rfl (g_getI dX13_statementTold_258 fl_X13_360 rfl obM_0 (g_iconst dX13_statementTold_261 kc_1 (g_iadd dX13_statementTold_262 (g_putI dX13_statementTold_263 fl_X13_360 rfl rfl obM_0 (g_return dX13_statementTold_266 rfl ⟨rfl, h122⟩))))))))))))))))))))))))))) (fun q9 => (g_aload_n dX13_statementTold_51 1 0 rfl rfl (g_iload_n dX13_statementTold_52 0 1 rfl rfl (g_callvV dX13_statementTold_53 ml_X13_367 md_X13_personTold mv_X13_personTold obM_0 rfl rfl rfl (Nat.le_of_ble_eq_true rfl) (CalV.mono (h132.2 q9) (fun I125 J126 h131 => (g_goto dX13_statementTold_56 rfl (g_aload_n dX13_statementTold_250 1 0 rfl rfl (g_bipush dX13_statementTold_251 kb_59 (g_callvV dX13_statementTold_253 ml_X13_380 md_X13_asksSign mv_X13_asksSign obM_0 rfl rfl rfl (Nat.le_of_ble_eq_true rfl) (CalV.mono h131 (fun I127 J128 h130 => (g_aload_n dX13_statementTold_256 1 0 rfl rfl (g_dup dX13_statementTold_257 rfl (g_getI dX13_statementTold_258 fl_X13_360 rfl obM_0 (g_iconst dX13_statementTold_261 kc_1 (g_iadd dX13_statementTold_262 (g_putI dX13_statementTold_263 fl_X13_360 rfl rfl obM_0 (g_return dX13_statementTold_266 rfl ⟨rfl, h130⟩))))))))))))))))))))))))))) (fun q5 => (g_aload_n dX13_statementTold_32 1 0 rfl rfl (g_iload_n dX13_statementTold_33 0 1 rfl rfl (g_callvV dX13_statementTold_34 ml_X13_363 md_X13_factTold mv_X13_factTold obM_0 rfl rfl rfl (Nat.le_of_ble_eq_true rfl) (CalV.mono (h140.2 q5) (fun I133 J134 h139 => (g_goto dX13_statementTold_37 rfl (g_aload_n dX13_statementTold_250 1 0 rfl rfl (g_bipush dX13_statementTold_251 kb_59 (g_callvV dX13_statementTold_253 ml_X13_380 md_X13_asksSign mv_X13_asksSign obM_0 rfl rfl rfl (Nat.le_of_ble_eq_true rfl) (CalV.mono h139 (fun I135 J136 h138 => (g_aload_n dX13_statementTold_256 1 0 rfl rfl (g_dup dX13_statementTold_257 rfl (g_getI dX13_statementTold_258 fl_X13_360 rfl obM_0 (g_iconst dX13_statementTold_261 kc_1 (g_iadd dX13_statementTold_262 (g_putI dX13_statementTold_263 fl_X13_360 rfl rfl obM_0 (g_return dX13_statementTold_266 rfl ⟨rfl, h138⟩))))))))))))))))))))))))))) (fun q1 => (g_aload_n dX13_statementTold_14 1 0 rfl rfl (g_iconst dX13_statementTold_15 kc_5 (g_iload_n dX13_statementTold_16 0 1 rfl rfl (g_callvV dX13_statementTold_17 ml_X13_287 md_X13_fail mv_X13_fail obM_0 rfl rfl rfl (Nat.le_of_ble_eq_true rfl) (CalV.mono (h.2 q1) (fun I141 J142 h143 => (g_return dX13_statementTold_20 rfl ⟨rfl, h143⟩)))))))))))))))
theorem dX13_fail_0 : decode cX13_fail 0 = .ok (.aload_n 0, 1) := by decide +kernel
theorem dX13_fail_1 : decode cX13_fail 1 = .ok (.getfield 257, 3) := by decide +kernel
theorem dX13_fail_4 : decode cX13_fail 4 = .ok (.ifCond .eq 4, 3) := by decide +kernel
theorem dX13_fail_7 : decode cX13_fail 7 = .ok (.return_, 1) := by decide +kernel
theorem dX13_fail_8 : decode cX13_fail 8 = .ok (.aload_n 0, 1) := by decide +kernel
theorem dX13_fail_9 : decode cX13_fail 9 = .ok (.iload_n 1, 1) := by decide +kernel
theorem dX13_fail_10 : decode cX13_fail 10 = .ok (.putfield 257, 3) := by decide +kernel
theorem dX13_fail_13 : decode cX13_fail 13 = .ok (.aload_n 0, 1) := by decide +kernel
theorem dX13_fail_14 : decode cX13_fail 14 = .ok (.iload_n 2, 1) := by decide +kernel
theorem dX13_fail_15 : decode cX13_fail 15 = .ok (.putfield 260, 3) := by decide +kernel
theorem dX13_fail_18 : decode cX13_fail 18 = .ok (.return_, 1) := by decide +kernel
theorem bX13_fail_0 {d : Nat}  {v1 : Int32} {v2 : Int32} {I : Ii} {J : Jj} {K : KV}
    (h : (((I 0 5) = 0) → (K (u2 (u2 I 0 5 v1) 0 6 v2) J)) ∧ ((¬ (I 0 5) = 0) → (K I J))) :
    GoV wM d mX13_fail 0 [(0, .ref (0)), (1, .int (v1)), (2, .int (v2))] [] I J K :=
  (g_aload_n dX13_fail_0 0 0 rfl rfl (g_getI dX13_fail_1 fl_X13_257 rfl obM_0 (g_if_eq dX13_fail_4 rfl (fun q1 => (g_aload_n dX13_fail_8 0 0 rfl rfl (g_iload_n dX13_fail_9 1 1 rfl rfl (g_putI dX13_fail_10 fl_X13_257 rfl rfl obM_0 (g_aload_n dX13_fail_13 0 0 rfl rfl (g_iload_n dX13_fail_14 2 2 rfl rfl (g_putI dX13_fail_15 fl_X13_260 rfl rfl obM_0 (g_return dX13_fail_18 rfl ⟨rfl, (h.1 q1)⟩)))))))) (fun q1 => (g_return dX13_fail_7 rfl ⟨rfl, (h.2 q1)⟩)))))
theorem dX13_takes_0 : decode cX13_takes 0 = .ok (.aload_n 0, 1) := by decide +kernel
theorem dX13_takes_1 : decode cX13_takes 1 = .ok (.aload_n 1, 1) := by decide +kernel
theorem dX13_takes_2 : decode cX13_takes 2 = .ok (.invokevirtual 280, 3) := by decide +kernel
theorem dX13_takes_5 : decode cX13_takes 5 = .ok (.ifCond .ne 5, 3) := by decide +kernel
theorem dX13_takes_8 : decode cX13_takes 8 = .ok (.iconst 0, 1) := by decide +kernel
theorem dX13_takes_9 : decode cX13_takes 9 = .ok (.ireturn, 1) := by decide +kernel
theorem dX13_takes_10 : decode cX13_takes 10 = .ok (.aload_n 0, 1) := by decide +kernel
theorem dX13_takes_11 : decode cX13_takes 11 = .ok (.dup, 1) := by decide +kernel
theorem dX13_takes_12 : decode cX13_takes 12 = .ok (.getfield 263, 3) := by decide +kernel
theorem dX13_takes_15 : decode cX13_takes 15 = .ok (.aload_n 1, 1) := by decide +kernel
theorem dX13_takes_16 : decode cX13_takes 16 = .ok (.arraylength, 1) := by decide +kernel
theorem dX13_takes_17 : decode cX13_takes 17 = .ok (.iadd, 1) := by decide +kernel
theorem dX13_takes_18 : decode cX13_takes 18 = .ok (.putfield 263, 3) := by decide +kernel
theorem dX13_takes_21 : decode cX13_takes 21 = .ok (.aload_n 0, 1) := by decide +kernel
theorem dX13_takes_22 : decode cX13_takes 22 = .ok (.aload_n 0, 1) := by decide +kernel
theorem dX13_takes_23 : decode cX13_takes 23 = .ok (.getfield 263, 3) := by decide +kernel
theorem dX13_takes_26 : decode cX13_takes 26 = .ok (.putfield 277, 3) := by decide +kernel
theorem dX13_takes_29 : decode cX13_takes 29 = .ok (.iconst 1, 1) := by decide +kernel
theorem dX13_takes_30 : decode cX13_takes 30 = .ok (.ireturn, 1) := by decide +kernel
theorem bX13_takes_0 {d : Nat}  {a1 n1 : Nat} (ha1 : z_Ar wM a1 2 n1)  {I : Ii} {J : Jj} {K : KI}
    (h : CalI wM d mX13_isHere [.ref (0), .ref (a1)] I J (fun x3 I1 J2 => (((¬ x3 = 0) → (∀ I5 : Ii, I5 = u2 I1 0 2 ((I1 0 2) + (Int32.ofNat n1)) → (K (1) (u2 I5 0 4 (I5 0 2)) J2))) ∧ ((x3 = 0) → (K (0) I1 J2))))) :
    GoI wM (d + 1) mX13_takes 0 [(0, .ref (0)), (1, .ref (a1))] [] I J K :=
  (g_aload_n dX13_takes_0 0 0 rfl rfl (g_aload_n dX13_takes_1 1 1 rfl rfl (g_callvI dX13_takes_2 ml_X13_280 md_X13_isHere mv_X13_isHere obM_0 rfl rfl rfl (Nat.le_of_ble_eq_true rfl) (CalI.mono h (fun x3 I1 J2 h7 => (g_if_ne dX13_takes_5 rfl (fun q4 => (g_aload_n dX13_takes_10 0 0 rfl rfl (g_dup dX13_takes_11 rfl (g_getI dX13_takes_12 fl_X13_263 rfl obM_0 (g_aload_n dX13_takes_15 1 1 rfl rfl (g_alen (t := 1) dX13_takes_16 ha1 (by decide) (g_iadd dX13_takes_17 (g_putI dX13_takes_18 fl_X13_263 rfl rfl obM_0 (g_aload_n dX13_takes_21 0 0 rfl rfl (g_aload_n dX13_takes_22 0 0 rfl rfl (g_getI dX13_takes_23 fl_X13_263 rfl obM_0 (g_putI dX13_takes_26 fl_X13_277 rfl rfl obM_0 (g_iconst dX13_takes_29 kc_1 (g_zreturn dX13_takes_30 rfl (narZ (by decide)) ⟨_, rfl, ((h7.1 q4) _ rfl)⟩)))))))))))))) (fun q4 => (g_iconst dX13_takes_8 kc_0 (g_zreturn dX13_takes_9 rfl (narZ (by decide)) ⟨_, rfl, (h7.2 q4)⟩)))))))))
theorem dX13_isHere_0 : decode cX13_isHere 0 = .ok (.aload_n 0, 1) := by decide +kernel
theorem dX13_isHere_1 : decode cX13_isHere 1 = .ok (.getfield 257, 3) := by decide +kernel
theorem dX13_isHere_4 : decode cX13_isHere 4 = .ok (.ifCond .ne 24, 3) := by decide +kernel
theorem dX13_isHere_7 : decode cX13_isHere 7 = .ok (.aload_n 0, 1) := by decide +kernel
theorem dX13_isHere_8 : decode cX13_isHere 8 = .ok (.invokevirtual 269, 3) := by decide +kernel
theorem dX13_isHere_11 : decode cX13_isHere 11 = .ok (.invokestatic 273, 3) := by decide +kernel
theorem dX13_isHere_14 : decode cX13_isHere 14 = .ok (.ifCond .eq 14, 3) := by decide +kernel
theorem dX13_isHere_17 : decode cX13_isHere 17 = .ok (.aload_n 0, 1) := by decide +kernel
theorem dX13_isHere_18 : decode cX13_isHere 18 = .ok (.getfield 263, 3) := by decide +kernel
theorem dX13_isHere_21 : decode cX13_isHere 21 = .ok (.aload_n 0, 1) := by decide +kernel
theorem dX13_isHere_22 : decode cX13_isHere 22 = .ok (.getfield 277, 3) := by decide +kernel
theorem dX13_isHere_25 : decode cX13_isHere 25 = .ok (.if_icmp .ne 5, 3) := by decide +kernel
theorem dX13_isHere_28 : decode cX13_isHere 28 = .ok (.iconst 0, 1) := by decide +kernel
theorem dX13_isHere_29 : decode cX13_isHere 29 = .ok (.ireturn, 1) := by decide +kernel
theorem dX13_isHere_30 : decode cX13_isHere 30 = .ok (.aload_n 0, 1) := by decide +kernel
theorem dX13_isHere_31 : decode cX13_isHere 31 = .ok (.getfield 263, 3) := by decide +kernel
theorem dX13_isHere_34 : decode cX13_isHere 34 = .ok (.istore_n 2, 1) := by decide +kernel
theorem dX13_isHere_35 : decode cX13_isHere 35 = .ok (.iload_n 2, 1) := by decide +kernel
theorem dX13_isHere_36 : decode cX13_isHere 36 = .ok (.aload_n 0, 1) := by decide +kernel
theorem dX13_isHere_37 : decode cX13_isHere 37 = .ok (.getfield 266, 3) := by decide +kernel
theorem dX13_isHere_40 : decode cX13_isHere 40 = .ok (.if_icmp .ge 21, 3) := by decide +kernel
theorem dX13_isHere_43 : decode cX13_isHere 43 = .ok (.aload_n 0, 1) := by decide +kernel
theorem dX13_isHere_44 : decode cX13_isHere 44 = .ok (.getfield 7, 3) := by decide +kernel
theorem dX13_isHere_47 : decode cX13_isHere 47 = .ok (.iload_n 2, 1) := by decide +kernel
theorem dX13_isHere_48 : decode cX13_isHere 48 = .ok (.iaload, 1) := by decide +kernel
theorem dX13_isHere_49 : decode cX13_isHere 49 = .ok (.invokestatic 273, 3) := by decide +kernel
theorem dX13_isHere_52 : decode cX13_isHere 52 = .ok (.ifCond .eq 9, 3) := by decide +kernel
theorem dX13_isHere_55 : decode cX13_isHere 55 = .ok (.iinc 2 1, 3) := by decide +kernel
theorem dX13_isHere_58 : decode cX13_isHere 58 = .ok (.goto (-23), 3) := by decide +kernel
theorem dX13_isHere_61 : decode cX13_isHere 61 = .ok (.iload_n 2, 1) := by decide +kernel
theorem dX13_isHere_62 : decode cX13_isHere 62 = .ok (.aload_n 0, 1) := by decide +kernel
theorem dX13_isHere_63 : decode cX13_isHere 63 = .ok (.getfield 263, 3) := by decide +kernel
theorem dX13_isHere_66 : decode cX13_isHere 66 = .ok (.isub, 1) := by decide +kernel
theorem dX13_isHere_67 : decode cX13_isHere 67 = .ok (.aload_n 1, 1) := by decide +kernel
theorem dX13_isHere_68 : decode cX13_isHere 68 = .ok (.arraylength, 1) := by decide +kernel
theorem dX13_isHere_69 : decode cX13_isHere 69 = .ok (.if_icmp .eq 5, 3) := by decide +kernel
theorem dX13_isHere_72 : decode cX13_isHere 72 = .ok (.iconst 0, 1) := by decide +kernel
theorem dX13_isHere_73 : decode cX13_isHere 73 = .ok (.ireturn, 1) := by decide +kernel
theorem dX13_isHere_74 : decode cX13_isHere 74 = .ok (.iconst 0, 1) := by decide +kernel
theorem dX13_isHere_75 : decode cX13_isHere 75 = .ok (.istore_n 3, 1) := by decide +kernel
theorem dX13_isHere_76 : decode cX13_isHere 76 = .ok (.iload_n 3, 1) := by decide +kernel
theorem dX13_isHere_77 : decode cX13_isHere 77 = .ok (.aload_n 1, 1) := by decide +kernel
theorem dX13_isHere_78 : decode cX13_isHere 78 = .ok (.arraylength, 1) := by decide +kernel
theorem dX13_isHere_79 : decode cX13_isHere 79 = .ok (.if_icmp .ge 28, 3) := by decide +kernel
theorem dX13_isHere_82 : decode cX13_isHere 82 = .ok (.aload_n 0, 1) := by decide +kernel
theorem dX13_isHere_83 : decode cX13_isHere 83 = .ok (.getfield 7, 3) := by decide +kernel
theorem dX13_isHere_86 : decode cX13_isHere 86 = .ok (.aload_n 0, 1) := by decide +kernel
theorem dX13_isHere_87 : decode cX13_isHere 87 = .ok (.getfield 263, 3) := by decide +kernel
theorem dX13_isHere_90 : decode cX13_isHere 90 = .ok (.iload_n 3, 1) := by decide +kernel
theorem dX13_isHere_91 : decode cX13_isHere 91 = .ok (.iadd, 1) := by decide +kernel
theorem dX13_isHere_92 : decode cX13_isHere 92 = .ok (.iaload, 1) := by decide +kernel
theorem dX13_isHere_93 : decode cX13_isHere 93 = .ok (.aload_n 1, 1) := by decide +kernel
theorem dX13_isHere_94 : decode cX13_isHere 94 = .ok (.iload_n 3, 1) := by decide +kernel
theorem dX13_isHere_95 : decode cX13_isHere 95 = .ok (.caload, 1) := by decide +kernel
theorem dX13_isHere_96 : decode cX13_isHere 96 = .ok (.if_icmp .eq 5, 3) := by decide +kernel
theorem dX13_isHere_99 : decode cX13_isHere 99 = .ok (.iconst 0, 1) := by decide +kernel
theorem dX13_isHere_100 : decode cX13_isHere 100 = .ok (.ireturn, 1) := by decide +kernel
theorem dX13_isHere_101 : decode cX13_isHere 101 = .ok (.iinc 3 1, 3) := by decide +kernel
theorem dX13_isHere_104 : decode cX13_isHere 104 = .ok (.goto (-28), 3) := by decide +kernel
theorem dX13_isHere_107 : decode cX13_isHere 107 = .ok (.iconst 1, 1) := by decide +kernel
theorem dX13_isHere_108 : decode cX13_isHere 108 = .ok (.ireturn, 1) := by decide +kernel
theorem bX13_isHere_0 {d : Nat}  {a1 n1 : Nat} (ha1 : z_Ar wM a1 2 n1)  {I : Ii} {J : Jj} {K : KI}
    (h : ((¬ (I 0 5) = 0) → (K (0) I J)) ∧ (((I 0 5) = 0) → (CalI wM d mX13_look [.ref (0)] I J (fun x4 I2 J3 => (CalI wM d mX13_isLetter [.int (x4)] I2 J3 (fun x7 I5 J6 => (((x7 = 0) → (K (0) I5 J6)) ∧ ((¬ x7 = 0) → (((¬ (I5 0 2) = (I5 0 4)) → (GoI wM (d + 1) mX13_isHere 35 [(0, .ref (0)), (1, .ref (a1)), (2, .int (I5 0 2))] [] I5 J6 K)) ∧ (((I5 0 2) = (I5 0 4)) → (K (0) I5 J6))))))))))) :
    GoI wM (d + 1) mX13_isHere 0 [(0, .ref (0)), (1, .ref (a1))] [] I J K :=
  (g_aload_n dX13_isHere_0 0 0 rfl rfl (g_getI dX13_isHere_1 fl_X13_257 rfl obM_0 (g_if_ne dX13_isHere_4 rfl (fun q1 => (g_iconst dX13_isHere_28 kc_0 (g_zreturn dX13_isHere_29 rfl (narZ (by decide)) ⟨_, rfl, (h.1 q1)⟩))) (fun q1 => (g_aload_n dX13_isHere_7 0 0 rfl rfl (g_callvI dX13_isHere_8 ml_X13_269 md_X13_look mv_X13_look obM_0 rfl rfl rfl (Nat.le_of_ble_eq_true rfl) (CalI.mono (h.2 q1) (fun x4 I2 J3 h11 => (g_callsI dX13_isHere_11 ml_X13_273 md_X13_isLetter ms_X13_isLetter rfl rfl (Nat.le_of_ble_eq_true rfl) (CalI.mono h11 (fun x7 I5 J6 h10 => (g_if_eq dX13_isHere_14 rfl (fun q8 => (g_iconst dX13_isHere_28 kc_0 (g_zreturn dX13_isHere_29 rfl (narZ (by decide)) ⟨_, rfl, (h10.1 q8)⟩))) (fun q8 => (g_aload_n dX13_isHere_17 0 0 rfl rfl (g_getI dX13_isHere_18 fl_X13_263 rfl obM_0 (g_aload_n dX13_isHere_21 0 0 rfl rfl (g_getI dX13_isHere_22 fl_X13_277 rfl obM_0 (g_icmp_ne dX13_isHere_25 rfl (fun q9 => (g_aload_n dX13_isHere_30 0 0 rfl rfl (g_getI dX13_isHere_31 fl_X13_263 rfl obM_0 (g_istore_n dX13_isHere_34 rfl (by decide) rfl (g_sub [1, 2, 0] rfl ((h10.2 q8).1 q9)))))) (fun q9 => (g_iconst dX13_isHere_28 kc_0 (g_zreturn dX13_isHere_29 rfl (narZ (by decide)) ⟨_, rfl, ((h10.2 q8).2 q9)⟩)))))))))))))))))))))
theorem bX13_isHere_35 {d : Nat}  {a1 n1 : Nat} (ha1 : z_Ar wM a1 2 n1) {v2 : Int32} {I : Ii} {J : Jj} {K : KI}
    (h : (((I 0 3) ≤ v2) → ((((v2 - (I 0 2)) = (Int32.ofNat n1)) → (GoI wM (d + 1) mX13_isHere 76 [(0, .ref (0)), (1, .ref (a1)), (3, .int (0))] [] I J K)) ∧ ((¬ (v2 - (I 0 2)) = (Int32.ofNat n1)) → (K (0) I J)))) ∧ ((¬ (I 0 3) ≤ v2) → (vp_in (v2) 1600 ∧ (CalI wM d mX13_isLetter [.int (I 1 v2.toNatClampNeg)] I J (fun x6 I4 J5 => (((x6 = 0) → ((((v2 - (I4 0 2)) = (Int32.ofNat n1)) → (GoI wM (d + 1) mX13_isHere 76 [(0, .ref (0)), (1, .ref (a1)), (3, .int (0))] [] I4 J5 K)) ∧ ((¬ (v2 - (I4 0 2)) = (Int32.ofNat n1)) → (K (0) I4 J5)))) ∧ ((¬ x6 = 0) → (GoI wM (d + 1) mX13_isHere 35 [(0, .ref (0)), (1, .ref (a1)), (2, .int (v2 + 1))] [] I4 J5 K)))))))) :
    GoI wM (d + 1) mX13_isHere 35 [(0, .ref (0)), (1, .ref (a1)), (2, .int (v2))] [] I J K :=
  (g_iload_n dX13_isHere_35 2 2 rfl rfl (g_aload_n dX13_isHere_36 0 0 rfl rfl (g_getI dX13_isHere_37 fl_X13_266 rfl obM_0 (g_icmp_ge dX13_isHere_40 rfl (fun q1 => (g_iload_n dX13_isHere_61 2 2 rfl rfl (g_aload_n dX13_isHere_62 0 0 rfl rfl (g_getI dX13_isHere_63 fl_X13_263 rfl obM_0 (g_isub dX13_isHere_66 (g_aload_n dX13_isHere_67 1 1 rfl rfl (g_alen (t := 1) dX13_isHere_68 ha1 (by decide) (g_icmp_eq dX13_isHere_69 rfl (fun q2 => (g_iconst dX13_isHere_74 kc_0 (g_istore_n dX13_isHere_75 rfl (by decide) rfl (g_sub [1, 2, 0] rfl ((h.1 q1).1 q2))))) (fun q2 => (g_iconst dX13_isHere_72 kc_0 (g_zreturn dX13_isHere_73 rfl (narZ (by decide)) ⟨_, rfl, ((h.1 q1).2 q2)⟩))))))))))) (fun q1 => (g_aload_n dX13_isHere_43 0 0 rfl rfl (g_getP dX13_isHere_44 fl_X13_7 rfl obM_0 rfl (g_iload_n dX13_isHere_47 2 2 rfl rfl (have b3 := (h.2 q1).1; g_iald dX13_isHere_48 arM_1 b3 (g_callsI dX13_isHere_49 ml_X13_273 md_X13_isLetter ms_X13_isLetter rfl rfl (Nat.le_of_ble_eq_true rfl) (CalI.mono (h.2 q1).2 (fun x6 I4 J5 h9 => (g_if_eq dX13_isHere_52 rfl (fun q7 => (g_iload_n dX13_isHere_61 2 2 rfl rfl (g_aload_n dX13_isHere_62 0 0 rfl rfl (g_getI dX13_isHere_63 fl_X13_263 rfl obM_0 (g_isub dX13_isHere_66 (g_aload_n dX13_isHere_67 1 1 rfl rfl (g_alen (t := 1) dX13_isHere_68 ha1 (by decide) (g_icmp_eq dX13_isHere_69 rfl (fun q8 => (g_iconst dX13_isHere_74 kc_0 (g_istore_n dX13_isHere_75 rfl (by decide) rfl (g_sub [1, 2, 0] rfl ((h9.1 q7).1 q8))))) (fun q8 => (g_iconst dX13_isHere_72 kc_0 (g_zreturn dX13_isHere_73 rfl (narZ (by decide)) ⟨_, rfl, ((h9.1 q7).2 q8)⟩))))))))))) (fun q7 => (g_iinc dX13_isHere_55 2 rfl rfl (by decide) rfl (g_goto dX13_isHere_58 rfl (g_sub [1, 2, 0] rfl (h9.2 q7))))))))))))))))))
theorem bX13_isHere_76 {d : Nat}  {a1 n1 : Nat} (ha1 : z_Ar wM a1 2 n1) {v3 : Int32} {I : Ii} {J : Jj} {K : KI}
    (h : (((Int32.ofNat n1) ≤ v3) → (K (1) I J)) ∧ ((¬ (Int32.ofNat n1) ≤ v3) → (vp_in ((I 0 2) + v3) 1600 ∧ (vp_in (v3) n1 ∧ ((((I 1 ((I 0 2) + v3).toNatClampNeg) = (I a1 v3.toNatClampNeg)) → (GoI wM (d + 1) mX13_isHere 76 [(0, .ref (0)), (1, .ref (a1)), (3, .int (v3 + 1))] [] I J K)) ∧ ((¬ (I 1 ((I 0 2) + v3).toNatClampNeg) = (I a1 v3.toNatClampNeg)) → (K (0) I J))))))) :
    GoI wM (d + 1) mX13_isHere 76 [(0, .ref (0)), (1, .ref (a1)), (3, .int (v3))] [] I J K :=
  (g_iload_n dX13_isHere_76 2 3 rfl rfl (g_aload_n dX13_isHere_77 1 1 rfl rfl (g_alen (t := 1) dX13_isHere_78 ha1 (by decide) (g_icmp_ge dX13_isHere_79 rfl (fun q1 => (g_iconst dX13_isHere_107 kc_1 (g_zreturn dX13_isHere_108 rfl (narZ (by decide)) ⟨_, rfl, (h.1 q1)⟩))) (fun q1 => (g_aload_n dX13_isHere_82 0 0 rfl rfl (g_getP dX13_isHere_83 fl_X13_7 rfl obM_0 rfl (g_aload_n dX13_isHere_86 0 0 rfl rfl (g_getI dX13_isHere_87 fl_X13_263 rfl obM_0 (g_iload_n dX13_isHere_90 2 3 rfl rfl (g_iadd dX13_isHere_91 (have b2 := (h.2 q1).1; g_iald dX13_isHere_92 arM_1 b2 (g_aload_n dX13_isHere_93 1 1 rfl rfl (g_iload_n dX13_isHere_94 2 3 rfl rfl (have b3 := (h.2 q1).2.1; g_cald dX13_isHere_95 ha1 b3 (g_icmp_eq dX13_isHere_96 rfl (fun q4 => (g_iinc dX13_isHere_101 2 rfl rfl (by decide) rfl (g_goto dX13_isHere_104 rfl (g_sub [1, 2, 0] rfl ((h.2 q1).2.2.1 q4))))) (fun q4 => (g_iconst dX13_isHere_99 kc_0 (g_zreturn dX13_isHere_100 rfl (narZ (by decide)) ⟨_, rfl, ((h.2 q1).2.2.2 q4)⟩)))))))))))))))))))
theorem dX13_isLetter_0 : decode cX13_isLetter 0 = .ok (.iload_n 0, 1) := by decide +kernel
theorem dX13_isLetter_1 : decode cX13_isLetter 1 = .ok (.bipush 97, 2) := by decide +kernel
theorem dX13_isLetter_3 : decode cX13_isLetter 3 = .ok (.if_icmp .lt 13, 3) := by decide +kernel
theorem dX13_isLetter_6 : decode cX13_isLetter 6 = .ok (.iload_n 0, 1) := by decide +kernel
theorem dX13_isLetter_7 : decode cX13_isLetter 7 = .ok (.bipush 122, 2) := by decide +kernel
theorem dX13_isLetter_9 : decode cX13_isLetter 9 = .ok (.if_icmp .gt 7, 3) := by decide +kernel
theorem dX13_isLetter_12 : decode cX13_isLetter 12 = .ok (.iconst 1, 1) := by decide +kernel
theorem dX13_isLetter_13 : decode cX13_isLetter 13 = .ok (.goto 4, 3) := by decide +kernel
theorem dX13_isLetter_16 : decode cX13_isLetter 16 = .ok (.iconst 0, 1) := by decide +kernel
theorem dX13_isLetter_17 : decode cX13_isLetter 17 = .ok (.ireturn, 1) := by decide +kernel
theorem bX13_isLetter_0 {d : Nat}  {v0 : Int32} {I : Ii} {J : Jj} {K : KI}
    (h : ((v0 < 97) → (K (0) I J)) ∧ ((¬ v0 < 97) → (((122 < v0) → (K (0) I J)) ∧ ((¬ 122 < v0) → (K (1) I J))))) :
    GoI wM d mX13_isLetter 0 [(0, .int (v0))] [] I J K :=
  (g_iload_n dX13_isLetter_0 0 0 rfl rfl (g_bipush dX13_isLetter_1 kb_97 (g_icmp_lt dX13_isLetter_3 rfl (fun q1 => (g_iconst dX13_isLetter_16 kc_0 (g_zreturn dX13_isLetter_17 rfl (narZ (by decide)) ⟨_, rfl, (h.1 q1)⟩))) (fun q1 => (g_iload_n dX13_isLetter_6 0 0 rfl rfl (g_bipush dX13_isLetter_7 kb_122 (g_icmp_gt dX13_isLetter_9 rfl (fun q2 => (g_iconst dX13_isLetter_16 kc_0 (g_zreturn dX13_isLetter_17 rfl (narZ (by decide)) ⟨_, rfl, ((h.2 q1).1 q2)⟩))) (fun q2 => (g_iconst dX13_isLetter_12 kc_1 (g_goto dX13_isLetter_13 rfl (g_zreturn dX13_isLetter_17 rfl (narZ (by decide)) ⟨_, rfl, ((h.2 q1).2 q2)⟩)))))))))))
theorem dX13_factTold_0 : decode cX13_factTold 0 = .ok (.aload_n 0, 1) := by decide +kernel
theorem dX13_factTold_1 : decode cX13_factTold 1 = .ok (.iconst 0, 1) := by decide +kernel
theorem dX13_factTold_2 : decode cX13_factTold 2 = .ok (.bipush 8, 2) := by decide +kernel
theorem dX13_factTold_4 : decode cX13_factTold 4 = .ok (.iload_n 1, 1) := by decide +kernel
theorem dX13_factTold_5 : decode cX13_factTold 5 = .ok (.invokevirtual 323, 3) := by decide +kernel
theorem dX13_factTold_8 : decode cX13_factTold 8 = .ok (.ifCond .eq 4, 3) := by decide +kernel
theorem dX13_factTold_11 : decode cX13_factTold 11 = .ok (.return_, 1) := by decide +kernel
theorem dX13_factTold_12 : decode cX13_factTold 12 = .ok (.aload_n 0, 1) := by decide +kernel
theorem dX13_factTold_13 : decode cX13_factTold 13 = .ok (.invokevirtual 327, 3) := by decide +kernel
theorem dX13_factTold_16 : decode cX13_factTold 16 = .ok (.lstore_n 2, 1) := by decide +kernel
theorem dX13_factTold_17 : decode cX13_factTold 17 = .ok (.aload_n 0, 1) := by decide +kernel
theorem dX13_factTold_18 : decode cX13_factTold 18 = .ok (.aload_n 0, 1) := by decide +kernel
theorem dX13_factTold_19 : decode cX13_factTold 19 = .ok (.getfield 24, 3) := by decide +kernel
theorem dX13_factTold_22 : decode cX13_factTold 22 = .ok (.invokevirtual 330, 3) := by decide +kernel
theorem dX13_factTold_25 : decode cX13_factTold 25 = .ok (.aload_n 0, 1) := by decide +kernel
theorem dX13_factTold_26 : decode cX13_factTold 26 = .ok (.iconst 1, 1) := by decide +kernel
theorem dX13_factTold_27 : decode cX13_factTold 27 = .ok (.bipush 9, 2) := by decide +kernel
theorem dX13_factTold_29 : decode cX13_factTold 29 = .ok (.invokevirtual 334, 3) := by decide +kernel
theorem dX13_factTold_32 : decode cX13_factTold 32 = .ok (.istore 4, 2) := by decide +kernel
theorem dX13_factTold_34 : decode cX13_factTold 34 = .ok (.aload_n 0, 1) := by decide +kernel
theorem dX13_factTold_35 : decode cX13_factTold 35 = .ok (.getfield 257, 3) := by decide +kernel
theorem dX13_factTold_38 : decode cX13_factTold 38 = .ok (.ifCond .eq 4, 3) := by decide +kernel
theorem dX13_factTold_41 : decode cX13_factTold 41 = .ok (.return_, 1) := by decide +kernel
theorem dX13_factTold_42 : decode cX13_factTold 42 = .ok (.aload_n 0, 1) := by decide +kernel
theorem dX13_factTold_43 : decode cX13_factTold 43 = .ok (.getfield 108, 3) := by decide +kernel
theorem dX13_factTold_46 : decode cX13_factTold 46 = .ok (.aload_n 0, 1) := by decide +kernel
theorem dX13_factTold_47 : decode cX13_factTold 47 = .ok (.getfield 105, 3) := by decide +kernel
theorem dX13_factTold_50 : decode cX13_factTold 50 = .ok (.iconst 0, 1) := by decide +kernel
theorem dX13_factTold_51 : decode cX13_factTold 51 = .ok (.iaload, 1) := by decide +kernel
theorem dX13_factTold_52 : decode cX13_factTold 52 = .ok (.lload_n 2, 1) := by decide +kernel
theorem dX13_factTold_53 : decode cX13_factTold 53 = .ok (.lastore, 1) := by decide +kernel
theorem dX13_factTold_54 : decode cX13_factTold 54 = .ok (.aload_n 0, 1) := by decide +kernel
theorem dX13_factTold_55 : decode cX13_factTold 55 = .ok (.getfield 112, 3) := by decide +kernel
theorem dX13_factTold_58 : decode cX13_factTold 58 = .ok (.aload_n 0, 1) := by decide +kernel
theorem dX13_factTold_59 : decode cX13_factTold 59 = .ok (.getfield 105, 3) := by decide +kernel
theorem dX13_factTold_62 : decode cX13_factTold 62 = .ok (.iconst 0, 1) := by decide +kernel
theorem dX13_factTold_63 : decode cX13_factTold 63 = .ok (.iaload, 1) := by decide +kernel
theorem dX13_factTold_64 : decode cX13_factTold 64 = .ok (.iload 4, 2) := by decide +kernel
theorem dX13_factTold_66 : decode cX13_factTold 66 = .ok (.iastore, 1) := by decide +kernel
theorem dX13_factTold_67 : decode cX13_factTold 67 = .ok (.aload_n 0, 1) := by decide +kernel
theorem dX13_factTold_68 : decode cX13_factTold 68 = .ok (.getfield 105, 3) := by decide +kernel
theorem dX13_factTold_71 : decode cX13_factTold 71 = .ok (.iconst 0, 1) := by decide +kernel
theorem dX13_factTold_72 : decode cX13_factTold 72 = .ok (.dup2, 1) := by decide +kernel
theorem dX13_factTold_73 : decode cX13_factTold 73 = .ok (.iaload, 1) := by decide +kernel
theorem dX13_factTold_74 : decode cX13_factTold 74 = .ok (.iconst 1, 1) := by decide +kernel
theorem dX13_factTold_75 : decode cX13_factTold 75 = .ok (.iadd, 1) := by decide +kernel
theorem dX13_factTold_76 : decode cX13_factTold 76 = .ok (.iastore, 1) := by decide +kernel
theorem dX13_factTold_77 : decode cX13_factTold 77 = .ok (.return_, 1) := by decide +kernel
theorem bX13_factTold_0 {d : Nat}  {v1 : Int32} {I : Ii} {J : Jj} {K : KV}
    (h : CalI wM d mX13_isFull [.ref (0), .int (0), .int (8), .int (v1)] I J (fun x3 I1 J2 => (((x3 = 0) → (CalL wM d mX13_newName [.ref (0)] I1 J2 (fun x7 I5 J6 => (CalV wM d mX13_asks [.ref (0), .ref (4)] I5 J6 (fun I8 J9 => (CalI wM d mX13_number [.ref (0), .int (1), .int (9)] I8 J9 (fun x12 I10 J11 => ((((I10 0 5) = 0) → (vp_in (I10 31 (0 : Int32).toNatClampNeg) 32 ∧ (vp_in (I10 31 (0 : Int32).toNatClampNeg) 16 ∧ (∀ I18 : Ii, I18 = u2 I10 33 (I10 31 (0 : Int32).toNatClampNeg).toNatClampNeg x12 → (K (u2 I18 31 (0 : Int32).toNatClampNeg ((I18 31 (0 : Int32).toNatClampNeg) + 1)) (w2 J11 32 (I10 31 (0 : Int32).toNatClampNeg).toNatClampNeg x7)))))) ∧ ((¬ (I10 0 5) = 0) → (K I10 J11)))))))))) ∧ ((¬ x3 = 0) → (K I1 J2))))) :
    GoV wM (d + 1) mX13_factTold 0 [(0, .ref (0)), (1, .int (v1))] [] I J K :=
  (g_aload_n dX13_factTold_0 0 0 rfl rfl (g_iconst dX13_factTold_1 kc_0 (g_bipush dX13_factTold_2 kb_8 (g_iload_n dX13_factTold_4 1 1 rfl rfl (g_callvI dX13_factTold_5 ml_X13_323 md_X13_isFull mv_X13_isFull obM_0 rfl rfl rfl (Nat.le_of_ble_eq_true rfl) (CalI.mono h (fun x3 I1 J2 h23 => (g_if_eq dX13_factTold_8 rfl (fun q4 => (g_aload_n dX13_factTold_12 0 0 rfl rfl (g_callvL dX13_factTold_13 ml_X13_327 md_X13_newName mv_X13_newName obM_0 rfl rfl rfl (Nat.le_of_ble_eq_true rfl) (CalL.mono (h23.1 q4) (fun x7 I5 J6 h22 => (g_lstore_n dX13_factTold_16 rfl (by decide) rfl (g_aload_n dX13_factTold_17 1 0 rfl rfl (g_aload_n dX13_factTold_18 1 0 rfl rfl (g_getP dX13_factTold_19 fl_X13_24 rfl obM_0 rfl (g_callvV dX13_factTold_22 ml_X13_330 md_X13_asks mv_X13_asks obM_0 rfl rfl rfl (Nat.le_of_ble_eq_true rfl) (CalV.mono h22 (fun I8 J9 h21 => (g_aload_n dX13_factTold_25 1 0 rfl rfl (g_iconst dX13_factTold_26 kc_1 (g_bipush dX13_factTold_27 kb_9 (g_callvI dX13_factTold_29 ml_X13_334 md_X13_number mv_X13_number obM_0 rfl rfl rfl (Nat.le_of_ble_eq_true rfl) (CalI.mono h21 (fun x12 I10 J11 h20 => (g_istore dX13_factTold_32 (by decide) rfl (g_aload_n dX13_factTold_34 2 0 rfl rfl (g_getI dX13_factTold_35 fl_X13_257 rfl obM_0 (g_if_eq dX13_factTold_38 rfl (fun q13 => (g_aload_n dX13_factTold_42 2 0 rfl rfl (g_getP dX13_factTold_43 fl_X13_108 rfl obM_0 rfl (g_aload_n dX13_factTold_46 2 0 rfl rfl (g_getP dX13_factTold_47 fl_X13_105 rfl obM_0 rfl (g_iconst dX13_factTold_50 kc_0 (g_iald dX13_factTold_51 arM_31 (by unfold vp_in; decide) (g_lload_n dX13_factTold_52 1 2 rfl rfl (have b15 := (h20.1 q13).1; g_last dX13_factTold_53 arM_32 b15 (g_aload_n dX13_factTold_54 2 0 rfl rfl (g_getP dX13_factTold_55 fl_X13_112 rfl obM_0 rfl (g_aload_n dX13_factTold_58 2 0 rfl rfl (g_getP dX13_factTold_59 fl_X13_105 rfl obM_0 rfl (g_iconst dX13_factTold_62 kc_0 (g_iald dX13_factTold_63 arM_31 (by unfold vp_in; decide) (g_iload dX13_factTold_64 0 rfl (have b17 := (h20.1 q13).2.1; g_iast dX13_factTold_66 arM_33 b17 (g_aload_n dX13_factTold_67 2 0 rfl rfl (g_getP dX13_factTold_68 fl_X13_105 rfl obM_0 rfl (g_iconst dX13_factTold_71 kc_0 (g_dup2_11 dX13_factTold_72 rfl rfl (g_iald dX13_factTold_73 arM_31 (by unfold vp_in; decide) (g_iconst dX13_factTold_74 kc_1 (g_iadd dX13_factTold_75 (g_iast dX13_factTold_76 arM_31 (by unfold vp_in; decide) (g_return dX13_factTold_77 rfl ⟨rfl, ((h20.1 q13).2.2 _ rfl)⟩)))))))))))))))))))))))))) (fun q13 => (g_return dX13_factTold_41 rfl ⟨rfl, (h20.2 q13)⟩)))))))))))))))))))))))) (fun q4 => (g_return dX13_factTold_11 rfl ⟨rfl, (h23.2 q4)⟩))))))))))
theorem dX13_isFull_0 : decode cX13_isFull 0 = .ok (.aload_n 0, 1) := by decide +kernel
theorem dX13_isFull_1 : decode cX13_isFull 1 = .ok (.getfield 257, 3) := by decide +kernel
theorem dX13_isFull_4 : decode cX13_isFull 4 = .ok (.ifCond .ne 19, 3) := by decide +kernel
theorem dX13_isFull_7 : decode cX13_isFull 7 = .ok (.aload_n 0, 1) := by decide +kernel
theorem dX13_isFull_8 : decode cX13_isFull 8 = .ok (.getfield 105, 3) := by decide +kernel
theorem dX13_isFull_11 : decode cX13_isFull 11 = .ok (.iload_n 1, 1) := by decide +kernel
theorem dX13_isFull_12 : decode cX13_isFull 12 = .ok (.iaload, 1) := by decide +kernel
theorem dX13_isFull_13 : decode cX13_isFull 13 = .ok (.iload_n 2, 1) := by decide +kernel
theorem dX13_isFull_14 : decode cX13_isFull 14 = .ok (.if_icmp .ne 9, 3) := by decide +kernel
theorem dX13_isFull_17 : decode cX13_isFull 17 = .ok (.aload_n 0, 1) := by decide +kernel
theorem dX13_isFull_18 : decode cX13_isFull 18 = .ok (.iconst 5, 1) := by decide +kernel
theorem dX13_isFull_19 : decode cX13_isFull 19 = .ok (.iload_n 3, 1) := by decide +kernel
theorem dX13_isFull_20 : decode cX13_isFull 20 = .ok (.invokevirtual 287, 3) := by decide +kernel
theorem dX13_isFull_23 : decode cX13_isFull 23 = .ok (.aload_n 0, 1) := by decide +kernel
theorem dX13_isFull_24 : decode cX13_isFull 24 = .ok (.getfield 257, 3) := by decide +kernel
theorem dX13_isFull_27 : decode cX13_isFull 27 = .ok (.ifCond .eq 7, 3) := by decide +kernel
theorem dX13_isFull_30 : decode cX13_isFull 30 = .ok (.iconst 1, 1) := by decide +kernel
theorem dX13_isFull_31 : decode cX13_isFull 31 = .ok (.goto 4, 3) := by decide +kernel
theorem dX13_isFull_34 : decode cX13_isFull 34 = .ok (.iconst 0, 1) := by decide +kernel
theorem dX13_isFull_35 : decode cX13_isFull 35 = .ok (.ireturn, 1) := by decide +kernel
theorem bX13_isFull_0 {d : Nat}  {v1 : Int32} {v2 : Int32} {v3 : Int32} {I : Ii} {J : Jj} {K : KI}
    (h : ((¬ (I 0 5) = 0) → (K (1) I J)) ∧ (((I 0 5) = 0) → (vp_in (v1) 4 ∧ (((¬ (I 31 v1.toNatClampNeg) = v2) → (K (0) I J)) ∧ (((I 31 v1.toNatClampNeg) = v2) → (CalV wM d mX13_fail [.ref (0), .int (5), .int (v3)] I J (fun I4 J5 => ((((I4 0 5) = 0) → (K (0) I4 J5)) ∧ ((¬ (I4 0 5) = 0) → (K (1) I4 J5)))))))))) :
    GoI wM (d + 1) mX13_isFull 0 [(0, .ref (0)), (1, .int (v1)), (2, .int (v2)), (3, .int (v3))] [] I J K :=
  (g_aload_n dX13_isFull_0 0 0 rfl rfl (g_getI dX13_isFull_1 fl_X13_257 rfl obM_0 (g_if_ne dX13_isFull_4 rfl (fun q1 => (g_aload_n dX13_isFull_23 0 0 rfl rfl (g_getI dX13_isFull_24 fl_X13_257 rfl obM_0 (g_if_eq dX13_isFull_27 rfl (fun q => absurd q q1) (fun _ => (g_iconst dX13_isFull_30 kc_1 (g_goto dX13_isFull_31 rfl (g_zreturn dX13_isFull_35 rfl (narZ (by decide)) ⟨_, rfl, (h.1 q1)⟩)))))))) (fun q1 => (g_aload_n dX13_isFull_7 0 0 rfl rfl (g_getP dX13_isFull_8 fl_X13_105 rfl obM_0 rfl (g_iload_n dX13_isFull_11 1 1 rfl rfl (have b2 := (h.2 q1).1; g_iald dX13_isFull_12 arM_31 b2 (g_iload_n dX13_isFull_13 2 2 rfl rfl (g_icmp_ne dX13_isFull_14 rfl (fun q3 => (g_aload_n dX13_isFull_23 0 0 rfl rfl (g_getI dX13_isFull_24 fl_X13_257 rfl obM_0 (g_if_eq dX13_isFull_27 rfl (fun _ => (g_iconst dX13_isFull_34 kc_0 (g_zreturn dX13_isFull_35 rfl (narZ (by decide)) ⟨_, rfl, ((h.2 q1).2.1 q3)⟩))) (fun q => absurd q1 q))))) (fun q3 => (g_aload_n dX13_isFull_17 0 0 rfl rfl (g_iconst dX13_isFull_18 kc_5 (g_iload_n dX13_isFull_19 3 3 rfl rfl (g_callvV dX13_isFull_20 ml_X13_287 md_X13_fail mv_X13_fail obM_0 rfl rfl rfl (Nat.le_of_ble_eq_true rfl) (CalV.mono ((h.2 q1).2.2 q3) (fun I4 J5 h7 => (g_aload_n dX13_isFull_23 0 0 rfl rfl (g_getI dX13_isFull_24 fl_X13_257 rfl obM_0 (g_if_eq dX13_isFull_27 rfl (fun q6 => (g_iconst dX13_isFull_34 kc_0 (g_zreturn dX13_isFull_35 rfl (narZ (by decide)) ⟨_, rfl, (h7.1 q6)⟩))) (fun q6 => (g_iconst dX13_isFull_30 kc_1 (g_goto dX13_isFull_31 rfl (g_zreturn dX13_isFull_35 rfl (narZ (by decide)) ⟨_, rfl, (h7.2 q6)⟩))))))))))))))))))))))))
theorem dX13_newName_0 : decode cX13_newName 0 = .ok (.aload_n 0, 1) := by decide +kernel
theorem dX13_newName_1 : decode cX13_newName 1 = .ok (.invokevirtual 315, 3) := by decide +kernel
theorem dX13_newName_4 : decode cX13_newName 4 = .ok (.lstore_n 1, 1) := by decide +kernel
theorem dX13_newName_5 : decode cX13_newName 5 = .ok (.iconst 0, 1) := by decide +kernel
theorem dX13_newName_6 : decode cX13_newName 6 = .ok (.istore_n 3, 1) := by decide +kernel
theorem dX13_newName_7 : decode cX13_newName 7 = .ok (.iload_n 3, 1) := by decide +kernel
theorem dX13_newName_8 : decode cX13_newName 8 = .ok (.iconst 2, 1) := by decide +kernel
theorem dX13_newName_9 : decode cX13_newName 9 = .ok (.if_icmp .ge 35, 3) := by decide +kernel
theorem dX13_newName_12 : decode cX13_newName 12 = .ok (.aload_n 0, 1) := by decide +kernel
theorem dX13_newName_13 : decode cX13_newName 13 = .ok (.getfield 257, 3) := by decide +kernel
theorem dX13_newName_16 : decode cX13_newName 16 = .ok (.ifCond .ne 22, 3) := by decide +kernel
theorem dX13_newName_19 : decode cX13_newName 19 = .ok (.aload_n 0, 1) := by decide +kernel
theorem dX13_newName_20 : decode cX13_newName 20 = .ok (.iload_n 3, 1) := by decide +kernel
theorem dX13_newName_21 : decode cX13_newName 21 = .ok (.lload_n 1, 1) := by decide +kernel
theorem dX13_newName_22 : decode cX13_newName 22 = .ok (.invokevirtual 319, 3) := by decide +kernel
theorem dX13_newName_25 : decode cX13_newName 25 = .ok (.iconst (-1), 1) := by decide +kernel
theorem dX13_newName_26 : decode cX13_newName 26 = .ok (.if_icmp .eq 12, 3) := by decide +kernel
theorem dX13_newName_29 : decode cX13_newName 29 = .ok (.aload_n 0, 1) := by decide +kernel
theorem dX13_newName_30 : decode cX13_newName 30 = .ok (.iconst 3, 1) := by decide +kernel
theorem dX13_newName_31 : decode cX13_newName 31 = .ok (.aload_n 0, 1) := by decide +kernel
theorem dX13_newName_32 : decode cX13_newName 32 = .ok (.getfield 305, 3) := by decide +kernel
theorem dX13_newName_35 : decode cX13_newName 35 = .ok (.invokevirtual 287, 3) := by decide +kernel
theorem dX13_newName_38 : decode cX13_newName 38 = .ok (.iinc 3 1, 3) := by decide +kernel
theorem dX13_newName_41 : decode cX13_newName 41 = .ok (.goto (-34), 3) := by decide +kernel
theorem dX13_newName_44 : decode cX13_newName 44 = .ok (.lload_n 1, 1) := by decide +kernel
theorem dX13_newName_45 : decode cX13_newName 45 = .ok (.lreturn, 1) := by decide +kernel
theorem bX13_newName_0 {d : Nat}   {I : Ii} {J : Jj} {K : KL}
    (h : CalL wM d mX13_name [.ref (0)] I J (fun x3 I1 J2 => (GoL wM (d + 1) mX13_newName 7 [(0, .ref (0)), (1, .long (x3)), (3, .int (0))] [] I1 J2 K))) :
    GoL wM (d + 1) mX13_newName 0 [(0, .ref (0))] [] I J K :=
  (g_aload_n dX13_newName_0 0 0 rfl rfl (g_callvL dX13_newName_1 ml_X13_315 md_X13_name mv_X13_name obM_0 rfl rfl rfl (Nat.le_of_ble_eq_true rfl) (CalL.mono h (fun x3 I1 J2 h4 => (g_lstore_n dX13_newName_4 rfl (by decide) rfl (g_iconst dX13_newName_5 kc_0 (g_istore_n dX13_newName_6 rfl (by decide) rfl (g_sub [2, 1, 0] rfl h4))))))))
theorem bX13_newName_7 {d : Nat}  {v1 : Int64} {v3 : Int32} {I : Ii} {J : Jj} {K : KL}
    (h : ((2 ≤ v3) → (K (v1) I J)) ∧ ((¬ 2 ≤ v3) → (((¬ (I 0 5) = 0) → (GoL wM (d + 1) mX13_newName 7 [(0, .ref (0)), (1, .long (v1)), (3, .int (v3 + 1))] [] I J K)) ∧ (((I 0 5) = 0) → (CalI wM d mX13_nameOf [.ref (0), .int (v3), .long (v1)] I J (fun x5 I3 J4 => (((x5 = ((-1))) → (GoL wM (d + 1) mX13_newName 7 [(0, .ref (0)), (1, .long (v1)), (3, .int (v3 + 1))] [] I3 J4 K)) ∧ ((¬ x5 = ((-1))) → (CalV wM d mX13_fail [.ref (0), .int (3), .int (I3 0 38)] I3 J4 (fun I7 J8 => (GoL wM (d + 1) mX13_newName 7 [(0, .ref (0)), (1, .long (v1)), (3, .int (v3 + 1))] [] I7 J8 K))))))))))) :
    GoL wM (d + 1) mX13_newName 7 [(0, .ref (0)), (1, .long (v1)), (3, .int (v3))] [] I J K :=
  (g_iload_n dX13_newName_7 2 3 rfl rfl (g_iconst dX13_newName_8 kc_2 (g_icmp_ge dX13_newName_9 rfl (fun q1 => (g_lload_n dX13_newName_44 1 1 rfl rfl (g_lreturn dX13_newName_45 rfl ⟨_, rfl, (h.1 q1)⟩))) (fun q1 => (g_aload_n dX13_newName_12 0 0 rfl rfl (g_getI dX13_newName_13 fl_X13_257 rfl obM_0 (g_if_ne dX13_newName_16 rfl (fun q2 => (g_iinc dX13_newName_38 2 rfl rfl (by decide) rfl (g_goto dX13_newName_41 rfl (g_sub [1, 2, 0] rfl ((h.2 q1).1 q2))))) (fun q2 => (g_aload_n dX13_newName_19 0 0 rfl rfl (g_iload_n dX13_newName_20 2 3 rfl rfl (g_lload_n dX13_newName_21 1 1 rfl rfl (g_callvI dX13_newName_22 ml_X13_319 md_X13_nameOf mv_X13_nameOf obM_0 rfl rfl rfl (Nat.le_of_ble_eq_true rfl) (CalI.mono ((h.2 q1).2 q2) (fun x5 I3 J4 h10 => (g_iconst dX13_newName_25 kc_n1 (g_icmp_eq dX13_newName_26 rfl (fun q6 => (g_iinc dX13_newName_38 2 rfl rfl (by decide) rfl (g_goto dX13_newName_41 rfl (g_sub [1, 2, 0] rfl (h10.1 q6))))) (fun q6 => (g_aload_n dX13_newName_29 0 0 rfl rfl (g_iconst dX13_newName_30 kc_3 (g_aload_n dX13_newName_31 0 0 rfl rfl (g_getI dX13_newName_32 fl_X13_305 rfl obM_0 (g_callvV dX13_newName_35 ml_X13_287 md_X13_fail mv_X13_fail obM_0 rfl rfl rfl (Nat.le_of_ble_eq_true rfl) (CalV.mono (h10.2 q6) (fun I7 J8 h9 => (g_iinc dX13_newName_38 2 rfl rfl (by decide) rfl (g_goto dX13_newName_41 rfl (g_sub [1, 2, 0] rfl h9)))))))))))))))))))))))))))
theorem dX13_name_0 : decode cX13_name 0 = .ok (.aload_n 0, 1) := by decide +kernel
theorem dX13_name_1 : decode cX13_name 1 = .ok (.getfield 257, 3) := by decide +kernel
theorem dX13_name_4 : decode cX13_name 4 = .ok (.ifCond .eq 5, 3) := by decide +kernel
theorem dX13_name_7 : decode cX13_name 7 = .ok (.lconst 0, 1) := by decide +kernel
theorem dX13_name_8 : decode cX13_name 8 = .ok (.lreturn, 1) := by decide +kernel
theorem dX13_name_9 : decode cX13_name 9 = .ok (.aload_n 0, 1) := by decide +kernel
theorem dX13_name_10 : decode cX13_name 10 = .ok (.invokevirtual 269, 3) := by decide +kernel
theorem dX13_name_13 : decode cX13_name 13 = .ok (.invokestatic 273, 3) := by decide +kernel
theorem dX13_name_16 : decode cX13_name 16 = .ok (.ifCond .eq 21, 3) := by decide +kernel
theorem dX13_name_19 : decode cX13_name 19 = .ok (.aload_n 0, 1) := by decide +kernel
theorem dX13_name_20 : decode cX13_name 20 = .ok (.getfield 263, 3) := by decide +kernel
theorem dX13_name_23 : decode cX13_name 23 = .ok (.aload_n 0, 1) := by decide +kernel
theorem dX13_name_24 : decode cX13_name 24 = .ok (.getfield 277, 3) := by decide +kernel
theorem dX13_name_27 : decode cX13_name 27 = .ok (.if_icmp .eq 10, 3) := by decide +kernel
theorem dX13_name_30 : decode cX13_name 30 = .ok (.aload_n 0, 1) := by decide +kernel
theorem dX13_name_31 : decode cX13_name 31 = .ok (.invokevirtual 301, 3) := by decide +kernel
theorem dX13_name_34 : decode cX13_name 34 = .ok (.ifCond .eq 14, 3) := by decide +kernel
theorem dX13_name_37 : decode cX13_name 37 = .ok (.aload_n 0, 1) := by decide +kernel
theorem dX13_name_38 : decode cX13_name 38 = .ok (.iconst 1, 1) := by decide +kernel
theorem dX13_name_39 : decode cX13_name 39 = .ok (.aload_n 0, 1) := by decide +kernel
theorem dX13_name_40 : decode cX13_name 40 = .ok (.getfield 263, 3) := by decide +kernel
theorem dX13_name_43 : decode cX13_name 43 = .ok (.invokevirtual 287, 3) := by decide +kernel
theorem dX13_name_46 : decode cX13_name 46 = .ok (.lconst 0, 1) := by decide +kernel
theorem dX13_name_47 : decode cX13_name 47 = .ok (.lreturn, 1) := by decide +kernel
theorem dX13_name_48 : decode cX13_name 48 = .ok (.aload_n 0, 1) := by decide +kernel
theorem dX13_name_49 : decode cX13_name 49 = .ok (.aload_n 0, 1) := by decide +kernel
theorem dX13_name_50 : decode cX13_name 50 = .ok (.getfield 263, 3) := by decide +kernel
theorem dX13_name_53 : decode cX13_name 53 = .ok (.putfield 305, 3) := by decide +kernel
theorem dX13_name_56 : decode cX13_name 56 = .ok (.lconst 0, 1) := by decide +kernel
theorem dX13_name_57 : decode cX13_name 57 = .ok (.lstore_n 1, 1) := by decide +kernel
theorem dX13_name_58 : decode cX13_name 58 = .ok (.aload_n 0, 1) := by decide +kernel
theorem dX13_name_59 : decode cX13_name 59 = .ok (.getfield 263, 3) := by decide +kernel
theorem dX13_name_62 : decode cX13_name 62 = .ok (.aload_n 0, 1) := by decide +kernel
theorem dX13_name_63 : decode cX13_name 63 = .ok (.getfield 266, 3) := by decide +kernel
theorem dX13_name_66 : decode cX13_name 66 = .ok (.if_icmp .ge 79, 3) := by decide +kernel
theorem dX13_name_69 : decode cX13_name 69 = .ok (.aload_n 0, 1) := by decide +kernel
theorem dX13_name_70 : decode cX13_name 70 = .ok (.getfield 7, 3) := by decide +kernel
theorem dX13_name_73 : decode cX13_name 73 = .ok (.aload_n 0, 1) := by decide +kernel
theorem dX13_name_74 : decode cX13_name 74 = .ok (.getfield 263, 3) := by decide +kernel
theorem dX13_name_77 : decode cX13_name 77 = .ok (.iaload, 1) := by decide +kernel
theorem dX13_name_78 : decode cX13_name 78 = .ok (.invokestatic 273, 3) := by decide +kernel
theorem dX13_name_81 : decode cX13_name 81 = .ok (.ifCond .eq 64, 3) := by decide +kernel
theorem dX13_name_84 : decode cX13_name 84 = .ok (.aload_n 0, 1) := by decide +kernel
theorem dX13_name_85 : decode cX13_name 85 = .ok (.getfield 263, 3) := by decide +kernel
theorem dX13_name_88 : decode cX13_name 88 = .ok (.aload_n 0, 1) := by decide +kernel
theorem dX13_name_89 : decode cX13_name 89 = .ok (.getfield 305, 3) := by decide +kernel
theorem dX13_name_92 : decode cX13_name 92 = .ok (.isub, 1) := by decide +kernel
theorem dX13_name_93 : decode cX13_name 93 = .ok (.bipush 6, 2) := by decide +kernel
theorem dX13_name_95 : decode cX13_name 95 = .ok (.if_icmp .ne 14, 3) := by decide +kernel
theorem dX13_name_98 : decode cX13_name 98 = .ok (.aload_n 0, 1) := by decide +kernel
theorem dX13_name_99 : decode cX13_name 99 = .ok (.iconst 1, 1) := by decide +kernel
theorem dX13_name_100 : decode cX13_name 100 = .ok (.aload_n 0, 1) := by decide +kernel
theorem dX13_name_101 : decode cX13_name 101 = .ok (.getfield 263, 3) := by decide +kernel
theorem dX13_name_104 : decode cX13_name 104 = .ok (.invokevirtual 287, 3) := by decide +kernel
theorem dX13_name_107 : decode cX13_name 107 = .ok (.lconst 0, 1) := by decide +kernel
theorem dX13_name_108 : decode cX13_name 108 = .ok (.lreturn, 1) := by decide +kernel
theorem dX13_name_109 : decode cX13_name 109 = .ok (.ldc2_w 308, 3) := by decide +kernel
theorem dX13_name_112 : decode cX13_name 112 = .ok (.lload_n 1, 1) := by decide +kernel
theorem dX13_name_113 : decode cX13_name 113 = .ok (.lmul, 1) := by decide +kernel
theorem dX13_name_114 : decode cX13_name 114 = .ok (.aload_n 0, 1) := by decide +kernel
theorem dX13_name_115 : decode cX13_name 115 = .ok (.getfield 7, 3) := by decide +kernel
theorem dX13_name_118 : decode cX13_name 118 = .ok (.aload_n 0, 1) := by decide +kernel
theorem dX13_name_119 : decode cX13_name 119 = .ok (.getfield 263, 3) := by decide +kernel
theorem dX13_name_122 : decode cX13_name 122 = .ok (.iaload, 1) := by decide +kernel
theorem dX13_name_123 : decode cX13_name 123 = .ok (.i2l, 1) := by decide +kernel
theorem dX13_name_124 : decode cX13_name 124 = .ok (.ladd, 1) := by decide +kernel
theorem dX13_name_125 : decode cX13_name 125 = .ok (.ldc2_w 310, 3) := by decide +kernel
theorem dX13_name_128 : decode cX13_name 128 = .ok (.lsub, 1) := by decide +kernel
theorem dX13_name_129 : decode cX13_name 129 = .ok (.lconst 1, 1) := by decide +kernel
theorem dX13_name_130 : decode cX13_name 130 = .ok (.ladd, 1) := by decide +kernel
theorem dX13_name_131 : decode cX13_name 131 = .ok (.lstore_n 1, 1) := by decide +kernel
theorem dX13_name_132 : decode cX13_name 132 = .ok (.aload_n 0, 1) := by decide +kernel
theorem dX13_name_133 : decode cX13_name 133 = .ok (.dup, 1) := by decide +kernel
theorem dX13_name_134 : decode cX13_name 134 = .ok (.getfield 263, 3) := by decide +kernel
theorem dX13_name_137 : decode cX13_name 137 = .ok (.iconst 1, 1) := by decide +kernel
theorem dX13_name_138 : decode cX13_name 138 = .ok (.iadd, 1) := by decide +kernel
theorem dX13_name_139 : decode cX13_name 139 = .ok (.putfield 263, 3) := by decide +kernel
theorem dX13_name_142 : decode cX13_name 142 = .ok (.goto (-84), 3) := by decide +kernel
theorem dX13_name_145 : decode cX13_name 145 = .ok (.aload_n 0, 1) := by decide +kernel
theorem dX13_name_146 : decode cX13_name 146 = .ok (.aload_n 0, 1) := by decide +kernel
theorem dX13_name_147 : decode cX13_name 147 = .ok (.getfield 263, 3) := by decide +kernel
theorem dX13_name_150 : decode cX13_name 150 = .ok (.putfield 277, 3) := by decide +kernel
theorem dX13_name_153 : decode cX13_name 153 = .ok (.lload_n 1, 1) := by decide +kernel
theorem dX13_name_154 : decode cX13_name 154 = .ok (.lreturn, 1) := by decide +kernel
theorem bX13_name_0 {d : Nat}   {I : Ii} {J : Jj} {K : KL}
    (h : (((I 0 5) = 0) → (CalI wM d mX13_look [.ref (0)] I J (fun x4 I2 J3 => (CalI wM d mX13_isLetter [.int (x4)] I2 J3 (fun x7 I5 J6 => (((x7 = 0) → (CalV wM d mX13_fail [.ref (0), .int (1), .int (I5 0 2)] I5 J6 (fun I9 J10 => (K (0) I9 J10)))) ∧ ((¬ x7 = 0) → ((((I5 0 2) = (I5 0 4)) → (CalV wM d mX13_fail [.ref (0), .int (1), .int (I5 0 2)] I5 J6 (fun I13 J14 => (K (0) I13 J14)))) ∧ ((¬ (I5 0 2) = (I5 0 4)) → (CalI wM d mX13_isOwnHere [.ref (0)] I5 J6 (fun x18 I16 J17 => (((x18 = 0) → (GoL wM (d + 1) mX13_name 58 [(0, .ref (0)), (1, .long (0))] [] (u2 I16 0 38 (I16 0 2)) J17 K)) ∧ ((¬ x18 = 0) → (CalV wM d mX13_fail [.ref (0), .int (1), .int (I16 0 2)] I16 J17 (fun I21 J22 => (K (0) I21 J22)))))))))))))))) ∧ ((¬ (I 0 5) = 0) → (K (0) I J))) :
    GoL wM (d + 1) mX13_name 0 [(0, .ref (0))] [] I J K :=
  (g_aload_n dX13_name_0 0 0 rfl rfl (g_getI dX13_name_1 fl_X13_257 rfl obM_0 (g_if_eq dX13_name_4 rfl (fun q1 => (g_aload_n dX13_name_9 0 0 rfl rfl (g_callvI dX13_name_10 ml_X13_269 md_X13_look mv_X13_look obM_0 rfl rfl rfl (Nat.le_of_ble_eq_true rfl) (CalI.mono (h.1 q1) (fun x4 I2 J3 h26 => (g_callsI dX13_name_13 ml_X13_273 md_X13_isLetter ms_X13_isLetter rfl rfl (Nat.le_of_ble_eq_true rfl) (CalI.mono h26 (fun x7 I5 J6 h25 => (g_if_eq dX13_name_16 rfl (fun q8 => (g_aload_n dX13_name_37 0 0 rfl rfl (g_iconst dX13_name_38 kc_1 (g_aload_n dX13_name_39 0 0 rfl rfl (g_getI dX13_name_40 fl_X13_263 rfl obM_0 (g_callvV dX13_name_43 ml_X13_287 md_X13_fail mv_X13_fail obM_0 rfl rfl rfl (Nat.le_of_ble_eq_true rfl) (CalV.mono (h25.1 q8) (fun I9 J10 h11 => (g_lconst dX13_name_46 kq_0 (g_lreturn dX13_name_47 rfl ⟨_, rfl, h11⟩)))))))))) (fun q8 => (g_aload_n dX13_name_19 0 0 rfl rfl (g_getI dX13_name_20 fl_X13_263 rfl obM_0 (g_aload_n dX13_name_23 0 0 rfl rfl (g_getI dX13_name_24 fl_X13_277 rfl obM_0 (g_icmp_eq dX13_name_27 rfl (fun q12 => (g_aload_n dX13_name_37 0 0 rfl rfl (g_iconst dX13_name_38 kc_1 (g_aload_n dX13_name_39 0 0 rfl rfl (g_getI dX13_name_40 fl_X13_263 rfl obM_0 (g_callvV dX13_name_43 ml_X13_287 md_X13_fail mv_X13_fail obM_0 rfl rfl rfl (Nat.le_of_ble_eq_true rfl) (CalV.mono ((h25.2 q8).1 q12) (fun I13 J14 h15 => (g_lconst dX13_name_46 kq_0 (g_lreturn dX13_name_47 rfl ⟨_, rfl, h15⟩)))))))))) (fun q12 => (g_aload_n dX13_name_30 0 0 rfl rfl (g_callvI dX13_name_31 ml_X13_301 md_X13_isOwnHere mv_X13_isOwnHere obM_0 rfl rfl rfl (Nat.le_of_ble_eq_true rfl) (CalI.mono ((h25.2 q8).2 q12) (fun x18 I16 J17 h24 => (g_if_eq dX13_name_34 rfl (fun q19 => (g_aload_n dX13_name_48 0 0 rfl rfl (g_aload_n dX13_name_49 0 0 rfl rfl (g_getI dX13_name_50 fl_X13_263 rfl obM_0 (g_putI dX13_name_53 fl_X13_305 rfl rfl obM_0 (g_lconst dX13_name_56 kq_0 (g_lstore_n dX13_name_57 rfl (by decide) rfl (g_sub [1, 0] rfl (h24.1 q19))))))))) (fun q19 => (g_aload_n dX13_name_37 0 0 rfl rfl (g_iconst dX13_name_38 kc_1 (g_aload_n dX13_name_39 0 0 rfl rfl (g_getI dX13_name_40 fl_X13_263 rfl obM_0 (g_callvV dX13_name_43 ml_X13_287 md_X13_fail mv_X13_fail obM_0 rfl rfl rfl (Nat.le_of_ble_eq_true rfl) (CalV.mono (h24.2 q19) (fun I21 J22 h23 => (g_lconst dX13_name_46 kq_0 (g_lreturn dX13_name_47 rfl ⟨_, rfl, h23⟩))))))))))))))))))))))))))))))) (fun q1 => (g_lconst dX13_name_7 kq_0 (g_lreturn dX13_name_8 rfl ⟨_, rfl, (h.2 q1)⟩))))))
theorem bX13_name_58 {d : Nat}  {v1 : Int64} {I : Ii} {J : Jj} {K : KL}
    (h : (((I 0 3) ≤ (I 0 2)) → (K (v1) (u2 I 0 4 (I 0 2)) J)) ∧ ((¬ (I 0 3) ≤ (I 0 2)) → (vp_in (I 0 2) 1600 ∧ (CalI wM d mX13_isLetter [.int (I 1 (I 0 2).toNatClampNeg)] I J (fun x6 I4 J5 => (((x6 = 0) → (K (v1) (u2 I4 0 4 (I4 0 2)) J5)) ∧ ((¬ x6 = 0) → (((¬ ((I4 0 2) - (I4 0 38)) = 6) → (vp_in (I4 0 2) 1600 ∧ (∀ y11 : Int64, y11 = (((27 * v1) + ((I4 1 (I4 0 2).toNatClampNeg).toInt64)) - 97) + 1 → (GoL wM (d + 1) mX13_name 58 [(0, .ref (0)), (1, .long (y11))] [] (u2 I4 0 2 ((I4 0 2) + 1)) J5 K)))) ∧ ((((I4 0 2) - (I4 0 38)) = 6) → (CalV wM d mX13_fail [.ref (0), .int (1), .int (I4 0 2)] I4 J5 (fun I13 J14 => (K (0) I13 J14)))))))))))) :
    GoL wM (d + 1) mX13_name 58 [(0, .ref (0)), (1, .long (v1))] [] I J K :=
  (g_aload_n dX13_name_58 0 0 rfl rfl (g_getI dX13_name_59 fl_X13_263 rfl obM_0 (g_aload_n dX13_name_62 0 0 rfl rfl (g_getI dX13_name_63 fl_X13_266 rfl obM_0 (g_icmp_ge dX13_name_66 rfl (fun q1 => (g_aload_n dX13_name_145 0 0 rfl rfl (g_aload_n dX13_name_146 0 0 rfl rfl (g_getI dX13_name_147 fl_X13_263 rfl obM_0 (g_putI dX13_name_150 fl_X13_277 rfl rfl obM_0 (g_lload_n dX13_name_153 1 1 rfl rfl (g_lreturn dX13_name_154 rfl ⟨_, rfl, (h.1 q1)⟩))))))) (fun q1 => (g_aload_n dX13_name_69 0 0 rfl rfl (g_getP dX13_name_70 fl_X13_7 rfl obM_0 rfl (g_aload_n dX13_name_73 0 0 rfl rfl (g_getI dX13_name_74 fl_X13_263 rfl obM_0 (have b3 := (h.2 q1).1; g_iald dX13_name_77 arM_1 b3 (g_callsI dX13_name_78 ml_X13_273 md_X13_isLetter ms_X13_isLetter rfl rfl (Nat.le_of_ble_eq_true rfl) (CalI.mono (h.2 q1).2 (fun x6 I4 J5 h16 => (g_if_eq dX13_name_81 rfl (fun q7 => (g_aload_n dX13_name_145 0 0 rfl rfl (g_aload_n dX13_name_146 0 0 rfl rfl (g_getI dX13_name_147 fl_X13_263 rfl obM_0 (g_putI dX13_name_150 fl_X13_277 rfl rfl obM_0 (g_lload_n dX13_name_153 1 1 rfl rfl (g_lreturn dX13_name_154 rfl ⟨_, rfl, (h16.1 q7)⟩))))))) (fun q7 => (g_aload_n dX13_name_84 0 0 rfl rfl (g_getI dX13_name_85 fl_X13_263 rfl obM_0 (g_aload_n dX13_name_88 0 0 rfl rfl (g_getI dX13_name_89 fl_X13_305 rfl obM_0 (g_isub dX13_name_92 (g_bipush dX13_name_93 kb_6 (g_icmp_ne dX13_name_95 rfl (fun q9 => (g_ldc2 dX13_name_109 kl_X13_308 (g_lload_n dX13_name_112 1 1 rfl rfl (g_lmul dX13_name_113 (g_aload_n dX13_name_114 0 0 rfl rfl (g_getP dX13_name_115 fl_X13_7 rfl obM_0 rfl (g_aload_n dX13_name_118 0 0 rfl rfl (g_getI dX13_name_119 fl_X13_263 rfl obM_0 (have b10 := ((h16.2 q7).1 q9).1; g_iald dX13_name_122 arM_1 b10 (g_i2l dX13_name_123 (g_ladd dX13_name_124 (g_ldc2 dX13_name_125 kl_X13_310 (g_lsub dX13_name_128 (g_lconst dX13_name_129 kq_1 (g_ladd dX13_name_130 (g_lstore_n dX13_name_131 rfl (by decide) rfl (g_aload_n dX13_name_132 1 0 rfl rfl (g_dup dX13_name_133 rfl (g_getI dX13_name_134 fl_X13_263 rfl obM_0 (g_iconst dX13_name_137 kc_1 (g_iadd dX13_name_138 (g_putI dX13_name_139 fl_X13_263 rfl rfl obM_0 (g_goto dX13_name_142 rfl (g_sub [1, 0] rfl (((h16.2 q7).1 q9).2 _ rfl))))))))))))))))))))))))) (fun q9 => (g_aload_n dX13_name_98 0 0 rfl rfl (g_iconst dX13_name_99 kc_1 (g_aload_n dX13_name_100 0 0 rfl rfl (g_getI dX13_name_101 fl_X13_263 rfl obM_0 (g_callvV dX13_name_104 ml_X13_287 md_X13_fail mv_X13_fail obM_0 rfl rfl rfl (Nat.le_of_ble_eq_true rfl) (CalV.mono ((h16.2 q7).2 q9) (fun I13 J14 h15 => (g_lconst dX13_name_107 kq_0 (g_lreturn dX13_name_108 rfl ⟨_, rfl, h15⟩)))))))))))))))))))))))))))))))))
theorem dX13_isOwnHere_0 : decode cX13_isOwnHere 0 = .ok (.aload_n 0, 1) := by decide +kernel
theorem dX13_isOwnHere_1 : decode cX13_isOwnHere 1 = .ok (.aload_n 0, 1) := by decide +kernel
theorem dX13_isOwnHere_2 : decode cX13_isOwnHere 2 = .ok (.getfield 20, 3) := by decide +kernel
theorem dX13_isOwnHere_5 : decode cX13_isOwnHere 5 = .ok (.invokevirtual 280, 3) := by decide +kernel
theorem dX13_isOwnHere_8 : decode cX13_isOwnHere 8 = .ok (.ifCond .ne 58, 3) := by decide +kernel
theorem dX13_isOwnHere_11 : decode cX13_isOwnHere 11 = .ok (.aload_n 0, 1) := by decide +kernel
theorem dX13_isOwnHere_12 : decode cX13_isOwnHere 12 = .ok (.aload_n 0, 1) := by decide +kernel
theorem dX13_isOwnHere_13 : decode cX13_isOwnHere 13 = .ok (.getfield 24, 3) := by decide +kernel
theorem dX13_isOwnHere_16 : decode cX13_isOwnHere 16 = .ok (.invokevirtual 280, 3) := by decide +kernel
theorem dX13_isOwnHere_19 : decode cX13_isOwnHere 19 = .ok (.ifCond .ne 47, 3) := by decide +kernel
theorem dX13_isOwnHere_22 : decode cX13_isOwnHere 22 = .ok (.aload_n 0, 1) := by decide +kernel
theorem dX13_isOwnHere_23 : decode cX13_isOwnHere 23 = .ok (.aload_n 0, 1) := by decide +kernel
theorem dX13_isOwnHere_24 : decode cX13_isOwnHere 24 = .ok (.getfield 27, 3) := by decide +kernel
theorem dX13_isOwnHere_27 : decode cX13_isOwnHere 27 = .ok (.invokevirtual 280, 3) := by decide +kernel
theorem dX13_isOwnHere_30 : decode cX13_isOwnHere 30 = .ok (.ifCond .ne 36, 3) := by decide +kernel
theorem dX13_isOwnHere_33 : decode cX13_isOwnHere 33 = .ok (.aload_n 0, 1) := by decide +kernel
theorem dX13_isOwnHere_34 : decode cX13_isOwnHere 34 = .ok (.aload_n 0, 1) := by decide +kernel
theorem dX13_isOwnHere_35 : decode cX13_isOwnHere 35 = .ok (.getfield 30, 3) := by decide +kernel
theorem dX13_isOwnHere_38 : decode cX13_isOwnHere 38 = .ok (.invokevirtual 280, 3) := by decide +kernel
theorem dX13_isOwnHere_41 : decode cX13_isOwnHere 41 = .ok (.ifCond .ne 25, 3) := by decide +kernel
theorem dX13_isOwnHere_44 : decode cX13_isOwnHere 44 = .ok (.aload_n 0, 1) := by decide +kernel
theorem dX13_isOwnHere_45 : decode cX13_isOwnHere 45 = .ok (.aload_n 0, 1) := by decide +kernel
theorem dX13_isOwnHere_46 : decode cX13_isOwnHere 46 = .ok (.getfield 33, 3) := by decide +kernel
theorem dX13_isOwnHere_49 : decode cX13_isOwnHere 49 = .ok (.invokevirtual 280, 3) := by decide +kernel
theorem dX13_isOwnHere_52 : decode cX13_isOwnHere 52 = .ok (.ifCond .ne 14, 3) := by decide +kernel
theorem dX13_isOwnHere_55 : decode cX13_isOwnHere 55 = .ok (.aload_n 0, 1) := by decide +kernel
theorem dX13_isOwnHere_56 : decode cX13_isOwnHere 56 = .ok (.aload_n 0, 1) := by decide +kernel
theorem dX13_isOwnHere_57 : decode cX13_isOwnHere 57 = .ok (.getfield 36, 3) := by decide +kernel
theorem dX13_isOwnHere_60 : decode cX13_isOwnHere 60 = .ok (.invokevirtual 280, 3) := by decide +kernel
theorem dX13_isOwnHere_63 : decode cX13_isOwnHere 63 = .ok (.ifCond .eq 7, 3) := by decide +kernel
theorem dX13_isOwnHere_66 : decode cX13_isOwnHere 66 = .ok (.iconst 1, 1) := by decide +kernel
theorem dX13_isOwnHere_67 : decode cX13_isOwnHere 67 = .ok (.goto 4, 3) := by decide +kernel
theorem dX13_isOwnHere_70 : decode cX13_isOwnHere 70 = .ok (.iconst 0, 1) := by decide +kernel
theorem dX13_isOwnHere_71 : decode cX13_isOwnHere 71 = .ok (.istore_n 1, 1) := by decide +kernel
theorem dX13_isOwnHere_72 : decode cX13_isOwnHere 72 = .ok (.iload_n 1, 1) := by decide +kernel
theorem dX13_isOwnHere_73 : decode cX13_isOwnHere 73 = .ok (.ifCond .ne 69, 3) := by decide +kernel
theorem dX13_isOwnHere_76 : decode cX13_isOwnHere 76 = .ok (.aload_n 0, 1) := by decide +kernel
theorem dX13_isOwnHere_77 : decode cX13_isOwnHere 77 = .ok (.aload_n 0, 1) := by decide +kernel
theorem dX13_isOwnHere_78 : decode cX13_isOwnHere 78 = .ok (.getfield 39, 3) := by decide +kernel
theorem dX13_isOwnHere_81 : decode cX13_isOwnHere 81 = .ok (.invokevirtual 280, 3) := by decide +kernel
theorem dX13_isOwnHere_84 : decode cX13_isOwnHere 84 = .ok (.ifCond .ne 58, 3) := by decide +kernel
theorem dX13_isOwnHere_87 : decode cX13_isOwnHere 87 = .ok (.aload_n 0, 1) := by decide +kernel
theorem dX13_isOwnHere_88 : decode cX13_isOwnHere 88 = .ok (.aload_n 0, 1) := by decide +kernel
theorem dX13_isOwnHere_89 : decode cX13_isOwnHere 89 = .ok (.getfield 42, 3) := by decide +kernel
theorem dX13_isOwnHere_92 : decode cX13_isOwnHere 92 = .ok (.invokevirtual 280, 3) := by decide +kernel
theorem dX13_isOwnHere_95 : decode cX13_isOwnHere 95 = .ok (.ifCond .ne 47, 3) := by decide +kernel
theorem dX13_isOwnHere_98 : decode cX13_isOwnHere 98 = .ok (.aload_n 0, 1) := by decide +kernel
theorem dX13_isOwnHere_99 : decode cX13_isOwnHere 99 = .ok (.aload_n 0, 1) := by decide +kernel
theorem dX13_isOwnHere_100 : decode cX13_isOwnHere 100 = .ok (.getfield 45, 3) := by decide +kernel
theorem dX13_isOwnHere_103 : decode cX13_isOwnHere 103 = .ok (.invokevirtual 280, 3) := by decide +kernel
theorem dX13_isOwnHere_106 : decode cX13_isOwnHere 106 = .ok (.ifCond .ne 36, 3) := by decide +kernel
theorem dX13_isOwnHere_109 : decode cX13_isOwnHere 109 = .ok (.aload_n 0, 1) := by decide +kernel
theorem dX13_isOwnHere_110 : decode cX13_isOwnHere 110 = .ok (.aload_n 0, 1) := by decide +kernel
theorem dX13_isOwnHere_111 : decode cX13_isOwnHere 111 = .ok (.getfield 48, 3) := by decide +kernel
theorem dX13_isOwnHere_114 : decode cX13_isOwnHere 114 = .ok (.invokevirtual 280, 3) := by decide +kernel
theorem dX13_isOwnHere_117 : decode cX13_isOwnHere 117 = .ok (.ifCond .ne 25, 3) := by decide +kernel
theorem dX13_isOwnHere_120 : decode cX13_isOwnHere 120 = .ok (.aload_n 0, 1) := by decide +kernel
theorem dX13_isOwnHere_121 : decode cX13_isOwnHere 121 = .ok (.aload_n 0, 1) := by decide +kernel
theorem dX13_isOwnHere_122 : decode cX13_isOwnHere 122 = .ok (.getfield 51, 3) := by decide +kernel
theorem dX13_isOwnHere_125 : decode cX13_isOwnHere 125 = .ok (.invokevirtual 280, 3) := by decide +kernel
theorem dX13_isOwnHere_128 : decode cX13_isOwnHere 128 = .ok (.ifCond .ne 14, 3) := by decide +kernel
theorem dX13_isOwnHere_131 : decode cX13_isOwnHere 131 = .ok (.aload_n 0, 1) := by decide +kernel
theorem dX13_isOwnHere_132 : decode cX13_isOwnHere 132 = .ok (.aload_n 0, 1) := by decide +kernel
theorem dX13_isOwnHere_133 : decode cX13_isOwnHere 133 = .ok (.getfield 54, 3) := by decide +kernel
theorem dX13_isOwnHere_136 : decode cX13_isOwnHere 136 = .ok (.invokevirtual 280, 3) := by decide +kernel
theorem dX13_isOwnHere_139 : decode cX13_isOwnHere 139 = .ok (.ifCond .eq 7, 3) := by decide +kernel
theorem dX13_isOwnHere_142 : decode cX13_isOwnHere 142 = .ok (.iconst 1, 1) := by decide +kernel
theorem dX13_isOwnHere_143 : decode cX13_isOwnHere 143 = .ok (.goto 4, 3) := by decide +kernel
theorem dX13_isOwnHere_146 : decode cX13_isOwnHere 146 = .ok (.iconst 0, 1) := by decide +kernel
theorem dX13_isOwnHere_147 : decode cX13_isOwnHere 147 = .ok (.istore_n 1, 1) := by decide +kernel
theorem dX13_isOwnHere_148 : decode cX13_isOwnHere 148 = .ok (.iload_n 1, 1) := by decide +kernel
theorem dX13_isOwnHere_149 : decode cX13_isOwnHere 149 = .ok (.ifCond .ne 69, 3) := by decide +kernel
theorem dX13_isOwnHere_152 : decode cX13_isOwnHere 152 = .ok (.aload_n 0, 1) := by decide +kernel
theorem dX13_isOwnHere_153 : decode cX13_isOwnHere 153 = .ok (.aload_n 0, 1) := by decide +kernel
theorem dX13_isOwnHere_154 : decode cX13_isOwnHere 154 = .ok (.getfield 57, 3) := by decide +kernel
theorem dX13_isOwnHere_157 : decode cX13_isOwnHere 157 = .ok (.invokevirtual 280, 3) := by decide +kernel
theorem dX13_isOwnHere_160 : decode cX13_isOwnHere 160 = .ok (.ifCond .ne 58, 3) := by decide +kernel
theorem dX13_isOwnHere_163 : decode cX13_isOwnHere 163 = .ok (.aload_n 0, 1) := by decide +kernel
theorem dX13_isOwnHere_164 : decode cX13_isOwnHere 164 = .ok (.aload_n 0, 1) := by decide +kernel
theorem dX13_isOwnHere_165 : decode cX13_isOwnHere 165 = .ok (.getfield 60, 3) := by decide +kernel
theorem dX13_isOwnHere_168 : decode cX13_isOwnHere 168 = .ok (.invokevirtual 280, 3) := by decide +kernel
theorem dX13_isOwnHere_171 : decode cX13_isOwnHere 171 = .ok (.ifCond .ne 47, 3) := by decide +kernel
theorem dX13_isOwnHere_174 : decode cX13_isOwnHere 174 = .ok (.aload_n 0, 1) := by decide +kernel
theorem dX13_isOwnHere_175 : decode cX13_isOwnHere 175 = .ok (.aload_n 0, 1) := by decide +kernel
theorem dX13_isOwnHere_176 : decode cX13_isOwnHere 176 = .ok (.getfield 63, 3) := by decide +kernel
theorem dX13_isOwnHere_179 : decode cX13_isOwnHere 179 = .ok (.invokevirtual 280, 3) := by decide +kernel
theorem dX13_isOwnHere_182 : decode cX13_isOwnHere 182 = .ok (.ifCond .ne 36, 3) := by decide +kernel
theorem dX13_isOwnHere_185 : decode cX13_isOwnHere 185 = .ok (.aload_n 0, 1) := by decide +kernel
theorem dX13_isOwnHere_186 : decode cX13_isOwnHere 186 = .ok (.aload_n 0, 1) := by decide +kernel
theorem dX13_isOwnHere_187 : decode cX13_isOwnHere 187 = .ok (.getfield 66, 3) := by decide +kernel
theorem dX13_isOwnHere_190 : decode cX13_isOwnHere 190 = .ok (.invokevirtual 280, 3) := by decide +kernel
theorem dX13_isOwnHere_193 : decode cX13_isOwnHere 193 = .ok (.ifCond .ne 25, 3) := by decide +kernel
theorem dX13_isOwnHere_196 : decode cX13_isOwnHere 196 = .ok (.aload_n 0, 1) := by decide +kernel
theorem dX13_isOwnHere_197 : decode cX13_isOwnHere 197 = .ok (.aload_n 0, 1) := by decide +kernel
theorem dX13_isOwnHere_198 : decode cX13_isOwnHere 198 = .ok (.getfield 69, 3) := by decide +kernel
theorem dX13_isOwnHere_201 : decode cX13_isOwnHere 201 = .ok (.invokevirtual 280, 3) := by decide +kernel
theorem dX13_isOwnHere_204 : decode cX13_isOwnHere 204 = .ok (.ifCond .ne 14, 3) := by decide +kernel
theorem dX13_isOwnHere_207 : decode cX13_isOwnHere 207 = .ok (.aload_n 0, 1) := by decide +kernel
theorem dX13_isOwnHere_208 : decode cX13_isOwnHere 208 = .ok (.aload_n 0, 1) := by decide +kernel
theorem dX13_isOwnHere_209 : decode cX13_isOwnHere 209 = .ok (.getfield 72, 3) := by decide +kernel
theorem dX13_isOwnHere_212 : decode cX13_isOwnHere 212 = .ok (.invokevirtual 280, 3) := by decide +kernel
theorem dX13_isOwnHere_215 : decode cX13_isOwnHere 215 = .ok (.ifCond .eq 7, 3) := by decide +kernel
theorem dX13_isOwnHere_218 : decode cX13_isOwnHere 218 = .ok (.iconst 1, 1) := by decide +kernel
theorem dX13_isOwnHere_219 : decode cX13_isOwnHere 219 = .ok (.goto 4, 3) := by decide +kernel
theorem dX13_isOwnHere_222 : decode cX13_isOwnHere 222 = .ok (.iconst 0, 1) := by decide +kernel
theorem dX13_isOwnHere_223 : decode cX13_isOwnHere 223 = .ok (.istore_n 1, 1) := by decide +kernel
theorem dX13_isOwnHere_224 : decode cX13_isOwnHere 224 = .ok (.iload_n 1, 1) := by decide +kernel
theorem dX13_isOwnHere_225 : decode cX13_isOwnHere 225 = .ok (.ifCond .ne 69, 3) := by decide +kernel
theorem dX13_isOwnHere_228 : decode cX13_isOwnHere 228 = .ok (.aload_n 0, 1) := by decide +kernel
theorem dX13_isOwnHere_229 : decode cX13_isOwnHere 229 = .ok (.aload_n 0, 1) := by decide +kernel
theorem dX13_isOwnHere_230 : decode cX13_isOwnHere 230 = .ok (.getfield 75, 3) := by decide +kernel
theorem dX13_isOwnHere_233 : decode cX13_isOwnHere 233 = .ok (.invokevirtual 280, 3) := by decide +kernel
theorem dX13_isOwnHere_236 : decode cX13_isOwnHere 236 = .ok (.ifCond .ne 58, 3) := by decide +kernel
theorem dX13_isOwnHere_239 : decode cX13_isOwnHere 239 = .ok (.aload_n 0, 1) := by decide +kernel
theorem dX13_isOwnHere_240 : decode cX13_isOwnHere 240 = .ok (.aload_n 0, 1) := by decide +kernel
theorem dX13_isOwnHere_241 : decode cX13_isOwnHere 241 = .ok (.getfield 78, 3) := by decide +kernel
theorem dX13_isOwnHere_244 : decode cX13_isOwnHere 244 = .ok (.invokevirtual 280, 3) := by decide +kernel
theorem dX13_isOwnHere_247 : decode cX13_isOwnHere 247 = .ok (.ifCond .ne 47, 3) := by decide +kernel
theorem dX13_isOwnHere_250 : decode cX13_isOwnHere 250 = .ok (.aload_n 0, 1) := by decide +kernel
theorem dX13_isOwnHere_251 : decode cX13_isOwnHere 251 = .ok (.aload_n 0, 1) := by decide +kernel
theorem dX13_isOwnHere_252 : decode cX13_isOwnHere 252 = .ok (.getfield 81, 3) := by decide +kernel
theorem dX13_isOwnHere_255 : decode cX13_isOwnHere 255 = .ok (.invokevirtual 280, 3) := by decide +kernel
theorem dX13_isOwnHere_258 : decode cX13_isOwnHere 258 = .ok (.ifCond .ne 36, 3) := by decide +kernel
theorem dX13_isOwnHere_261 : decode cX13_isOwnHere 261 = .ok (.aload_n 0, 1) := by decide +kernel
theorem dX13_isOwnHere_262 : decode cX13_isOwnHere 262 = .ok (.aload_n 0, 1) := by decide +kernel
theorem dX13_isOwnHere_263 : decode cX13_isOwnHere 263 = .ok (.getfield 84, 3) := by decide +kernel
theorem dX13_isOwnHere_266 : decode cX13_isOwnHere 266 = .ok (.invokevirtual 280, 3) := by decide +kernel
theorem dX13_isOwnHere_269 : decode cX13_isOwnHere 269 = .ok (.ifCond .ne 25, 3) := by decide +kernel
theorem dX13_isOwnHere_272 : decode cX13_isOwnHere 272 = .ok (.aload_n 0, 1) := by decide +kernel
theorem dX13_isOwnHere_273 : decode cX13_isOwnHere 273 = .ok (.aload_n 0, 1) := by decide +kernel
theorem dX13_isOwnHere_274 : decode cX13_isOwnHere 274 = .ok (.getfield 87, 3) := by decide +kernel
theorem dX13_isOwnHere_277 : decode cX13_isOwnHere 277 = .ok (.invokevirtual 280, 3) := by decide +kernel
theorem dX13_isOwnHere_280 : decode cX13_isOwnHere 280 = .ok (.ifCond .ne 14, 3) := by decide +kernel
theorem dX13_isOwnHere_283 : decode cX13_isOwnHere 283 = .ok (.aload_n 0, 1) := by decide +kernel
theorem dX13_isOwnHere_284 : decode cX13_isOwnHere 284 = .ok (.aload_n 0, 1) := by decide +kernel
theorem dX13_isOwnHere_285 : decode cX13_isOwnHere 285 = .ok (.getfield 90, 3) := by decide +kernel
theorem dX13_isOwnHere_288 : decode cX13_isOwnHere 288 = .ok (.invokevirtual 280, 3) := by decide +kernel
theorem dX13_isOwnHere_291 : decode cX13_isOwnHere 291 = .ok (.ifCond .eq 7, 3) := by decide +kernel
theorem dX13_isOwnHere_294 : decode cX13_isOwnHere 294 = .ok (.iconst 1, 1) := by decide +kernel
theorem dX13_isOwnHere_295 : decode cX13_isOwnHere 295 = .ok (.goto 4, 3) := by decide +kernel
theorem dX13_isOwnHere_298 : decode cX13_isOwnHere 298 = .ok (.iconst 0, 1) := by decide +kernel
theorem dX13_isOwnHere_299 : decode cX13_isOwnHere 299 = .ok (.istore_n 1, 1) := by decide +kernel
theorem dX13_isOwnHere_300 : decode cX13_isOwnHere 300 = .ok (.iload_n 1, 1) := by decide +kernel
theorem dX13_isOwnHere_301 : decode cX13_isOwnHere 301 = .ok (.ifCond .ne 47, 3) := by decide +kernel
theorem dX13_isOwnHere_304 : decode cX13_isOwnHere 304 = .ok (.aload_n 0, 1) := by decide +kernel
theorem dX13_isOwnHere_305 : decode cX13_isOwnHere 305 = .ok (.aload_n 0, 1) := by decide +kernel
theorem dX13_isOwnHere_306 : decode cX13_isOwnHere 306 = .ok (.getfield 93, 3) := by decide +kernel
theorem dX13_isOwnHere_309 : decode cX13_isOwnHere 309 = .ok (.invokevirtual 280, 3) := by decide +kernel
theorem dX13_isOwnHere_312 : decode cX13_isOwnHere 312 = .ok (.ifCond .ne 36, 3) := by decide +kernel
theorem dX13_isOwnHere_315 : decode cX13_isOwnHere 315 = .ok (.aload_n 0, 1) := by decide +kernel
theorem dX13_isOwnHere_316 : decode cX13_isOwnHere 316 = .ok (.aload_n 0, 1) := by decide +kernel
theorem dX13_isOwnHere_317 : decode cX13_isOwnHere 317 = .ok (.getfield 96, 3) := by decide +kernel
theorem dX13_isOwnHere_320 : decode cX13_isOwnHere 320 = .ok (.invokevirtual 280, 3) := by decide +kernel
theorem dX13_isOwnHere_323 : decode cX13_isOwnHere 323 = .ok (.ifCond .ne 25, 3) := by decide +kernel
theorem dX13_isOwnHere_326 : decode cX13_isOwnHere 326 = .ok (.aload_n 0, 1) := by decide +kernel
theorem dX13_isOwnHere_327 : decode cX13_isOwnHere 327 = .ok (.aload_n 0, 1) := by decide +kernel
theorem dX13_isOwnHere_328 : decode cX13_isOwnHere 328 = .ok (.getfield 99, 3) := by decide +kernel
theorem dX13_isOwnHere_331 : decode cX13_isOwnHere 331 = .ok (.invokevirtual 280, 3) := by decide +kernel
theorem dX13_isOwnHere_334 : decode cX13_isOwnHere 334 = .ok (.ifCond .ne 14, 3) := by decide +kernel
theorem dX13_isOwnHere_337 : decode cX13_isOwnHere 337 = .ok (.aload_n 0, 1) := by decide +kernel
theorem dX13_isOwnHere_338 : decode cX13_isOwnHere 338 = .ok (.aload_n 0, 1) := by decide +kernel
theorem dX13_isOwnHere_339 : decode cX13_isOwnHere 339 = .ok (.getfield 102, 3) := by decide +kernel
theorem dX13_isOwnHere_342 : decode cX13_isOwnHere 342 = .ok (.invokevirtual 280, 3) := by decide +kernel
theorem dX13_isOwnHere_345 : decode cX13_isOwnHere 345 = .ok (.ifCond .eq 7, 3) := by decide +kernel
theorem dX13_isOwnHere_348 : decode cX13_isOwnHere 348 = .ok (.iconst 1, 1) := by decide +kernel
theorem dX13_isOwnHere_349 : decode cX13_isOwnHere 349 = .ok (.goto 4, 3) := by decide +kernel
theorem dX13_isOwnHere_352 : decode cX13_isOwnHere 352 = .ok (.iconst 0, 1) := by decide +kernel
theorem dX13_isOwnHere_353 : decode cX13_isOwnHere 353 = .ok (.istore_n 1, 1) := by decide +kernel
theorem dX13_isOwnHere_354 : decode cX13_isOwnHere 354 = .ok (.iload_n 1, 1) := by decide +kernel
theorem dX13_isOwnHere_355 : decode cX13_isOwnHere 355 = .ok (.ireturn, 1) := by decide +kernel
theorem bX13_isOwnHere_0 {d : Nat}   {I : Ii} {J : Jj} {K : KI}
    (h : CalI wM d mX13_isHere [.ref (0), .ref (3)] I J (fun x3 I1 J2 => (((¬ x3 = 0) → (GoI wM (d + 1) mX13_isOwnHere 66 [(0, .ref (0))] [] I1 J2 K)) ∧ ((x3 = 0) → (CalI wM d mX13_isHere [.ref (0), .ref (4)] I1 J2 (fun x7 I5 J6 => (((¬ x7 = 0) → (GoI wM (d + 1) mX13_isOwnHere 66 [(0, .ref (0))] [] I5 J6 K)) ∧ ((x7 = 0) → (CalI wM d mX13_isHere [.ref (0), .ref (5)] I5 J6 (fun x11 I9 J10 => (((¬ x11 = 0) → (GoI wM (d + 1) mX13_isOwnHere 66 [(0, .ref (0))] [] I9 J10 K)) ∧ ((x11 = 0) → (CalI wM d mX13_isHere [.ref (0), .ref (6)] I9 J10 (fun x15 I13 J14 => (((¬ x15 = 0) → (GoI wM (d + 1) mX13_isOwnHere 66 [(0, .ref (0))] [] I13 J14 K)) ∧ ((x15 = 0) → (CalI wM d mX13_isHere [.ref (0), .ref (7)] I13 J14 (fun x19 I17 J18 => (((¬ x19 = 0) → (GoI wM (d + 1) mX13_isOwnHere 66 [(0, .ref (0))] [] I17 J18 K)) ∧ ((x19 = 0) → (CalI wM d mX13_isHere [.ref (0), .ref (8)] I17 J18 (fun x23 I21 J22 => (((x23 = 0) → (GoI wM (d + 1) mX13_isOwnHere 71 [(0, .ref (0))] [.int (0)] I21 J22 K)) ∧ ((¬ x23 = 0) → (GoI wM (d + 1) mX13_isOwnHere 66 [(0, .ref (0))] [] I21 J22 K))))))))))))))))))))))))) :
    GoI wM (d + 1) mX13_isOwnHere 0 [(0, .ref (0))] [] I J K :=
  (g_aload_n dX13_isOwnHere_0 0 0 rfl rfl (g_aload_n dX13_isOwnHere_1 0 0 rfl rfl (g_getP dX13_isOwnHere_2 fl_X13_20 rfl obM_0 rfl (g_callvI dX13_isOwnHere_5 ml_X13_280 md_X13_isHere mv_X13_isHere obM_0 rfl rfl rfl (Nat.le_of_ble_eq_true rfl) (CalI.mono h (fun x3 I1 J2 h30 => (g_if_ne dX13_isOwnHere_8 rfl (fun q4 => (h30.1 q4)) (fun q4 => (g_aload_n dX13_isOwnHere_11 0 0 rfl rfl (g_aload_n dX13_isOwnHere_12 0 0 rfl rfl (g_getP dX13_isOwnHere_13 fl_X13_24 rfl obM_0 rfl (g_callvI dX13_isOwnHere_16 ml_X13_280 md_X13_isHere mv_X13_isHere obM_0 rfl rfl rfl (Nat.le_of_ble_eq_true rfl) (CalI.mono (h30.2 q4) (fun x7 I5 J6 h29 => (g_if_ne dX13_isOwnHere_19 rfl (fun q8 => (h29.1 q8)) (fun q8 => (g_aload_n dX13_isOwnHere_22 0 0 rfl rfl (g_aload_n dX13_isOwnHere_23 0 0 rfl rfl (g_getP dX13_isOwnHere_24 fl_X13_27 rfl obM_0 rfl (g_callvI dX13_isOwnHere_27 ml_X13_280 md_X13_isHere mv_X13_isHere obM_0 rfl rfl rfl (Nat.le_of_ble_eq_true rfl) (CalI.mono (h29.2 q8) (fun x11 I9 J10 h28 => (g_if_ne dX13_isOwnHere_30 rfl (fun q12 => (h28.1 q12)) (fun q12 => (g_aload_n dX13_isOwnHere_33 0 0 rfl rfl (g_aload_n dX13_isOwnHere_34 0 0 rfl rfl (g_getP dX13_isOwnHere_35 fl_X13_30 rfl obM_0 rfl (g_callvI dX13_isOwnHere_38 ml_X13_280 md_X13_isHere mv_X13_isHere obM_0 rfl rfl rfl (Nat.le_of_ble_eq_true rfl) (CalI.mono (h28.2 q12) (fun x15 I13 J14 h27 => (g_if_ne dX13_isOwnHere_41 rfl (fun q16 => (h27.1 q16)) (fun q16 => (g_aload_n dX13_isOwnHere_44 0 0 rfl rfl (g_aload_n dX13_isOwnHere_45 0 0 rfl rfl (g_getP dX13_isOwnHere_46 fl_X13_33 rfl obM_0 rfl (g_callvI dX13_isOwnHere_49 ml_X13_280 md_X13_isHere mv_X13_isHere obM_0 rfl rfl rfl (Nat.le_of_ble_eq_true rfl) (CalI.mono (h27.2 q16) (fun x19 I17 J18 h26 => (g_if_ne dX13_isOwnHere_52 rfl (fun q20 => (h26.1 q20)) (fun q20 => (g_aload_n dX13_isOwnHere_55 0 0 rfl rfl (g_aload_n dX13_isOwnHere_56 0 0 rfl rfl (g_getP dX13_isOwnHere_57 fl_X13_36 rfl obM_0 rfl (g_callvI dX13_isOwnHere_60 ml_X13_280 md_X13_isHere mv_X13_isHere obM_0 rfl rfl rfl (Nat.le_of_ble_eq_true rfl) (CalI.mono (h26.2 q20) (fun x23 I21 J22 h25 => (g_if_eq dX13_isOwnHere_63 rfl (fun q24 => (g_iconst dX13_isOwnHere_70 kc_0 (h25.1 q24))) (fun q24 => (h25.2 q24)))))))))))))))))))))))))))))))))))))))))))))))))
theorem bX13_isOwnHere_66 {d : Nat}   {I : Ii} {J : Jj} {K : KI}
    (h : GoI wM (d + 1) mX13_isOwnHere 71 [(0, .ref (0))] [.int (1)] I J K) :
    GoI wM (d + 1) mX13_isOwnHere 66 [(0, .ref (0))] [] I J K :=
  (g_iconst dX13_isOwnHere_66 kc_1 (g_goto dX13_isOwnHere_67 rfl h))
theorem bX13_isOwnHere_71 {d : Nat}  {s0 : Int32} {I : Ii} {J : Jj} {K : KI}
    (h : ((¬ s0 = 0) → (GoI wM (d + 1) mX13_isOwnHere 142 [(0, .ref (0))] [] I J K)) ∧ ((s0 = 0) → (CalI wM d mX13_isHere [.ref (0), .ref (9)] I J (fun x4 I2 J3 => (((¬ x4 = 0) → (GoI wM (d + 1) mX13_isOwnHere 142 [(0, .ref (0))] [] I2 J3 K)) ∧ ((x4 = 0) → (CalI wM d mX13_isHere [.ref (0), .ref (10)] I2 J3 (fun x8 I6 J7 => (((¬ x8 = 0) → (GoI wM (d + 1) mX13_isOwnHere 142 [(0, .ref (0))] [] I6 J7 K)) ∧ ((x8 = 0) → (CalI wM d mX13_isHere [.ref (0), .ref (11)] I6 J7 (fun x12 I10 J11 => (((¬ x12 = 0) → (GoI wM (d + 1) mX13_isOwnHere 142 [(0, .ref (0))] [] I10 J11 K)) ∧ ((x12 = 0) → (CalI wM d mX13_isHere [.ref (0), .ref (12)] I10 J11 (fun x16 I14 J15 => (((¬ x16 = 0) → (GoI wM (d + 1) mX13_isOwnHere 142 [(0, .ref (0))] [] I14 J15 K)) ∧ ((x16 = 0) → (CalI wM d mX13_isHere [.ref (0), .ref (13)] I14 J15 (fun x20 I18 J19 => (((¬ x20 = 0) → (GoI wM (d + 1) mX13_isOwnHere 142 [(0, .ref (0))] [] I18 J19 K)) ∧ ((x20 = 0) → (CalI wM d mX13_isHere [.ref (0), .ref (14)] I18 J19 (fun x24 I22 J23 => (((x24 = 0) → (GoI wM (d + 1) mX13_isOwnHere 147 [(0, .ref (0))] [.int (0)] I22 J23 K)) ∧ ((¬ x24 = 0) → (GoI wM (d + 1) mX13_isOwnHere 142 [(0, .ref (0))] [] I22 J23 K))))))))))))))))))))))))))) :
    GoI wM (d + 1) mX13_isOwnHere 71 [(0, .ref (0))] [.int (s0)] I J K :=
  (g_istore_n dX13_isOwnHere_71 rfl (by decide) rfl (g_iload_n dX13_isOwnHere_72 0 1 rfl rfl (g_if_ne dX13_isOwnHere_73 rfl (fun q1 => (g_sub [1] rfl (h.1 q1))) (fun q1 => (g_aload_n dX13_isOwnHere_76 1 0 rfl rfl (g_aload_n dX13_isOwnHere_77 1 0 rfl rfl (g_getP dX13_isOwnHere_78 fl_X13_39 rfl obM_0 rfl (g_callvI dX13_isOwnHere_81 ml_X13_280 md_X13_isHere mv_X13_isHere obM_0 rfl rfl rfl (Nat.le_of_ble_eq_true rfl) (CalI.mono (h.2 q1) (fun x4 I2 J3 h31 => (g_if_ne dX13_isOwnHere_84 rfl (fun q5 => (g_sub [1] rfl (h31.1 q5))) (fun q5 => (g_aload_n dX13_isOwnHere_87 1 0 rfl rfl (g_aload_n dX13_isOwnHere_88 1 0 rfl rfl (g_getP dX13_isOwnHere_89 fl_X13_42 rfl obM_0 rfl (g_callvI dX13_isOwnHere_92 ml_X13_280 md_X13_isHere mv_X13_isHere obM_0 rfl rfl rfl (Nat.le_of_ble_eq_true rfl) (CalI.mono (h31.2 q5) (fun x8 I6 J7 h30 => (g_if_ne dX13_isOwnHere_95 rfl (fun q9 => (g_sub [1] rfl (h30.1 q9))) (fun q9 => (g_aload_n dX13_isOwnHere_98 1 0 rfl rfl (g_aload_n dX13_isOwnHere_99 1 0 rfl rfl (g_getP dX13_isOwnHere_100 fl_X13_45 rfl obM_0 rfl (g_callvI dX13_isOwnHere_103 ml_X13_280 md_X13_isHere mv_X13_isHere obM_0 rfl rfl rfl (Nat.le_of_ble_eq_true rfl) (CalI.mono (h30.2 q9) (fun x12 I10 J11 h29 => (g_if_ne dX13_isOwnHere_106 rfl (fun q13 => (g_sub [1] rfl (h29.1 q13))) (fun q13 => (g_aload_n dX13_isOwnHere_109 1 0 rfl rfl (g_aload_n dX13_isOwnHere_110 1 0 rfl rfl (g_getP dX13_isOwnHere_111 fl_X13_48 rfl obM_0 rfl (g_callvI dX13_isOwnHere_114 ml_X13_280 md_X13_isHere mv_X13_isHere obM_0 rfl rfl rfl (Nat.le_of_ble_eq_true rfl) (CalI.mono (h29.2 q13) (fun x16 I14 J15 h28 => (g_if_ne dX13_isOwnHere_117 rfl (fun q17 => (g_sub [1] rfl (h28.1 q17))) (fun q17 => (g_aload_n dX13_isOwnHere_120 1 0 rfl rfl (g_aload_n dX13_isOwnHere_121 1 0 rfl rfl (g_getP dX13_isOwnHere_122 fl_X13_51 rfl obM_0 rfl (g_callvI dX13_isOwnHere_125 ml_X13_280 md_X13_isHere mv_X13_isHere obM_0 rfl rfl rfl (Nat.le_of_ble_eq_true rfl) (CalI.mono (h28.2 q17) (fun x20 I18 J19 h27 => (g_if_ne dX13_isOwnHere_128 rfl (fun q21 => (g_sub [1] rfl (h27.1 q21))) (fun q21 => (g_aload_n dX13_isOwnHere_131 1 0 rfl rfl (g_aload_n dX13_isOwnHere_132 1 0 rfl rfl (g_getP dX13_isOwnHere_133 fl_X13_54 rfl obM_0 rfl (g_callvI dX13_isOwnHere_136 ml_X13_280 md_X13_isHere mv_X13_isHere obM_0 rfl rfl rfl (Nat.le_of_ble_eq_true rfl) (CalI.mono (h27.2 q21) (fun x24 I22 J23 h26 => (g_if_eq dX13_isOwnHere_139 rfl (fun q25 => (g_iconst dX13_isOwnHere_146 kc_0 (g_sub [1] rfl (h26.1 q25)))) (fun q25 => (g_sub [1] rfl (h26.2 q25))))))))))))))))))))))))))))))))))))))))))))))))))))))
theorem bX13_isOwnHere_142 {d : Nat}   {I : Ii} {J : Jj} {K : KI}
    (h : GoI wM (d + 1) mX13_isOwnHere 147 [(0, .ref (0))] [.int (1)] I J K) :
    GoI wM (d + 1) mX13_isOwnHere 142 [(0, .ref (0))] [] I J K :=
  (g_iconst dX13_isOwnHere_142 kc_1 (g_goto dX13_isOwnHere_143 rfl h))
theorem bX13_isOwnHere_147 {d : Nat}  {s0 : Int32} {I : Ii} {J : Jj} {K : KI}
    (h : ((¬ s0 = 0) → (GoI wM (d + 1) mX13_isOwnHere 218 [(0, .ref (0))] [] I J K)) ∧ ((s0 = 0) → (CalI wM d mX13_isHere [.ref (0), .ref (15)] I J (fun x4 I2 J3 => (((¬ x4 = 0) → (GoI wM (d + 1) mX13_isOwnHere 218 [(0, .ref (0))] [] I2 J3 K)) ∧ ((x4 = 0) → (CalI wM d mX13_isHere [.ref (0), .ref (16)] I2 J3 (fun x8 I6 J7 => (((¬ x8 = 0) → (GoI wM (d + 1) mX13_isOwnHere 218 [(0, .ref (0))] [] I6 J7 K)) ∧ ((x8 = 0) → (CalI wM d mX13_isHere [.ref (0), .ref (17)] I6 J7 (fun x12 I10 J11 => (((¬ x12 = 0) → (GoI wM (d + 1) mX13_isOwnHere 218 [(0, .ref (0))] [] I10 J11 K)) ∧ ((x12 = 0) → (CalI wM d mX13_isHere [.ref (0), .ref (18)] I10 J11 (fun x16 I14 J15 => (((¬ x16 = 0) → (GoI wM (d + 1) mX13_isOwnHere 218 [(0, .ref (0))] [] I14 J15 K)) ∧ ((x16 = 0) → (CalI wM d mX13_isHere [.ref (0), .ref (19)] I14 J15 (fun x20 I18 J19 => (((¬ x20 = 0) → (GoI wM (d + 1) mX13_isOwnHere 218 [(0, .ref (0))] [] I18 J19 K)) ∧ ((x20 = 0) → (CalI wM d mX13_isHere [.ref (0), .ref (20)] I18 J19 (fun x24 I22 J23 => (((x24 = 0) → (GoI wM (d + 1) mX13_isOwnHere 223 [(0, .ref (0))] [.int (0)] I22 J23 K)) ∧ ((¬ x24 = 0) → (GoI wM (d + 1) mX13_isOwnHere 218 [(0, .ref (0))] [] I22 J23 K))))))))))))))))))))))))))) :
    GoI wM (d + 1) mX13_isOwnHere 147 [(0, .ref (0))] [.int (s0)] I J K :=
  (g_istore_n dX13_isOwnHere_147 rfl (by decide) rfl (g_iload_n dX13_isOwnHere_148 0 1 rfl rfl (g_if_ne dX13_isOwnHere_149 rfl (fun q1 => (g_sub [1] rfl (h.1 q1))) (fun q1 => (g_aload_n dX13_isOwnHere_152 1 0 rfl rfl (g_aload_n dX13_isOwnHere_153 1 0 rfl rfl (g_getP dX13_isOwnHere_154 fl_X13_57 rfl obM_0 rfl (g_callvI dX13_isOwnHere_157 ml_X13_280 md_X13_isHere mv_X13_isHere obM_0 rfl rfl rfl (Nat.le_of_ble_eq_true rfl) (CalI.mono (h.2 q1) (fun x4 I2 J3 h31 => (g_if_ne dX13_isOwnHere_160 rfl (fun q5 => (g_sub [1] rfl (h31.1 q5))) (fun q5 => (g_aload_n dX13_isOwnHere_163 1 0 rfl rfl (g_aload_n dX13_isOwnHere_164 1 0 rfl rfl (g_getP dX13_isOwnHere_165 fl_X13_60 rfl obM_0 rfl (g_callvI dX13_isOwnHere_168 ml_X13_280 md_X13_isHere mv_X13_isHere obM_0 rfl rfl rfl (Nat.le_of_ble_eq_true rfl) (CalI.mono (h31.2 q5) (fun x8 I6 J7 h30 => (g_if_ne dX13_isOwnHere_171 rfl (fun q9 => (g_sub [1] rfl (h30.1 q9))) (fun q9 => (g_aload_n dX13_isOwnHere_174 1 0 rfl rfl (g_aload_n dX13_isOwnHere_175 1 0 rfl rfl (g_getP dX13_isOwnHere_176 fl_X13_63 rfl obM_0 rfl (g_callvI dX13_isOwnHere_179 ml_X13_280 md_X13_isHere mv_X13_isHere obM_0 rfl rfl rfl (Nat.le_of_ble_eq_true rfl) (CalI.mono (h30.2 q9) (fun x12 I10 J11 h29 => (g_if_ne dX13_isOwnHere_182 rfl (fun q13 => (g_sub [1] rfl (h29.1 q13))) (fun q13 => (g_aload_n dX13_isOwnHere_185 1 0 rfl rfl (g_aload_n dX13_isOwnHere_186 1 0 rfl rfl (g_getP dX13_isOwnHere_187 fl_X13_66 rfl obM_0 rfl (g_callvI dX13_isOwnHere_190 ml_X13_280 md_X13_isHere mv_X13_isHere obM_0 rfl rfl rfl (Nat.le_of_ble_eq_true rfl) (CalI.mono (h29.2 q13) (fun x16 I14 J15 h28 => (g_if_ne dX13_isOwnHere_193 rfl (fun q17 => (g_sub [1] rfl (h28.1 q17))) (fun q17 => (g_aload_n dX13_isOwnHere_196 1 0 rfl rfl (g_aload_n dX13_isOwnHere_197 1 0 rfl rfl (g_getP dX13_isOwnHere_198 fl_X13_69 rfl obM_0 rfl (g_callvI dX13_isOwnHere_201 ml_X13_280 md_X13_isHere mv_X13_isHere obM_0 rfl rfl rfl (Nat.le_of_ble_eq_true rfl) (CalI.mono (h28.2 q17) (fun x20 I18 J19 h27 => (g_if_ne dX13_isOwnHere_204 rfl (fun q21 => (g_sub [1] rfl (h27.1 q21))) (fun q21 => (g_aload_n dX13_isOwnHere_207 1 0 rfl rfl (g_aload_n dX13_isOwnHere_208 1 0 rfl rfl (g_getP dX13_isOwnHere_209 fl_X13_72 rfl obM_0 rfl (g_callvI dX13_isOwnHere_212 ml_X13_280 md_X13_isHere mv_X13_isHere obM_0 rfl rfl rfl (Nat.le_of_ble_eq_true rfl) (CalI.mono (h27.2 q21) (fun x24 I22 J23 h26 => (g_if_eq dX13_isOwnHere_215 rfl (fun q25 => (g_iconst dX13_isOwnHere_222 kc_0 (g_sub [1] rfl (h26.1 q25)))) (fun q25 => (g_sub [1] rfl (h26.2 q25))))))))))))))))))))))))))))))))))))))))))))))))))))))
theorem bX13_isOwnHere_218 {d : Nat}   {I : Ii} {J : Jj} {K : KI}
    (h : GoI wM (d + 1) mX13_isOwnHere 223 [(0, .ref (0))] [.int (1)] I J K) :
    GoI wM (d + 1) mX13_isOwnHere 218 [(0, .ref (0))] [] I J K :=
  (g_iconst dX13_isOwnHere_218 kc_1 (g_goto dX13_isOwnHere_219 rfl h))
theorem bX13_isOwnHere_223 {d : Nat}  {s0 : Int32} {I : Ii} {J : Jj} {K : KI}
    (h : ((¬ s0 = 0) → (GoI wM (d + 1) mX13_isOwnHere 294 [(0, .ref (0))] [] I J K)) ∧ ((s0 = 0) → (CalI wM d mX13_isHere [.ref (0), .ref (21)] I J (fun x4 I2 J3 => (((¬ x4 = 0) → (GoI wM (d + 1) mX13_isOwnHere 294 [(0, .ref (0))] [] I2 J3 K)) ∧ ((x4 = 0) → (CalI wM d mX13_isHere [.ref (0), .ref (22)] I2 J3 (fun x8 I6 J7 => (((¬ x8 = 0) → (GoI wM (d + 1) mX13_isOwnHere 294 [(0, .ref (0))] [] I6 J7 K)) ∧ ((x8 = 0) → (CalI wM d mX13_isHere [.ref (0), .ref (23)] I6 J7 (fun x12 I10 J11 => (((¬ x12 = 0) → (GoI wM (d + 1) mX13_isOwnHere 294 [(0, .ref (0))] [] I10 J11 K)) ∧ ((x12 = 0) → (CalI wM d mX13_isHere [.ref (0), .ref (24)] I10 J11 (fun x16 I14 J15 => (((¬ x16 = 0) → (GoI wM (d + 1) mX13_isOwnHere 294 [(0, .ref (0))] [] I14 J15 K)) ∧ ((x16 = 0) → (CalI wM d mX13_isHere [.ref (0), .ref (25)] I14 J15 (fun x20 I18 J19 => (((¬ x20 = 0) → (GoI wM (d + 1) mX13_isOwnHere 294 [(0, .ref (0))] [] I18 J19 K)) ∧ ((x20 = 0) → (CalI wM d mX13_isHere [.ref (0), .ref (26)] I18 J19 (fun x24 I22 J23 => (((x24 = 0) → (GoI wM (d + 1) mX13_isOwnHere 299 [(0, .ref (0))] [.int (0)] I22 J23 K)) ∧ ((¬ x24 = 0) → (GoI wM (d + 1) mX13_isOwnHere 294 [(0, .ref (0))] [] I22 J23 K))))))))))))))))))))))))))) :
    GoI wM (d + 1) mX13_isOwnHere 223 [(0, .ref (0))] [.int (s0)] I J K :=
  (g_istore_n dX13_isOwnHere_223 rfl (by decide) rfl (g_iload_n dX13_isOwnHere_224 0 1 rfl rfl (g_if_ne dX13_isOwnHere_225 rfl (fun q1 => (g_sub [1] rfl (h.1 q1))) (fun q1 => (g_aload_n dX13_isOwnHere_228 1 0 rfl rfl (g_aload_n dX13_isOwnHere_229 1 0 rfl rfl (g_getP dX13_isOwnHere_230 fl_X13_75 rfl obM_0 rfl (g_callvI dX13_isOwnHere_233 ml_X13_280 md_X13_isHere mv_X13_isHere obM_0 rfl rfl rfl (Nat.le_of_ble_eq_true rfl) (CalI.mono (h.2 q1) (fun x4 I2 J3 h31 => (g_if_ne dX13_isOwnHere_236 rfl (fun q5 => (g_sub [1] rfl (h31.1 q5))) (fun q5 => (g_aload_n dX13_isOwnHere_239 1 0 rfl rfl (g_aload_n dX13_isOwnHere_240 1 0 rfl rfl (g_getP dX13_isOwnHere_241 fl_X13_78 rfl obM_0 rfl (g_callvI dX13_isOwnHere_244 ml_X13_280 md_X13_isHere mv_X13_isHere obM_0 rfl rfl rfl (Nat.le_of_ble_eq_true rfl) (CalI.mono (h31.2 q5) (fun x8 I6 J7 h30 => (g_if_ne dX13_isOwnHere_247 rfl (fun q9 => (g_sub [1] rfl (h30.1 q9))) (fun q9 => (g_aload_n dX13_isOwnHere_250 1 0 rfl rfl (g_aload_n dX13_isOwnHere_251 1 0 rfl rfl (g_getP dX13_isOwnHere_252 fl_X13_81 rfl obM_0 rfl (g_callvI dX13_isOwnHere_255 ml_X13_280 md_X13_isHere mv_X13_isHere obM_0 rfl rfl rfl (Nat.le_of_ble_eq_true rfl) (CalI.mono (h30.2 q9) (fun x12 I10 J11 h29 => (g_if_ne dX13_isOwnHere_258 rfl (fun q13 => (g_sub [1] rfl (h29.1 q13))) (fun q13 => (g_aload_n dX13_isOwnHere_261 1 0 rfl rfl (g_aload_n dX13_isOwnHere_262 1 0 rfl rfl (g_getP dX13_isOwnHere_263 fl_X13_84 rfl obM_0 rfl (g_callvI dX13_isOwnHere_266 ml_X13_280 md_X13_isHere mv_X13_isHere obM_0 rfl rfl rfl (Nat.le_of_ble_eq_true rfl) (CalI.mono (h29.2 q13) (fun x16 I14 J15 h28 => (g_if_ne dX13_isOwnHere_269 rfl (fun q17 => (g_sub [1] rfl (h28.1 q17))) (fun q17 => (g_aload_n dX13_isOwnHere_272 1 0 rfl rfl (g_aload_n dX13_isOwnHere_273 1 0 rfl rfl (g_getP dX13_isOwnHere_274 fl_X13_87 rfl obM_0 rfl (g_callvI dX13_isOwnHere_277 ml_X13_280 md_X13_isHere mv_X13_isHere obM_0 rfl rfl rfl (Nat.le_of_ble_eq_true rfl) (CalI.mono (h28.2 q17) (fun x20 I18 J19 h27 => (g_if_ne dX13_isOwnHere_280 rfl (fun q21 => (g_sub [1] rfl (h27.1 q21))) (fun q21 => (g_aload_n dX13_isOwnHere_283 1 0 rfl rfl (g_aload_n dX13_isOwnHere_284 1 0 rfl rfl (g_getP dX13_isOwnHere_285 fl_X13_90 rfl obM_0 rfl (g_callvI dX13_isOwnHere_288 ml_X13_280 md_X13_isHere mv_X13_isHere obM_0 rfl rfl rfl (Nat.le_of_ble_eq_true rfl) (CalI.mono (h27.2 q21) (fun x24 I22 J23 h26 => (g_if_eq dX13_isOwnHere_291 rfl (fun q25 => (g_iconst dX13_isOwnHere_298 kc_0 (g_sub [1] rfl (h26.1 q25)))) (fun q25 => (g_sub [1] rfl (h26.2 q25))))))))))))))))))))))))))))))))))))))))))))))))))))))
theorem bX13_isOwnHere_294 {d : Nat}   {I : Ii} {J : Jj} {K : KI}
    (h : GoI wM (d + 1) mX13_isOwnHere 299 [(0, .ref (0))] [.int (1)] I J K) :
    GoI wM (d + 1) mX13_isOwnHere 294 [(0, .ref (0))] [] I J K :=
  (g_iconst dX13_isOwnHere_294 kc_1 (g_goto dX13_isOwnHere_295 rfl h))
theorem bX13_isOwnHere_299 {d : Nat}  {s0 : Int32} {I : Ii} {J : Jj} {K : KI}
    (h : ((¬ s0 = 0) → (GoI wM (d + 1) mX13_isOwnHere 348 [] [] I J K)) ∧ ((s0 = 0) → (CalI wM d mX13_isHere [.ref (0), .ref (27)] I J (fun x4 I2 J3 => (((¬ x4 = 0) → (GoI wM (d + 1) mX13_isOwnHere 348 [] [] I2 J3 K)) ∧ ((x4 = 0) → (CalI wM d mX13_isHere [.ref (0), .ref (28)] I2 J3 (fun x8 I6 J7 => (((¬ x8 = 0) → (GoI wM (d + 1) mX13_isOwnHere 348 [] [] I6 J7 K)) ∧ ((x8 = 0) → (CalI wM d mX13_isHere [.ref (0), .ref (29)] I6 J7 (fun x12 I10 J11 => (((¬ x12 = 0) → (GoI wM (d + 1) mX13_isOwnHere 348 [] [] I10 J11 K)) ∧ ((x12 = 0) → (CalI wM d mX13_isHere [.ref (0), .ref (30)] I10 J11 (fun x16 I14 J15 => (((x16 = 0) → (GoI wM (d + 1) mX13_isOwnHere 353 [] [.int (0)] I14 J15 K)) ∧ ((¬ x16 = 0) → (GoI wM (d + 1) mX13_isOwnHere 348 [] [] I14 J15 K))))))))))))))))))) :
    GoI wM (d + 1) mX13_isOwnHere 299 [(0, .ref (0))] [.int (s0)] I J K :=
  (g_istore_n dX13_isOwnHere_299 rfl (by decide) rfl (g_iload_n dX13_isOwnHere_300 0 1 rfl rfl (g_if_ne dX13_isOwnHere_301 rfl (fun q1 => (g_sub [] rfl (h.1 q1))) (fun q1 => (g_aload_n dX13_isOwnHere_304 1 0 rfl rfl (g_aload_n dX13_isOwnHere_305 1 0 rfl rfl (g_getP dX13_isOwnHere_306 fl_X13_93 rfl obM_0 rfl (g_callvI dX13_isOwnHere_309 ml_X13_280 md_X13_isHere mv_X13_isHere obM_0 rfl rfl rfl (Nat.le_of_ble_eq_true rfl) (CalI.mono (h.2 q1) (fun x4 I2 J3 h21 => (g_if_ne dX13_isOwnHere_312 rfl (fun q5 => (g_sub [] rfl (h21.1 q5))) (fun q5 => (g_aload_n dX13_isOwnHere_315 1 0 rfl rfl (g_aload_n dX13_isOwnHere_316 1 0 rfl rfl (g_getP dX13_isOwnHere_317 fl_X13_96 rfl obM_0 rfl (g_callvI dX13_isOwnHere_320 ml_X13_280 md_X13_isHere mv_X13_isHere obM_0 rfl rfl rfl (Nat.le_of_ble_eq_true rfl) (CalI.mono (h21.2 q5) (fun x8 I6 J7 h20 => (g_if_ne dX13_isOwnHere_323 rfl (fun q9 => (g_sub [] rfl (h20.1 q9))) (fun q9 => (g_aload_n dX13_isOwnHere_326 1 0 rfl rfl (g_aload_n dX13_isOwnHere_327 1 0 rfl rfl (g_getP dX13_isOwnHere_328 fl_X13_99 rfl obM_0 rfl (g_callvI dX13_isOwnHere_331 ml_X13_280 md_X13_isHere mv_X13_isHere obM_0 rfl rfl rfl (Nat.le_of_ble_eq_true rfl) (CalI.mono (h20.2 q9) (fun x12 I10 J11 h19 => (g_if_ne dX13_isOwnHere_334 rfl (fun q13 => (g_sub [] rfl (h19.1 q13))) (fun q13 => (g_aload_n dX13_isOwnHere_337 1 0 rfl rfl (g_aload_n dX13_isOwnHere_338 1 0 rfl rfl (g_getP dX13_isOwnHere_339 fl_X13_102 rfl obM_0 rfl (g_callvI dX13_isOwnHere_342 ml_X13_280 md_X13_isHere mv_X13_isHere obM_0 rfl rfl rfl (Nat.le_of_ble_eq_true rfl) (CalI.mono (h19.2 q13) (fun x16 I14 J15 h18 => (g_if_eq dX13_isOwnHere_345 rfl (fun q17 => (g_iconst dX13_isOwnHere_352 kc_0 (g_sub [] rfl (h18.1 q17)))) (fun q17 => (g_sub [] rfl (h18.2 q17))))))))))))))))))))))))))))))))))))))
theorem bX13_isOwnHere_348 {d : Nat}   {I : Ii} {J : Jj} {K : KI}
    (h : GoI wM (d + 1) mX13_isOwnHere 353 [] [.int (1)] I J K) :
    GoI wM (d + 1) mX13_isOwnHere 348 [] [] I J K :=
  (g_iconst dX13_isOwnHere_348 kc_1 (g_goto dX13_isOwnHere_349 rfl h))
theorem bX13_isOwnHere_353 {d : Nat}  {s0 : Int32} {I : Ii} {J : Jj} {K : KI}
    (h : ((s0) = 0 ∨ (s0) = 1) ∧ K (s0) I J) :
    GoI wM (d + 1) mX13_isOwnHere 353 [] [.int (s0)] I J K :=
  (g_istore_n dX13_isOwnHere_353 rfl (by decide) rfl (g_iload_n dX13_isOwnHere_354 0 1 rfl rfl (g_zreturn dX13_isOwnHere_355 rfl (narZ h.1) ⟨_, rfl, h.2⟩)))
theorem dX13_nameOf_0 : decode cX13_nameOf 0 = .ok (.iconst 0, 1) := by decide +kernel
theorem dX13_nameOf_1 : decode cX13_nameOf 1 = .ok (.istore 4, 2) := by decide +kernel
theorem dX13_nameOf_3 : decode cX13_nameOf 3 = .ok (.iload 4, 2) := by decide +kernel
theorem dX13_nameOf_5 : decode cX13_nameOf 5 = .ok (.aload_n 0, 1) := by decide +kernel
theorem dX13_nameOf_6 : decode cX13_nameOf 6 = .ok (.getfield 105, 3) := by decide +kernel
theorem dX13_nameOf_9 : decode cX13_nameOf 9 = .ok (.iload_n 1, 1) := by decide +kernel
theorem dX13_nameOf_10 : decode cX13_nameOf 10 = .ok (.iaload, 1) := by decide +kernel
theorem dX13_nameOf_11 : decode cX13_nameOf 11 = .ok (.if_icmp .ge 29, 3) := by decide +kernel
theorem dX13_nameOf_14 : decode cX13_nameOf 14 = .ok (.aload_n 0, 1) := by decide +kernel
theorem dX13_nameOf_15 : decode cX13_nameOf 15 = .ok (.getfield 108, 3) := by decide +kernel
theorem dX13_nameOf_18 : decode cX13_nameOf 18 = .ok (.bipush 8, 2) := by decide +kernel
theorem dX13_nameOf_20 : decode cX13_nameOf 20 = .ok (.iload_n 1, 1) := by decide +kernel
theorem dX13_nameOf_21 : decode cX13_nameOf 21 = .ok (.imul, 1) := by decide +kernel
theorem dX13_nameOf_22 : decode cX13_nameOf 22 = .ok (.iload 4, 2) := by decide +kernel
theorem dX13_nameOf_24 : decode cX13_nameOf 24 = .ok (.iadd, 1) := by decide +kernel
theorem dX13_nameOf_25 : decode cX13_nameOf 25 = .ok (.laload, 1) := by decide +kernel
theorem dX13_nameOf_26 : decode cX13_nameOf 26 = .ok (.lload_n 2, 1) := by decide +kernel
theorem dX13_nameOf_27 : decode cX13_nameOf 27 = .ok (.lcmp, 1) := by decide +kernel
theorem dX13_nameOf_28 : decode cX13_nameOf 28 = .ok (.ifCond .ne 6, 3) := by decide +kernel
theorem dX13_nameOf_31 : decode cX13_nameOf 31 = .ok (.iload 4, 2) := by decide +kernel
theorem dX13_nameOf_33 : decode cX13_nameOf 33 = .ok (.ireturn, 1) := by decide +kernel
theorem dX13_nameOf_34 : decode cX13_nameOf 34 = .ok (.iinc 4 1, 3) := by decide +kernel
theorem dX13_nameOf_37 : decode cX13_nameOf 37 = .ok (.goto (-34), 3) := by decide +kernel
theorem dX13_nameOf_40 : decode cX13_nameOf 40 = .ok (.iconst (-1), 1) := by decide +kernel
theorem dX13_nameOf_41 : decode cX13_nameOf 41 = .ok (.ireturn, 1) := by decide +kernel
theorem bX13_nameOf_0 {d : Nat}  {v1 : Int32} {v2 : Int64} {I : Ii} {J : Jj} {K : KI}
    (h : GoI wM d mX13_nameOf 3 [(0, .ref (0)), (1, .int (v1)), (2, .long (v2)), (4, .int (0))] [] I J K) :
    GoI wM d mX13_nameOf 0 [(0, .ref (0)), (1, .int (v1)), (2, .long (v2))] [] I J K :=
  (g_iconst dX13_nameOf_0 kc_0 (g_istore dX13_nameOf_1 (by decide) rfl (g_sub [1, 2, 3, 0] rfl h)))
theorem bX13_nameOf_3 {d : Nat}  {v1 : Int32} {v2 : Int64} {v4 : Int32} {I : Ii} {J : Jj} {K : KI}
    (h : vp_in (v1) 4 ∧ ((((I 31 v1.toNatClampNeg) ≤ v4) → (K ((-1)) I J)) ∧ ((¬ (I 31 v1.toNatClampNeg) ≤ v4) → (vp_in ((8 * v1) + v4) 32 ∧ (((¬ (lg_cmp (J 32 ((8 * v1) + v4).toNatClampNeg) v2) = 0) → (GoI wM d mX13_nameOf 3 [(0, .ref (0)), (1, .int (v1)), (2, .long (v2)), (4, .int (v4 + 1))] [] I J K)) ∧ (((lg_cmp (J 32 ((8 * v1) + v4).toNatClampNeg) v2) = 0) → (K (v4) I J))))))) :
    GoI wM d mX13_nameOf 3 [(0, .ref (0)), (1, .int (v1)), (2, .long (v2)), (4, .int (v4))] [] I J K :=
  (g_iload dX13_nameOf_3 3 rfl (g_aload_n dX13_nameOf_5 0 0 rfl rfl (g_getP dX13_nameOf_6 fl_X13_105 rfl obM_0 rfl (g_iload_n dX13_nameOf_9 1 1 rfl rfl (have b1 := h.1; g_iald dX13_nameOf_10 arM_31 b1 (g_icmp_ge dX13_nameOf_11 rfl (fun q2 => (g_iconst dX13_nameOf_40 kc_n1 (g_ireturn dX13_nameOf_41 rfl ⟨_, rfl, (h.2.1 q2)⟩))) (fun q2 => (g_aload_n dX13_nameOf_14 0 0 rfl rfl (g_getP dX13_nameOf_15 fl_X13_108 rfl obM_0 rfl (g_bipush dX13_nameOf_18 kb_8 (g_iload_n dX13_nameOf_20 1 1 rfl rfl (g_imul dX13_nameOf_21 (g_iload dX13_nameOf_22 3 rfl (g_iadd dX13_nameOf_24 (have b3 := (h.2.2 q2).1; g_lald dX13_nameOf_25 arM_32 b3 (g_lload_n dX13_nameOf_26 2 2 rfl rfl (g_lcmp dX13_nameOf_27 (g_if_ne dX13_nameOf_28 rfl (fun q4 => (g_iinc dX13_nameOf_34 3 rfl rfl (by decide) rfl (g_goto dX13_nameOf_37 rfl (g_sub [1, 2, 3, 0] rfl ((h.2.2 q2).2.1 q4))))) (fun q4 => (g_iload dX13_nameOf_31 3 rfl (g_ireturn dX13_nameOf_33 rfl ⟨_, rfl, ((h.2.2 q2).2.2 q4)⟩)))))))))))))))))))))
theorem dX13_asks_0 : decode cX13_asks 0 = .ok (.aload_n 0, 1) := by decide +kernel
theorem dX13_asks_1 : decode cX13_asks 1 = .ok (.getfield 257, 3) := by decide +kernel
theorem dX13_asks_4 : decode cX13_asks 4 = .ok (.ifCond .ne 20, 3) := by decide +kernel
theorem dX13_asks_7 : decode cX13_asks 7 = .ok (.aload_n 0, 1) := by decide +kernel
theorem dX13_asks_8 : decode cX13_asks 8 = .ok (.aload_n 1, 1) := by decide +kernel
theorem dX13_asks_9 : decode cX13_asks 9 = .ok (.invokevirtual 284, 3) := by decide +kernel
theorem dX13_asks_12 : decode cX13_asks 12 = .ok (.ifCond .ne 12, 3) := by decide +kernel
theorem dX13_asks_15 : decode cX13_asks 15 = .ok (.aload_n 0, 1) := by decide +kernel
theorem dX13_asks_16 : decode cX13_asks 16 = .ok (.iconst 1, 1) := by decide +kernel
theorem dX13_asks_17 : decode cX13_asks 17 = .ok (.aload_n 0, 1) := by decide +kernel
theorem dX13_asks_18 : decode cX13_asks 18 = .ok (.getfield 263, 3) := by decide +kernel
theorem dX13_asks_21 : decode cX13_asks 21 = .ok (.invokevirtual 287, 3) := by decide +kernel
theorem dX13_asks_24 : decode cX13_asks 24 = .ok (.return_, 1) := by decide +kernel
theorem bX13_asks_0 {d : Nat}  {a1 n1 : Nat} (ha1 : z_Ar wM a1 2 n1)  {I : Ii} {J : Jj} {K : KV}
    (h : ((¬ (I 0 5) = 0) → (K I J)) ∧ (((I 0 5) = 0) → (CalI wM d mX13_takes [.ref (0), .ref (a1)] I J (fun x4 I2 J3 => (((¬ x4 = 0) → (K I2 J3)) ∧ ((x4 = 0) → (CalV wM d mX13_fail [.ref (0), .int (1), .int (I2 0 2)] I2 J3 (fun I6 J7 => (K I6 J7))))))))) :
    GoV wM (d + 1) mX13_asks 0 [(0, .ref (0)), (1, .ref (a1))] [] I J K :=
  (g_aload_n dX13_asks_0 0 0 rfl rfl (g_getI dX13_asks_1 fl_X13_257 rfl obM_0 (g_if_ne dX13_asks_4 rfl (fun q1 => (g_return dX13_asks_24 rfl ⟨rfl, (h.1 q1)⟩)) (fun q1 => (g_aload_n dX13_asks_7 0 0 rfl rfl (g_aload_n dX13_asks_8 1 1 rfl rfl (g_callvI dX13_asks_9 ml_X13_284 md_X13_takes mv_X13_takes obM_0 rfl rfl rfl (Nat.le_of_ble_eq_true rfl) (CalI.mono (h.2 q1) (fun x4 I2 J3 h9 => (g_if_ne dX13_asks_12 rfl (fun q5 => (g_return dX13_asks_24 rfl ⟨rfl, (h9.1 q5)⟩)) (fun q5 => (g_aload_n dX13_asks_15 0 0 rfl rfl (g_iconst dX13_asks_16 kc_1 (g_aload_n dX13_asks_17 0 0 rfl rfl (g_getI dX13_asks_18 fl_X13_263 rfl obM_0 (g_callvV dX13_asks_21 ml_X13_287 md_X13_fail mv_X13_fail obM_0 rfl rfl rfl (Nat.le_of_ble_eq_true rfl) (CalV.mono (h9.2 q5) (fun I6 J7 h8 => (g_return dX13_asks_24 rfl ⟨rfl, h8⟩)))))))))))))))))))
theorem dX13_number_0 : decode cX13_number 0 = .ok (.aload_n 0, 1) := by decide +kernel
theorem dX13_number_1 : decode cX13_number 1 = .ok (.getfield 257, 3) := by decide +kernel
theorem dX13_number_4 : decode cX13_number 4 = .ok (.ifCond .eq 5, 3) := by decide +kernel
theorem dX13_number_7 : decode cX13_number 7 = .ok (.iconst 0, 1) := by decide +kernel
theorem dX13_number_8 : decode cX13_number 8 = .ok (.ireturn, 1) := by decide +kernel
theorem dX13_number_9 : decode cX13_number 9 = .ok (.aload_n 0, 1) := by decide +kernel
theorem dX13_number_10 : decode cX13_number 10 = .ok (.invokevirtual 269, 3) := by decide +kernel
theorem dX13_number_13 : decode cX13_number 13 = .ok (.invokestatic 294, 3) := by decide +kernel
theorem dX13_number_16 : decode cX13_number 16 = .ok (.ifCond .eq 14, 3) := by decide +kernel
theorem dX13_number_19 : decode cX13_number 19 = .ok (.aload_n 0, 1) := by decide +kernel
theorem dX13_number_20 : decode cX13_number 20 = .ok (.getfield 263, 3) := by decide +kernel
theorem dX13_number_23 : decode cX13_number 23 = .ok (.aload_n 0, 1) := by decide +kernel
theorem dX13_number_24 : decode cX13_number 24 = .ok (.getfield 277, 3) := by decide +kernel
theorem dX13_number_27 : decode cX13_number 27 = .ok (.if_icmp .ne 14, 3) := by decide +kernel
theorem dX13_number_30 : decode cX13_number 30 = .ok (.aload_n 0, 1) := by decide +kernel
theorem dX13_number_31 : decode cX13_number 31 = .ok (.iconst 1, 1) := by decide +kernel
theorem dX13_number_32 : decode cX13_number 32 = .ok (.aload_n 0, 1) := by decide +kernel
theorem dX13_number_33 : decode cX13_number 33 = .ok (.getfield 263, 3) := by decide +kernel
theorem dX13_number_36 : decode cX13_number 36 = .ok (.invokevirtual 287, 3) := by decide +kernel
theorem dX13_number_39 : decode cX13_number 39 = .ok (.iconst 0, 1) := by decide +kernel
theorem dX13_number_40 : decode cX13_number 40 = .ok (.ireturn, 1) := by decide +kernel
theorem dX13_number_41 : decode cX13_number 41 = .ok (.aload_n 0, 1) := by decide +kernel
theorem dX13_number_42 : decode cX13_number 42 = .ok (.getfield 263, 3) := by decide +kernel
theorem dX13_number_45 : decode cX13_number 45 = .ok (.istore_n 3, 1) := by decide +kernel
theorem dX13_number_46 : decode cX13_number 46 = .ok (.iconst 0, 1) := by decide +kernel
theorem dX13_number_47 : decode cX13_number 47 = .ok (.istore 4, 2) := by decide +kernel
theorem dX13_number_49 : decode cX13_number 49 = .ok (.aload_n 0, 1) := by decide +kernel
theorem dX13_number_50 : decode cX13_number 50 = .ok (.getfield 263, 3) := by decide +kernel
theorem dX13_number_53 : decode cX13_number 53 = .ok (.aload_n 0, 1) := by decide +kernel
theorem dX13_number_54 : decode cX13_number 54 = .ok (.getfield 266, 3) := by decide +kernel
theorem dX13_number_57 : decode cX13_number 57 = .ok (.if_icmp .ge 72, 3) := by decide +kernel
theorem dX13_number_60 : decode cX13_number 60 = .ok (.aload_n 0, 1) := by decide +kernel
theorem dX13_number_61 : decode cX13_number 61 = .ok (.getfield 7, 3) := by decide +kernel
theorem dX13_number_64 : decode cX13_number 64 = .ok (.aload_n 0, 1) := by decide +kernel
theorem dX13_number_65 : decode cX13_number 65 = .ok (.getfield 263, 3) := by decide +kernel
theorem dX13_number_68 : decode cX13_number 68 = .ok (.iaload, 1) := by decide +kernel
theorem dX13_number_69 : decode cX13_number 69 = .ok (.invokestatic 294, 3) := by decide +kernel
theorem dX13_number_72 : decode cX13_number 72 = .ok (.ifCond .eq 57, 3) := by decide +kernel
theorem dX13_number_75 : decode cX13_number 75 = .ok (.aload_n 0, 1) := by decide +kernel
theorem dX13_number_76 : decode cX13_number 76 = .ok (.getfield 263, 3) := by decide +kernel
theorem dX13_number_79 : decode cX13_number 79 = .ok (.iload_n 3, 1) := by decide +kernel
theorem dX13_number_80 : decode cX13_number 80 = .ok (.isub, 1) := by decide +kernel
theorem dX13_number_81 : decode cX13_number 81 = .ok (.iconst 4, 1) := by decide +kernel
theorem dX13_number_82 : decode cX13_number 82 = .ok (.if_icmp .ne 14, 3) := by decide +kernel
theorem dX13_number_85 : decode cX13_number 85 = .ok (.aload_n 0, 1) := by decide +kernel
theorem dX13_number_86 : decode cX13_number 86 = .ok (.iconst 1, 1) := by decide +kernel
theorem dX13_number_87 : decode cX13_number 87 = .ok (.aload_n 0, 1) := by decide +kernel
theorem dX13_number_88 : decode cX13_number 88 = .ok (.getfield 263, 3) := by decide +kernel
theorem dX13_number_91 : decode cX13_number 91 = .ok (.invokevirtual 287, 3) := by decide +kernel
theorem dX13_number_94 : decode cX13_number 94 = .ok (.iconst 0, 1) := by decide +kernel
theorem dX13_number_95 : decode cX13_number 95 = .ok (.ireturn, 1) := by decide +kernel
theorem dX13_number_96 : decode cX13_number 96 = .ok (.bipush 10, 2) := by decide +kernel
theorem dX13_number_98 : decode cX13_number 98 = .ok (.iload 4, 2) := by decide +kernel
theorem dX13_number_100 : decode cX13_number 100 = .ok (.imul, 1) := by decide +kernel
theorem dX13_number_101 : decode cX13_number 101 = .ok (.aload_n 0, 1) := by decide +kernel
theorem dX13_number_102 : decode cX13_number 102 = .ok (.getfield 7, 3) := by decide +kernel
theorem dX13_number_105 : decode cX13_number 105 = .ok (.aload_n 0, 1) := by decide +kernel
theorem dX13_number_106 : decode cX13_number 106 = .ok (.getfield 263, 3) := by decide +kernel
theorem dX13_number_109 : decode cX13_number 109 = .ok (.iaload, 1) := by decide +kernel
theorem dX13_number_110 : decode cX13_number 110 = .ok (.iadd, 1) := by decide +kernel
theorem dX13_number_111 : decode cX13_number 111 = .ok (.bipush 48, 2) := by decide +kernel
theorem dX13_number_113 : decode cX13_number 113 = .ok (.isub, 1) := by decide +kernel
theorem dX13_number_114 : decode cX13_number 114 = .ok (.istore 4, 2) := by decide +kernel
theorem dX13_number_116 : decode cX13_number 116 = .ok (.aload_n 0, 1) := by decide +kernel
theorem dX13_number_117 : decode cX13_number 117 = .ok (.dup, 1) := by decide +kernel
theorem dX13_number_118 : decode cX13_number 118 = .ok (.getfield 263, 3) := by decide +kernel
theorem dX13_number_121 : decode cX13_number 121 = .ok (.iconst 1, 1) := by decide +kernel
theorem dX13_number_122 : decode cX13_number 122 = .ok (.iadd, 1) := by decide +kernel
theorem dX13_number_123 : decode cX13_number 123 = .ok (.putfield 263, 3) := by decide +kernel
theorem dX13_number_126 : decode cX13_number 126 = .ok (.goto (-77), 3) := by decide +kernel
theorem dX13_number_129 : decode cX13_number 129 = .ok (.aload_n 0, 1) := by decide +kernel
theorem dX13_number_130 : decode cX13_number 130 = .ok (.aload_n 0, 1) := by decide +kernel
theorem dX13_number_131 : decode cX13_number 131 = .ok (.getfield 263, 3) := by decide +kernel
theorem dX13_number_134 : decode cX13_number 134 = .ok (.putfield 277, 3) := by decide +kernel
theorem dX13_number_137 : decode cX13_number 137 = .ok (.iload 4, 2) := by decide +kernel
theorem dX13_number_139 : decode cX13_number 139 = .ok (.i2l, 1) := by decide +kernel
theorem dX13_number_140 : decode cX13_number 140 = .ok (.iload_n 1, 1) := by decide +kernel
theorem dX13_number_141 : decode cX13_number 141 = .ok (.i2l, 1) := by decide +kernel
theorem dX13_number_142 : decode cX13_number 142 = .ok (.iload_n 2, 1) := by decide +kernel
theorem dX13_number_143 : decode cX13_number 143 = .ok (.i2l, 1) := by decide +kernel
theorem dX13_number_144 : decode cX13_number 144 = .ok (.invokestatic 297, 3) := by decide +kernel
theorem dX13_number_147 : decode cX13_number 147 = .ok (.ifCond .ne 9, 3) := by decide +kernel
theorem dX13_number_150 : decode cX13_number 150 = .ok (.aload_n 0, 1) := by decide +kernel
theorem dX13_number_151 : decode cX13_number 151 = .ok (.iconst 2, 1) := by decide +kernel
theorem dX13_number_152 : decode cX13_number 152 = .ok (.iload_n 3, 1) := by decide +kernel
theorem dX13_number_153 : decode cX13_number 153 = .ok (.invokevirtual 287, 3) := by decide +kernel
theorem dX13_number_156 : decode cX13_number 156 = .ok (.iload 4, 2) := by decide +kernel
theorem dX13_number_158 : decode cX13_number 158 = .ok (.ireturn, 1) := by decide +kernel
theorem bX13_number_0 {d : Nat}  {v1 : Int32} {v2 : Int32} {I : Ii} {J : Jj} {K : KI}
    (h : (((I 0 5) = 0) → (CalI wM d mX13_look [.ref (0)] I J (fun x4 I2 J3 => (CalI wM d mX13_isDigit [.int (x4)] I2 J3 (fun x7 I5 J6 => (((x7 = 0) → (CalV wM d mX13_fail [.ref (0), .int (1), .int (I5 0 2)] I5 J6 (fun I9 J10 => (K (0) I9 J10)))) ∧ ((¬ x7 = 0) → (((¬ (I5 0 2) = (I5 0 4)) → (GoI wM (d + 1) mX13_number 49 [(0, .ref (0)), (1, .int (v1)), (2, .int (v2)), (3, .int (I5 0 2)), (4, .int (0))] [] I5 J6 K)) ∧ (((I5 0 2) = (I5 0 4)) → (CalV wM d mX13_fail [.ref (0), .int (1), .int (I5 0 2)] I5 J6 (fun I13 J14 => (K (0) I13 J14)))))))))))) ∧ ((¬ (I 0 5) = 0) → (K (0) I J))) :
    GoI wM (d + 1) mX13_number 0 [(0, .ref (0)), (1, .int (v1)), (2, .int (v2))] [] I J K :=
  (g_aload_n dX13_number_0 0 0 rfl rfl (g_getI dX13_number_1 fl_X13_257 rfl obM_0 (g_if_eq dX13_number_4 rfl (fun q1 => (g_aload_n dX13_number_9 0 0 rfl rfl (g_callvI dX13_number_10 ml_X13_269 md_X13_look mv_X13_look obM_0 rfl rfl rfl (Nat.le_of_ble_eq_true rfl) (CalI.mono (h.1 q1) (fun x4 I2 J3 h17 => (g_callsI dX13_number_13 ml_X13_294 md_X13_isDigit ms_X13_isDigit rfl rfl (Nat.le_of_ble_eq_true rfl) (CalI.mono h17 (fun x7 I5 J6 h16 => (g_if_eq dX13_number_16 rfl (fun q8 => (g_aload_n dX13_number_30 0 0 rfl rfl (g_iconst dX13_number_31 kc_1 (g_aload_n dX13_number_32 0 0 rfl rfl (g_getI dX13_number_33 fl_X13_263 rfl obM_0 (g_callvV dX13_number_36 ml_X13_287 md_X13_fail mv_X13_fail obM_0 rfl rfl rfl (Nat.le_of_ble_eq_true rfl) (CalV.mono (h16.1 q8) (fun I9 J10 h11 => (g_iconst dX13_number_39 kc_0 (g_ireturn dX13_number_40 rfl ⟨_, rfl, h11⟩)))))))))) (fun q8 => (g_aload_n dX13_number_19 0 0 rfl rfl (g_getI dX13_number_20 fl_X13_263 rfl obM_0 (g_aload_n dX13_number_23 0 0 rfl rfl (g_getI dX13_number_24 fl_X13_277 rfl obM_0 (g_icmp_ne dX13_number_27 rfl (fun q12 => (g_aload_n dX13_number_41 0 0 rfl rfl (g_getI dX13_number_42 fl_X13_263 rfl obM_0 (g_istore_n dX13_number_45 rfl (by decide) rfl (g_iconst dX13_number_46 kc_0 (g_istore dX13_number_47 (by decide) rfl (g_sub [2, 3, 4, 1, 0] rfl ((h16.2 q8).1 q12)))))))) (fun q12 => (g_aload_n dX13_number_30 0 0 rfl rfl (g_iconst dX13_number_31 kc_1 (g_aload_n dX13_number_32 0 0 rfl rfl (g_getI dX13_number_33 fl_X13_263 rfl obM_0 (g_callvV dX13_number_36 ml_X13_287 md_X13_fail mv_X13_fail obM_0 rfl rfl rfl (Nat.le_of_ble_eq_true rfl) (CalV.mono ((h16.2 q8).2 q12) (fun I13 J14 h15 => (g_iconst dX13_number_39 kc_0 (g_ireturn dX13_number_40 rfl ⟨_, rfl, h15⟩))))))))))))))))))))))))) (fun q1 => (g_iconst dX13_number_7 kc_0 (g_ireturn dX13_number_8 rfl ⟨_, rfl, (h.2 q1)⟩))))))
theorem bX13_number_49 {d : Nat}  {v1 : Int32} {v2 : Int32} {v3 : Int32} {v4 : Int32} {I : Ii} {J : Jj} {K : KI}
    (h : (((I 0 3) ≤ (I 0 2)) → (CalI wM d mX13_isIn [.long (v4.toInt64), .long (v1.toInt64), .long (v2.toInt64)] (u2 I 0 4 (I 0 2)) J (fun x5 I3 J4 => (((¬ x5 = 0) → (K (v4) I3 J4)) ∧ ((x5 = 0) → (CalV wM d mX13_fail [.ref (0), .int (2), .int (v3)] I3 J4 (fun I7 J8 => (K (v4) I7 J8)))))))) ∧ ((¬ (I 0 3) ≤ (I 0 2)) → (vp_in (I 0 2) 1600 ∧ (CalI wM d mX13_isDigit [.int (I 1 (I 0 2).toNatClampNeg)] I J (fun x14 I12 J13 => (((x14 = 0) → (CalI wM d mX13_isIn [.long (v4.toInt64), .long (v1.toInt64), .long (v2.toInt64)] (u2 I12 0 4 (I12 0 2)) J13 (fun x19 I17 J18 => (((¬ x19 = 0) → (K (v4) I17 J18)) ∧ ((x19 = 0) → (CalV wM d mX13_fail [.ref (0), .int (2), .int (v3)] I17 J18 (fun I21 J22 => (K (v4) I21 J22)))))))) ∧ ((¬ x14 = 0) → (((¬ ((I12 0 2) - v3) = 4) → (vp_in (I12 0 2) 1600 ∧ (∀ y27 : Int32, y27 = ((10 * v4) + (I12 1 (I12 0 2).toNatClampNeg)) - 48 → (GoI wM (d + 1) mX13_number 49 [(0, .ref (0)), (1, .int (v1)), (2, .int (v2)), (3, .int (v3)), (4, .int (y27))] [] (u2 I12 0 2 ((I12 0 2) + 1)) J13 K)))) ∧ ((((I12 0 2) - v3) = 4) → (CalV wM d mX13_fail [.ref (0), .int (1), .int (I12 0 2)] I12 J13 (fun I29 J30 => (K (0) I29 J30)))))))))))) :
    GoI wM (d + 1) mX13_number 49 [(0, .ref (0)), (1, .int (v1)), (2, .int (v2)), (3, .int (v3)), (4, .int (v4))] [] I J K :=
  (g_aload_n dX13_number_49 0 0 rfl rfl (g_getI dX13_number_50 fl_X13_263 rfl obM_0 (g_aload_n dX13_number_53 0 0 rfl rfl (g_getI dX13_number_54 fl_X13_266 rfl obM_0 (g_icmp_ge dX13_number_57 rfl (fun q1 => (g_aload_n dX13_number_129 0 0 rfl rfl (g_aload_n dX13_number_130 0 0 rfl rfl (g_getI dX13_number_131 fl_X13_263 rfl obM_0 (g_putI dX13_number_134 fl_X13_277 rfl rfl obM_0 (g_iload dX13_number_137 4 rfl (g_i2l dX13_number_139 (g_iload_n dX13_number_140 1 1 rfl rfl (g_i2l dX13_number_141 (g_iload_n dX13_number_142 2 2 rfl rfl (g_i2l dX13_number_143 (g_callsI dX13_number_144 ml_X13_297 md_X13_isIn ms_X13_isIn rfl rfl (Nat.le_of_ble_eq_true rfl) (CalI.mono (h.1 q1) (fun x5 I3 J4 h10 => (g_if_ne dX13_number_147 rfl (fun q6 => (g_iload dX13_number_156 4 rfl (g_ireturn dX13_number_158 rfl ⟨_, rfl, (h10.1 q6)⟩))) (fun q6 => (g_aload_n dX13_number_150 0 0 rfl rfl (g_iconst dX13_number_151 kc_2 (g_iload_n dX13_number_152 3 3 rfl rfl (g_callvV dX13_number_153 ml_X13_287 md_X13_fail mv_X13_fail obM_0 rfl rfl rfl (Nat.le_of_ble_eq_true rfl) (CalV.mono (h10.2 q6) (fun I7 J8 h9 => (g_iload dX13_number_156 4 rfl (g_ireturn dX13_number_158 rfl ⟨_, rfl, h9⟩)))))))))))))))))))))))) (fun q1 => (g_aload_n dX13_number_60 0 0 rfl rfl (g_getP dX13_number_61 fl_X13_7 rfl obM_0 rfl (g_aload_n dX13_number_64 0 0 rfl rfl (g_getI dX13_number_65 fl_X13_263 rfl obM_0 (have b11 := (h.2 q1).1; g_iald dX13_number_68 arM_1 b11 (g_callsI dX13_number_69 ml_X13_294 md_X13_isDigit ms_X13_isDigit rfl rfl (Nat.le_of_ble_eq_true rfl) (CalI.mono (h.2 q1).2 (fun x14 I12 J13 h32 => (g_if_eq dX13_number_72 rfl (fun q15 => (g_aload_n dX13_number_129 0 0 rfl rfl (g_aload_n dX13_number_130 0 0 rfl rfl (g_getI dX13_number_131 fl_X13_263 rfl obM_0 (g_putI dX13_number_134 fl_X13_277 rfl rfl obM_0 (g_iload dX13_number_137 4 rfl (g_i2l dX13_number_139 (g_iload_n dX13_number_140 1 1 rfl rfl (g_i2l dX13_number_141 (g_iload_n dX13_number_142 2 2 rfl rfl (g_i2l dX13_number_143 (g_callsI dX13_number_144 ml_X13_297 md_X13_isIn ms_X13_isIn rfl rfl (Nat.le_of_ble_eq_true rfl) (CalI.mono (h32.1 q15) (fun x19 I17 J18 h24 => (g_if_ne dX13_number_147 rfl (fun q20 => (g_iload dX13_number_156 4 rfl (g_ireturn dX13_number_158 rfl ⟨_, rfl, (h24.1 q20)⟩))) (fun q20 => (g_aload_n dX13_number_150 0 0 rfl rfl (g_iconst dX13_number_151 kc_2 (g_iload_n dX13_number_152 3 3 rfl rfl (g_callvV dX13_number_153 ml_X13_287 md_X13_fail mv_X13_fail obM_0 rfl rfl rfl (Nat.le_of_ble_eq_true rfl) (CalV.mono (h24.2 q20) (fun I21 J22 h23 => (g_iload dX13_number_156 4 rfl (g_ireturn dX13_number_158 rfl ⟨_, rfl, h23⟩)))))))))))))))))))))))) (fun q15 => (g_aload_n dX13_number_75 0 0 rfl rfl (g_getI dX13_number_76 fl_X13_263 rfl obM_0 (g_iload_n dX13_number_79 3 3 rfl rfl (g_isub dX13_number_80 (g_iconst dX13_number_81 kc_4 (g_icmp_ne dX13_number_82 rfl (fun q25 => (g_bipush dX13_number_96 kb_10 (g_iload dX13_number_98 4 rfl (g_imul dX13_number_100 (g_aload_n dX13_number_101 0 0 rfl rfl (g_getP dX13_number_102 fl_X13_7 rfl obM_0 rfl (g_aload_n dX13_number_105 0 0 rfl rfl (g_getI dX13_number_106 fl_X13_263 rfl obM_0 (have b26 := ((h32.2 q15).1 q25).1; g_iald dX13_number_109 arM_1 b26 (g_iadd dX13_number_110 (g_bipush dX13_number_111 kb_48 (g_isub dX13_number_113 (g_istore dX13_number_114 (by decide) rfl (g_aload_n dX13_number_116 1 0 rfl rfl (g_dup dX13_number_117 rfl (g_getI dX13_number_118 fl_X13_263 rfl obM_0 (g_iconst dX13_number_121 kc_1 (g_iadd dX13_number_122 (g_putI dX13_number_123 fl_X13_263 rfl rfl obM_0 (g_goto dX13_number_126 rfl (g_sub [1, 2, 3, 4, 0] rfl (((h32.2 q15).1 q25).2 _ rfl)))))))))))))))))))))) (fun q25 => (g_aload_n dX13_number_85 0 0 rfl rfl (g_iconst dX13_number_86 kc_1 (g_aload_n dX13_number_87 0 0 rfl rfl (g_getI dX13_number_88 fl_X13_263 rfl obM_0 (g_callvV dX13_number_91 ml_X13_287 md_X13_fail mv_X13_fail obM_0 rfl rfl rfl (Nat.le_of_ble_eq_true rfl) (CalV.mono ((h32.2 q15).2 q25) (fun I29 J30 h31 => (g_iconst dX13_number_94 kc_0 (g_ireturn dX13_number_95 rfl ⟨_, rfl, h31⟩))))))))))))))))))))))))))))))))
theorem dX13_isDigit_0 : decode cX13_isDigit 0 = .ok (.iload_n 0, 1) := by decide +kernel
theorem dX13_isDigit_1 : decode cX13_isDigit 1 = .ok (.bipush 48, 2) := by decide +kernel
theorem dX13_isDigit_3 : decode cX13_isDigit 3 = .ok (.if_icmp .lt 13, 3) := by decide +kernel
theorem dX13_isDigit_6 : decode cX13_isDigit 6 = .ok (.iload_n 0, 1) := by decide +kernel
theorem dX13_isDigit_7 : decode cX13_isDigit 7 = .ok (.bipush 57, 2) := by decide +kernel
theorem dX13_isDigit_9 : decode cX13_isDigit 9 = .ok (.if_icmp .gt 7, 3) := by decide +kernel
theorem dX13_isDigit_12 : decode cX13_isDigit 12 = .ok (.iconst 1, 1) := by decide +kernel
theorem dX13_isDigit_13 : decode cX13_isDigit 13 = .ok (.goto 4, 3) := by decide +kernel
theorem dX13_isDigit_16 : decode cX13_isDigit 16 = .ok (.iconst 0, 1) := by decide +kernel
theorem dX13_isDigit_17 : decode cX13_isDigit 17 = .ok (.ireturn, 1) := by decide +kernel
theorem bX13_isDigit_0 {d : Nat}  {v0 : Int32} {I : Ii} {J : Jj} {K : KI}
    (h : ((v0 < 48) → (K (0) I J)) ∧ ((¬ v0 < 48) → (((57 < v0) → (K (0) I J)) ∧ ((¬ 57 < v0) → (K (1) I J))))) :
    GoI wM d mX13_isDigit 0 [(0, .int (v0))] [] I J K :=
  (g_iload_n dX13_isDigit_0 0 0 rfl rfl (g_bipush dX13_isDigit_1 kb_48 (g_icmp_lt dX13_isDigit_3 rfl (fun q1 => (g_iconst dX13_isDigit_16 kc_0 (g_zreturn dX13_isDigit_17 rfl (narZ (by decide)) ⟨_, rfl, (h.1 q1)⟩))) (fun q1 => (g_iload_n dX13_isDigit_6 0 0 rfl rfl (g_bipush dX13_isDigit_7 kb_57 (g_icmp_gt dX13_isDigit_9 rfl (fun q2 => (g_iconst dX13_isDigit_16 kc_0 (g_zreturn dX13_isDigit_17 rfl (narZ (by decide)) ⟨_, rfl, ((h.2 q1).1 q2)⟩))) (fun q2 => (g_iconst dX13_isDigit_12 kc_1 (g_goto dX13_isDigit_13 rfl (g_zreturn dX13_isDigit_17 rfl (narZ (by decide)) ⟨_, rfl, ((h.2 q1).2 q2)⟩)))))))))))
theorem dX13_isIn_0 : decode cX13_isIn 0 = .ok (.lload_n 0, 1) := by decide +kernel
theorem dX13_isIn_1 : decode cX13_isIn 1 = .ok (.lload_n 2, 1) := by decide +kernel
theorem dX13_isIn_2 : decode cX13_isIn 2 = .ok (.lcmp, 1) := by decide +kernel
theorem dX13_isIn_3 : decode cX13_isIn 3 = .ok (.ifCond .lt 14, 3) := by decide +kernel
theorem dX13_isIn_6 : decode cX13_isIn 6 = .ok (.lload_n 0, 1) := by decide +kernel
theorem dX13_isIn_7 : decode cX13_isIn 7 = .ok (.lload 4, 2) := by decide +kernel
theorem dX13_isIn_9 : decode cX13_isIn 9 = .ok (.lcmp, 1) := by decide +kernel
theorem dX13_isIn_10 : decode cX13_isIn 10 = .ok (.ifCond .gt 7, 3) := by decide +kernel
theorem dX13_isIn_13 : decode cX13_isIn 13 = .ok (.iconst 1, 1) := by decide +kernel
theorem dX13_isIn_14 : decode cX13_isIn 14 = .ok (.goto 4, 3) := by decide +kernel
theorem dX13_isIn_17 : decode cX13_isIn 17 = .ok (.iconst 0, 1) := by decide +kernel
theorem dX13_isIn_18 : decode cX13_isIn 18 = .ok (.ireturn, 1) := by decide +kernel
theorem bX13_isIn_0 {d : Nat}  {v0 : Int64} {v2 : Int64} {v4 : Int64} {I : Ii} {J : Jj} {K : KI}
    (h : (((lg_cmp v0 v2) < 0) → (K (0) I J)) ∧ ((¬ (lg_cmp v0 v2) < 0) → (((0 < (lg_cmp v0 v4)) → (K (0) I J)) ∧ ((¬ 0 < (lg_cmp v0 v4)) → (K (1) I J))))) :
    GoI wM d mX13_isIn 0 [(0, .long (v0)), (2, .long (v2)), (4, .long (v4))] [] I J K :=
  (g_lload_n dX13_isIn_0 0 0 rfl rfl (g_lload_n dX13_isIn_1 1 2 rfl rfl (g_lcmp dX13_isIn_2 (g_if_lt dX13_isIn_3 rfl (fun q1 => (g_iconst dX13_isIn_17 kc_0 (g_zreturn dX13_isIn_18 rfl (narZ (by decide)) ⟨_, rfl, (h.1 q1)⟩))) (fun q1 => (g_lload_n dX13_isIn_6 0 0 rfl rfl (g_lload dX13_isIn_7 2 rfl (g_lcmp dX13_isIn_9 (g_if_gt dX13_isIn_10 rfl (fun q2 => (g_iconst dX13_isIn_17 kc_0 (g_zreturn dX13_isIn_18 rfl (narZ (by decide)) ⟨_, rfl, ((h.2 q1).1 q2)⟩))) (fun q2 => (g_iconst dX13_isIn_13 kc_1 (g_goto dX13_isIn_14 rfl (g_zreturn dX13_isIn_18 rfl (narZ (by decide)) ⟨_, rfl, ((h.2 q1).2 q2)⟩)))))))))))))
theorem dX13_personTold_0 : decode cX13_personTold 0 = .ok (.aload_n 0, 1) := by decide +kernel
theorem dX13_personTold_1 : decode cX13_personTold 1 = .ok (.iconst 1, 1) := by decide +kernel
theorem dX13_personTold_2 : decode cX13_personTold 2 = .ok (.bipush 8, 2) := by decide +kernel
theorem dX13_personTold_4 : decode cX13_personTold 4 = .ok (.iload_n 1, 1) := by decide +kernel
theorem dX13_personTold_5 : decode cX13_personTold 5 = .ok (.invokevirtual 323, 3) := by decide +kernel
theorem dX13_personTold_8 : decode cX13_personTold 8 = .ok (.ifCond .eq 4, 3) := by decide +kernel
theorem dX13_personTold_11 : decode cX13_personTold 11 = .ok (.return_, 1) := by decide +kernel
theorem dX13_personTold_12 : decode cX13_personTold 12 = .ok (.aload_n 0, 1) := by decide +kernel
theorem dX13_personTold_13 : decode cX13_personTold 13 = .ok (.invokevirtual 327, 3) := by decide +kernel
theorem dX13_personTold_16 : decode cX13_personTold 16 = .ok (.lstore_n 2, 1) := by decide +kernel
theorem dX13_personTold_17 : decode cX13_personTold 17 = .ok (.aload_n 0, 1) := by decide +kernel
theorem dX13_personTold_18 : decode cX13_personTold 18 = .ok (.aload_n 0, 1) := by decide +kernel
theorem dX13_personTold_19 : decode cX13_personTold 19 = .ok (.getfield 30, 3) := by decide +kernel
theorem dX13_personTold_22 : decode cX13_personTold 22 = .ok (.invokevirtual 330, 3) := by decide +kernel
theorem dX13_personTold_25 : decode cX13_personTold 25 = .ok (.aload_n 0, 1) := by decide +kernel
theorem dX13_personTold_26 : decode cX13_personTold 26 = .ok (.iconst 0, 1) := by decide +kernel
theorem dX13_personTold_27 : decode cX13_personTold 27 = .ok (.bipush 99, 2) := by decide +kernel
theorem dX13_personTold_29 : decode cX13_personTold 29 = .ok (.invokevirtual 334, 3) := by decide +kernel
theorem dX13_personTold_32 : decode cX13_personTold 32 = .ok (.istore 4, 2) := by decide +kernel
theorem dX13_personTold_34 : decode cX13_personTold 34 = .ok (.aload_n 0, 1) := by decide +kernel
theorem dX13_personTold_35 : decode cX13_personTold 35 = .ok (.getfield 257, 3) := by decide +kernel
theorem dX13_personTold_38 : decode cX13_personTold 38 = .ok (.ifCond .eq 4, 3) := by decide +kernel
theorem dX13_personTold_41 : decode cX13_personTold 41 = .ok (.return_, 1) := by decide +kernel
theorem dX13_personTold_42 : decode cX13_personTold 42 = .ok (.aload_n 0, 1) := by decide +kernel
theorem dX13_personTold_43 : decode cX13_personTold 43 = .ok (.getfield 108, 3) := by decide +kernel
theorem dX13_personTold_46 : decode cX13_personTold 46 = .ok (.bipush 8, 2) := by decide +kernel
theorem dX13_personTold_48 : decode cX13_personTold 48 = .ok (.aload_n 0, 1) := by decide +kernel
theorem dX13_personTold_49 : decode cX13_personTold 49 = .ok (.getfield 105, 3) := by decide +kernel
theorem dX13_personTold_52 : decode cX13_personTold 52 = .ok (.iconst 1, 1) := by decide +kernel
theorem dX13_personTold_53 : decode cX13_personTold 53 = .ok (.iaload, 1) := by decide +kernel
theorem dX13_personTold_54 : decode cX13_personTold 54 = .ok (.iadd, 1) := by decide +kernel
theorem dX13_personTold_55 : decode cX13_personTold 55 = .ok (.lload_n 2, 1) := by decide +kernel
theorem dX13_personTold_56 : decode cX13_personTold 56 = .ok (.lastore, 1) := by decide +kernel
theorem dX13_personTold_57 : decode cX13_personTold 57 = .ok (.aload_n 0, 1) := by decide +kernel
theorem dX13_personTold_58 : decode cX13_personTold 58 = .ok (.getfield 115, 3) := by decide +kernel
theorem dX13_personTold_61 : decode cX13_personTold 61 = .ok (.aload_n 0, 1) := by decide +kernel
theorem dX13_personTold_62 : decode cX13_personTold 62 = .ok (.getfield 105, 3) := by decide +kernel
theorem dX13_personTold_65 : decode cX13_personTold 65 = .ok (.iconst 1, 1) := by decide +kernel
theorem dX13_personTold_66 : decode cX13_personTold 66 = .ok (.iaload, 1) := by decide +kernel
theorem dX13_personTold_67 : decode cX13_personTold 67 = .ok (.iload 4, 2) := by decide +kernel
theorem dX13_personTold_69 : decode cX13_personTold 69 = .ok (.iastore, 1) := by decide +kernel
theorem dX13_personTold_70 : decode cX13_personTold 70 = .ok (.aload_n 0, 1) := by decide +kernel
theorem dX13_personTold_71 : decode cX13_personTold 71 = .ok (.getfield 105, 3) := by decide +kernel
theorem dX13_personTold_74 : decode cX13_personTold 74 = .ok (.iconst 1, 1) := by decide +kernel
theorem dX13_personTold_75 : decode cX13_personTold 75 = .ok (.dup2, 1) := by decide +kernel
theorem dX13_personTold_76 : decode cX13_personTold 76 = .ok (.iaload, 1) := by decide +kernel
theorem dX13_personTold_77 : decode cX13_personTold 77 = .ok (.iconst 1, 1) := by decide +kernel
theorem dX13_personTold_78 : decode cX13_personTold 78 = .ok (.iadd, 1) := by decide +kernel
theorem dX13_personTold_79 : decode cX13_personTold 79 = .ok (.iastore, 1) := by decide +kernel
theorem dX13_personTold_80 : decode cX13_personTold 80 = .ok (.return_, 1) := by decide +kernel
theorem bX13_personTold_0 {d : Nat}  {v1 : Int32} {I : Ii} {J : Jj} {K : KV}
    (h : CalI wM d mX13_isFull [.ref (0), .int (1), .int (8), .int (v1)] I J (fun x3 I1 J2 => (((x3 = 0) → (CalL wM d mX13_newName [.ref (0)] I1 J2 (fun x7 I5 J6 => (CalV wM d mX13_asks [.ref (0), .ref (6)] I5 J6 (fun I8 J9 => (CalI wM d mX13_number [.ref (0), .int (0), .int (99)] I8 J9 (fun x12 I10 J11 => ((((I10 0 5) = 0) → (vp_in (8 + (I10 31 (1 : Int32).toNatClampNeg)) 32 ∧ (vp_in (I10 31 (1 : Int32).toNatClampNeg) 16 ∧ (∀ I18 : Ii, I18 = u2 I10 34 (I10 31 (1 : Int32).toNatClampNeg).toNatClampNeg x12 → (K (u2 I18 31 (1 : Int32).toNatClampNeg ((I18 31 (1 : Int32).toNatClampNeg) + 1)) (w2 J11 32 (8 + (I10 31 (1 : Int32).toNatClampNeg)).toNatClampNeg x7)))))) ∧ ((¬ (I10 0 5) = 0) → (K I10 J11)))))))))) ∧ ((¬ x3 = 0) → (K I1 J2))))) :
    GoV wM (d + 1) mX13_personTold 0 [(0, .ref (0)), (1, .int (v1))] [] I J K :=
  (g_aload_n dX13_personTold_0 0 0 rfl rfl (g_iconst dX13_personTold_1 kc_1 (g_bipush dX13_personTold_2 kb_8 (g_iload_n dX13_personTold_4 1 1 rfl rfl (g_callvI dX13_personTold_5 ml_X13_323 md_X13_isFull mv_X13_isFull obM_0 rfl rfl rfl (Nat.le_of_ble_eq_true rfl) (CalI.mono h (fun x3 I1 J2 h23 => (g_if_eq dX13_personTold_8 rfl (fun q4 => (g_aload_n dX13_personTold_12 0 0 rfl rfl (g_callvL dX13_personTold_13 ml_X13_327 md_X13_newName mv_X13_newName obM_0 rfl rfl rfl (Nat.le_of_ble_eq_true rfl) (CalL.mono (h23.1 q4) (fun x7 I5 J6 h22 => (g_lstore_n dX13_personTold_16 rfl (by decide) rfl (g_aload_n dX13_personTold_17 1 0 rfl rfl (g_aload_n dX13_personTold_18 1 0 rfl rfl (g_getP dX13_personTold_19 fl_X13_30 rfl obM_0 rfl (g_callvV dX13_personTold_22 ml_X13_330 md_X13_asks mv_X13_asks obM_0 rfl rfl rfl (Nat.le_of_ble_eq_true rfl) (CalV.mono h22 (fun I8 J9 h21 => (g_aload_n dX13_personTold_25 1 0 rfl rfl (g_iconst dX13_personTold_26 kc_0 (g_bipush dX13_personTold_27 kb_99 (g_callvI dX13_personTold_29 ml_X13_334 md_X13_number mv_X13_number obM_0 rfl rfl rfl (Nat.le_of_ble_eq_true rfl) (CalI.mono h21 (fun x12 I10 J11 h20 => (g_istore dX13_personTold_32 (by decide) rfl (g_aload_n dX13_personTold_34 2 0 rfl rfl (g_getI dX13_personTold_35 fl_X13_257 rfl obM_0 (g_if_eq dX13_personTold_38 rfl (fun q13 => (g_aload_n dX13_personTold_42 2 0 rfl rfl (g_getP dX13_personTold_43 fl_X13_108 rfl obM_0 rfl (g_bipush dX13_personTold_46 kb_8 (g_aload_n dX13_personTold_48 2 0 rfl rfl (g_getP dX13_personTold_49 fl_X13_105 rfl obM_0 rfl (g_iconst dX13_personTold_52 kc_1 (g_iald dX13_personTold_53 arM_31 (by unfold vp_in; decide) (g_iadd dX13_personTold_54 (g_lload_n dX13_personTold_55 1 2 rfl rfl (have b15 := (h20.1 q13).1; g_last dX13_personTold_56 arM_32 b15 (g_aload_n dX13_personTold_57 2 0 rfl rfl (g_getP dX13_personTold_58 fl_X13_115 rfl obM_0 rfl (g_aload_n dX13_personTold_61 2 0 rfl rfl (g_getP dX13_personTold_62 fl_X13_105 rfl obM_0 rfl (g_iconst dX13_personTold_65 kc_1 (g_iald dX13_personTold_66 arM_31 (by unfold vp_in; decide) (g_iload dX13_personTold_67 0 rfl (have b17 := (h20.1 q13).2.1; g_iast dX13_personTold_69 arM_34 b17 (g_aload_n dX13_personTold_70 2 0 rfl rfl (g_getP dX13_personTold_71 fl_X13_105 rfl obM_0 rfl (g_iconst dX13_personTold_74 kc_1 (g_dup2_11 dX13_personTold_75 rfl rfl (g_iald dX13_personTold_76 arM_31 (by unfold vp_in; decide) (g_iconst dX13_personTold_77 kc_1 (g_iadd dX13_personTold_78 (g_iast dX13_personTold_79 arM_31 (by unfold vp_in; decide) (g_return dX13_personTold_80 rfl ⟨rfl, ((h20.1 q13).2.2 _ rfl)⟩)))))))))))))))))))))))))))) (fun q13 => (g_return dX13_personTold_41 rfl ⟨rfl, (h20.2 q13)⟩)))))))))))))))))))))))) (fun q4 => (g_return dX13_personTold_11 rfl ⟨rfl, (h23.2 q4)⟩))))))))))
theorem dX13_beliefTold_0 : decode cX13_beliefTold 0 = .ok (.aload_n 0, 1) := by decide +kernel
theorem dX13_beliefTold_1 : decode cX13_beliefTold 1 = .ok (.iconst 1, 1) := by decide +kernel
theorem dX13_beliefTold_2 : decode cX13_beliefTold 2 = .ok (.invokevirtual 338, 3) := by decide +kernel
theorem dX13_beliefTold_5 : decode cX13_beliefTold 5 = .ok (.istore_n 2, 1) := by decide +kernel
theorem dX13_beliefTold_6 : decode cX13_beliefTold 6 = .ok (.aload_n 0, 1) := by decide +kernel
theorem dX13_beliefTold_7 : decode cX13_beliefTold 7 = .ok (.iconst 0, 1) := by decide +kernel
theorem dX13_beliefTold_8 : decode cX13_beliefTold 8 = .ok (.invokevirtual 338, 3) := by decide +kernel
theorem dX13_beliefTold_11 : decode cX13_beliefTold 11 = .ok (.istore_n 3, 1) := by decide +kernel
theorem dX13_beliefTold_12 : decode cX13_beliefTold 12 = .ok (.aload_n 0, 1) := by decide +kernel
theorem dX13_beliefTold_13 : decode cX13_beliefTold 13 = .ok (.getfield 257, 3) := by decide +kernel
theorem dX13_beliefTold_16 : decode cX13_beliefTold 16 = .ok (.ifCond .ne 33, 3) := by decide +kernel
theorem dX13_beliefTold_19 : decode cX13_beliefTold 19 = .ok (.aload_n 0, 1) := by decide +kernel
theorem dX13_beliefTold_20 : decode cX13_beliefTold 20 = .ok (.getfield 118, 3) := by decide +kernel
theorem dX13_beliefTold_23 : decode cX13_beliefTold 23 = .ok (.iload_n 2, 1) := by decide +kernel
theorem dX13_beliefTold_24 : decode cX13_beliefTold 24 = .ok (.iaload, 1) := by decide +kernel
theorem dX13_beliefTold_25 : decode cX13_beliefTold 25 = .ok (.aload_n 0, 1) := by decide +kernel
theorem dX13_beliefTold_26 : decode cX13_beliefTold 26 = .ok (.getfield 121, 3) := by decide +kernel
theorem dX13_beliefTold_29 : decode cX13_beliefTold 29 = .ok (.iload_n 2, 1) := by decide +kernel
theorem dX13_beliefTold_30 : decode cX13_beliefTold 30 = .ok (.iaload, 1) := by decide +kernel
theorem dX13_beliefTold_31 : decode cX13_beliefTold 31 = .ok (.ior, 1) := by decide +kernel
theorem dX13_beliefTold_32 : decode cX13_beliefTold 32 = .ok (.iload_n 3, 1) := by decide +kernel
theorem dX13_beliefTold_33 : decode cX13_beliefTold 33 = .ok (.ishr, 1) := by decide +kernel
theorem dX13_beliefTold_34 : decode cX13_beliefTold 34 = .ok (.iconst 1, 1) := by decide +kernel
theorem dX13_beliefTold_35 : decode cX13_beliefTold 35 = .ok (.iand, 1) := by decide +kernel
theorem dX13_beliefTold_36 : decode cX13_beliefTold 36 = .ok (.iconst 1, 1) := by decide +kernel
theorem dX13_beliefTold_37 : decode cX13_beliefTold 37 = .ok (.if_icmp .ne 12, 3) := by decide +kernel
theorem dX13_beliefTold_40 : decode cX13_beliefTold 40 = .ok (.aload_n 0, 1) := by decide +kernel
theorem dX13_beliefTold_41 : decode cX13_beliefTold 41 = .ok (.iconst 3, 1) := by decide +kernel
theorem dX13_beliefTold_42 : decode cX13_beliefTold 42 = .ok (.aload_n 0, 1) := by decide +kernel
theorem dX13_beliefTold_43 : decode cX13_beliefTold 43 = .ok (.getfield 305, 3) := by decide +kernel
theorem dX13_beliefTold_46 : decode cX13_beliefTold 46 = .ok (.invokevirtual 287, 3) := by decide +kernel
theorem dX13_beliefTold_49 : decode cX13_beliefTold 49 = .ok (.aload_n 0, 1) := by decide +kernel
theorem dX13_beliefTold_50 : decode cX13_beliefTold 50 = .ok (.getfield 257, 3) := by decide +kernel
theorem dX13_beliefTold_53 : decode cX13_beliefTold 53 = .ok (.ifCond .eq 4, 3) := by decide +kernel
theorem dX13_beliefTold_56 : decode cX13_beliefTold 56 = .ok (.return_, 1) := by decide +kernel
theorem dX13_beliefTold_57 : decode cX13_beliefTold 57 = .ok (.iload_n 1, 1) := by decide +kernel
theorem dX13_beliefTold_58 : decode cX13_beliefTold 58 = .ok (.ifCond .eq 18, 3) := by decide +kernel
theorem dX13_beliefTold_61 : decode cX13_beliefTold 61 = .ok (.aload_n 0, 1) := by decide +kernel
theorem dX13_beliefTold_62 : decode cX13_beliefTold 62 = .ok (.getfield 118, 3) := by decide +kernel
theorem dX13_beliefTold_65 : decode cX13_beliefTold 65 = .ok (.iload_n 2, 1) := by decide +kernel
theorem dX13_beliefTold_66 : decode cX13_beliefTold 66 = .ok (.dup2, 1) := by decide +kernel
theorem dX13_beliefTold_67 : decode cX13_beliefTold 67 = .ok (.iaload, 1) := by decide +kernel
theorem dX13_beliefTold_68 : decode cX13_beliefTold 68 = .ok (.iconst 1, 1) := by decide +kernel
theorem dX13_beliefTold_69 : decode cX13_beliefTold 69 = .ok (.iload_n 3, 1) := by decide +kernel
theorem dX13_beliefTold_70 : decode cX13_beliefTold 70 = .ok (.ishl, 1) := by decide +kernel
theorem dX13_beliefTold_71 : decode cX13_beliefTold 71 = .ok (.ior, 1) := by decide +kernel
theorem dX13_beliefTold_72 : decode cX13_beliefTold 72 = .ok (.iastore, 1) := by decide +kernel
theorem dX13_beliefTold_73 : decode cX13_beliefTold 73 = .ok (.goto 15, 3) := by decide +kernel
theorem dX13_beliefTold_76 : decode cX13_beliefTold 76 = .ok (.aload_n 0, 1) := by decide +kernel
theorem dX13_beliefTold_77 : decode cX13_beliefTold 77 = .ok (.getfield 121, 3) := by decide +kernel
theorem dX13_beliefTold_80 : decode cX13_beliefTold 80 = .ok (.iload_n 2, 1) := by decide +kernel
theorem dX13_beliefTold_81 : decode cX13_beliefTold 81 = .ok (.dup2, 1) := by decide +kernel
theorem dX13_beliefTold_82 : decode cX13_beliefTold 82 = .ok (.iaload, 1) := by decide +kernel
theorem dX13_beliefTold_83 : decode cX13_beliefTold 83 = .ok (.iconst 1, 1) := by decide +kernel
theorem dX13_beliefTold_84 : decode cX13_beliefTold 84 = .ok (.iload_n 3, 1) := by decide +kernel
theorem dX13_beliefTold_85 : decode cX13_beliefTold 85 = .ok (.ishl, 1) := by decide +kernel
theorem dX13_beliefTold_86 : decode cX13_beliefTold 86 = .ok (.ior, 1) := by decide +kernel
theorem dX13_beliefTold_87 : decode cX13_beliefTold 87 = .ok (.iastore, 1) := by decide +kernel
theorem dX13_beliefTold_88 : decode cX13_beliefTold 88 = .ok (.return_, 1) := by decide +kernel
theorem bX13_beliefTold_0 {d : Nat}  {v1 : Int32} {I : Ii} {J : Jj} {K : KV}
    (h : CalI wM d mX13_oneOf [.ref (0), .int (1)] I J (fun x3 I1 J2 => (CalI wM d mX13_oneOf [.ref (0), .int (0)] I1 J2 (fun x6 I4 J5 => (((¬ (I4 0 5) = 0) → (K I4 J5)) ∧ (((I4 0 5) = 0) → (vp_in (x3) 8 ∧ (((¬ ((((I4 35 x3.toNatClampNeg) ||| (I4 36 x3.toNatClampNeg)) >>> (x6 &&& 31)) &&& 1) = 1) → (((v1 = 0) → (K (u2 I4 36 x3.toNatClampNeg ((I4 36 x3.toNatClampNeg) ||| (1 <<< (x6 &&& 31)))) J5)) ∧ ((¬ v1 = 0) → (K (u2 I4 35 x3.toNatClampNeg ((I4 35 x3.toNatClampNeg) ||| (1 <<< (x6 &&& 31)))) J5)))) ∧ ((((((I4 35 x3.toNatClampNeg) ||| (I4 36 x3.toNatClampNeg)) >>> (x6 &&& 31)) &&& 1) = 1) → (CalV wM d mX13_fail [.ref (0), .int (3), .int (I4 0 38)] I4 J5 (fun I13 J14 => ((((I13 0 5) = 0) → (((v1 = 0) → (K (u2 I13 36 x3.toNatClampNeg ((I13 36 x3.toNatClampNeg) ||| (1 <<< (x6 &&& 31)))) J14)) ∧ ((¬ v1 = 0) → (K (u2 I13 35 x3.toNatClampNeg ((I13 35 x3.toNatClampNeg) ||| (1 <<< (x6 &&& 31)))) J14)))) ∧ ((¬ (I13 0 5) = 0) → (K I13 J14)))))))))))))) :
    GoV wM (d + 1) mX13_beliefTold 0 [(0, .ref (0)), (1, .int (v1))] [] I J K :=
  (g_aload_n dX13_beliefTold_0 0 0 rfl rfl (g_iconst dX13_beliefTold_1 kc_1 (g_callvI dX13_beliefTold_2 ml_X13_338 md_X13_oneOf mv_X13_oneOf obM_0 rfl rfl rfl (Nat.le_of_ble_eq_true rfl) (CalI.mono h (fun x3 I1 J2 h21 => (g_istore_n dX13_beliefTold_5 rfl (by decide) rfl (g_aload_n dX13_beliefTold_6 1 0 rfl rfl (g_iconst dX13_beliefTold_7 kc_0 (g_callvI dX13_beliefTold_8 ml_X13_338 md_X13_oneOf mv_X13_oneOf obM_0 rfl rfl rfl (Nat.le_of_ble_eq_true rfl) (CalI.mono h21 (fun x6 I4 J5 h20 => (g_istore_n dX13_beliefTold_11 rfl (by decide) rfl (g_aload_n dX13_beliefTold_12 2 0 rfl rfl (g_getI dX13_beliefTold_13 fl_X13_257 rfl obM_0 (g_if_ne dX13_beliefTold_16 rfl (fun q7 => (g_aload_n dX13_beliefTold_49 2 0 rfl rfl (g_getI dX13_beliefTold_50 fl_X13_257 rfl obM_0 (g_if_eq dX13_beliefTold_53 rfl (fun q => absurd q q7) (fun _ => (g_return dX13_beliefTold_56 rfl ⟨rfl, (h20.1 q7)⟩)))))) (fun q7 => (g_aload_n dX13_beliefTold_19 2 0 rfl rfl (g_getP dX13_beliefTold_20 fl_X13_118 rfl obM_0 rfl (g_iload_n dX13_beliefTold_23 1 2 rfl rfl (have b8 := (h20.2 q7).1; g_iald dX13_beliefTold_24 arM_35 b8 (g_aload_n dX13_beliefTold_25 2 0 rfl rfl (g_getP dX13_beliefTold_26 fl_X13_121 rfl obM_0 rfl (g_iload_n dX13_beliefTold_29 1 2 rfl rfl (g_iald dX13_beliefTold_30 arM_36 b8 (g_ior dX13_beliefTold_31 (g_iload_n dX13_beliefTold_32 0 3 rfl rfl (g_ishr dX13_beliefTold_33 (g_iconst dX13_beliefTold_34 kc_1 (g_iand dX13_beliefTold_35 (g_iconst dX13_beliefTold_36 kc_1 (g_icmp_ne dX13_beliefTold_37 rfl (fun q9 => (g_aload_n dX13_beliefTold_49 2 0 rfl rfl (g_getI dX13_beliefTold_50 fl_X13_257 rfl obM_0 (g_if_eq dX13_beliefTold_53 rfl (fun _ => (g_iload_n dX13_beliefTold_57 3 1 rfl rfl (g_if_eq dX13_beliefTold_58 rfl (fun q10 => (g_aload_n dX13_beliefTold_76 2 0 rfl rfl (g_getP dX13_beliefTold_77 fl_X13_121 rfl obM_0 rfl (g_iload_n dX13_beliefTold_80 1 2 rfl rfl (g_dup2_11 dX13_beliefTold_81 rfl rfl (g_iald dX13_beliefTold_82 arM_36 b8 (g_iconst dX13_beliefTold_83 kc_1 (g_iload_n dX13_beliefTold_84 0 3 rfl rfl (g_ishl dX13_beliefTold_85 (g_ior dX13_beliefTold_86 (g_iast dX13_beliefTold_87 arM_36 b8 (g_return dX13_beliefTold_88 rfl ⟨rfl, (((h20.2 q7).2.1 q9).1 q10)⟩)))))))))))) (fun q10 => (g_aload_n dX13_beliefTold_61 2 0 rfl rfl (g_getP dX13_beliefTold_62 fl_X13_118 rfl obM_0 rfl (g_iload_n dX13_beliefTold_65 1 2 rfl rfl (g_dup2_11 dX13_beliefTold_66 rfl rfl (g_iald dX13_beliefTold_67 arM_35 b8 (g_iconst dX13_beliefTold_68 kc_1 (g_iload_n dX13_beliefTold_69 0 3 rfl rfl (g_ishl dX13_beliefTold_70 (g_ior dX13_beliefTold_71 (g_iast dX13_beliefTold_72 arM_35 b8 (g_goto dX13_beliefTold_73 rfl (g_return dX13_beliefTold_88 rfl ⟨rfl, (((h20.2 q7).2.1 q9).2 q10)⟩)))))))))))))))) (fun q => absurd q7 q))))) (fun q9 => (g_aload_n dX13_beliefTold_40 2 0 rfl rfl (g_iconst dX13_beliefTold_41 kc_3 (g_aload_n dX13_beliefTold_42 2 0 rfl rfl (g_getI dX13_beliefTold_43 fl_X13_305 rfl obM_0 (g_callvV dX13_beliefTold_46 ml_X13_287 md_X13_fail mv_X13_fail obM_0 rfl rfl rfl (Nat.le_of_ble_eq_true rfl) (CalV.mono ((h20.2 q7).2.2 q9) (fun I13 J14 h19 => (g_aload_n dX13_beliefTold_49 2 0 rfl rfl (g_getI dX13_beliefTold_50 fl_X13_257 rfl obM_0 (g_if_eq dX13_beliefTold_53 rfl (fun q15 => (g_iload_n dX13_beliefTold_57 3 1 rfl rfl (g_if_eq dX13_beliefTold_58 rfl (fun q16 => (g_aload_n dX13_beliefTold_76 2 0 rfl rfl (g_getP dX13_beliefTold_77 fl_X13_121 rfl obM_0 rfl (g_iload_n dX13_beliefTold_80 1 2 rfl rfl (g_dup2_11 dX13_beliefTold_81 rfl rfl (g_iald dX13_beliefTold_82 arM_36 b8 (g_iconst dX13_beliefTold_83 kc_1 (g_iload_n dX13_beliefTold_84 0 3 rfl rfl (g_ishl dX13_beliefTold_85 (g_ior dX13_beliefTold_86 (g_iast dX13_beliefTold_87 arM_36 b8 (g_return dX13_beliefTold_88 rfl ⟨rfl, ((h19.1 q15).1 q16)⟩)))))))))))) (fun q16 => (g_aload_n dX13_beliefTold_61 2 0 rfl rfl (g_getP dX13_beliefTold_62 fl_X13_118 rfl obM_0 rfl (g_iload_n dX13_beliefTold_65 1 2 rfl rfl (g_dup2_11 dX13_beliefTold_66 rfl rfl (g_iald dX13_beliefTold_67 arM_35 b8 (g_iconst dX13_beliefTold_68 kc_1 (g_iload_n dX13_beliefTold_69 0 3 rfl rfl (g_ishl dX13_beliefTold_70 (g_ior dX13_beliefTold_71 (g_iast dX13_beliefTold_72 arM_35 b8 (g_goto dX13_beliefTold_73 rfl (g_return dX13_beliefTold_88 rfl ⟨rfl, ((h19.1 q15).2 q16)⟩)))))))))))))))) (fun q15 => (g_return dX13_beliefTold_56 rfl ⟨rfl, (h19.2 q15)⟩))))))))))))))))))))))))))))))))))))))))))))
theorem dX13_oneOf_0 : decode cX13_oneOf 0 = .ok (.aload_n 0, 1) := by decide +kernel
theorem dX13_oneOf_1 : decode cX13_oneOf 1 = .ok (.invokevirtual 315, 3) := by decide +kernel
theorem dX13_oneOf_4 : decode cX13_oneOf 4 = .ok (.lstore_n 2, 1) := by decide +kernel
theorem dX13_oneOf_5 : decode cX13_oneOf 5 = .ok (.aload_n 0, 1) := by decide +kernel
theorem dX13_oneOf_6 : decode cX13_oneOf 6 = .ok (.iload_n 1, 1) := by decide +kernel
theorem dX13_oneOf_7 : decode cX13_oneOf 7 = .ok (.lload_n 2, 1) := by decide +kernel
theorem dX13_oneOf_8 : decode cX13_oneOf 8 = .ok (.invokevirtual 319, 3) := by decide +kernel
theorem dX13_oneOf_11 : decode cX13_oneOf 11 = .ok (.istore 4, 2) := by decide +kernel
theorem dX13_oneOf_13 : decode cX13_oneOf 13 = .ok (.aload_n 0, 1) := by decide +kernel
theorem dX13_oneOf_14 : decode cX13_oneOf 14 = .ok (.getfield 257, 3) := by decide +kernel
theorem dX13_oneOf_17 : decode cX13_oneOf 17 = .ok (.ifCond .ne 18, 3) := by decide +kernel
theorem dX13_oneOf_20 : decode cX13_oneOf 20 = .ok (.iload 4, 2) := by decide +kernel
theorem dX13_oneOf_22 : decode cX13_oneOf 22 = .ok (.iconst (-1), 1) := by decide +kernel
theorem dX13_oneOf_23 : decode cX13_oneOf 23 = .ok (.if_icmp .ne 12, 3) := by decide +kernel
theorem dX13_oneOf_26 : decode cX13_oneOf 26 = .ok (.aload_n 0, 1) := by decide +kernel
theorem dX13_oneOf_27 : decode cX13_oneOf 27 = .ok (.iconst 3, 1) := by decide +kernel
theorem dX13_oneOf_28 : decode cX13_oneOf 28 = .ok (.aload_n 0, 1) := by decide +kernel
theorem dX13_oneOf_29 : decode cX13_oneOf 29 = .ok (.getfield 305, 3) := by decide +kernel
theorem dX13_oneOf_32 : decode cX13_oneOf 32 = .ok (.invokevirtual 287, 3) := by decide +kernel
theorem dX13_oneOf_35 : decode cX13_oneOf 35 = .ok (.aload_n 0, 1) := by decide +kernel
theorem dX13_oneOf_36 : decode cX13_oneOf 36 = .ok (.getfield 257, 3) := by decide +kernel
theorem dX13_oneOf_39 : decode cX13_oneOf 39 = .ok (.ifCond .ne 8, 3) := by decide +kernel
theorem dX13_oneOf_42 : decode cX13_oneOf 42 = .ok (.iload 4, 2) := by decide +kernel
theorem dX13_oneOf_44 : decode cX13_oneOf 44 = .ok (.goto 4, 3) := by decide +kernel
theorem dX13_oneOf_47 : decode cX13_oneOf 47 = .ok (.iconst 0, 1) := by decide +kernel
theorem dX13_oneOf_48 : decode cX13_oneOf 48 = .ok (.ireturn, 1) := by decide +kernel
theorem bX13_oneOf_0 {d : Nat}  {v1 : Int32} {I : Ii} {J : Jj} {K : KI}
    (h : CalL wM d mX13_name [.ref (0)] I J (fun x3 I1 J2 => (CalI wM d mX13_nameOf [.ref (0), .int (v1), .long (x3)] I1 J2 (fun x6 I4 J5 => (((¬ (I4 0 5) = 0) → (K (0) I4 J5)) ∧ (((I4 0 5) = 0) → (((¬ x6 = ((-1))) → (K (x6) I4 J5)) ∧ ((x6 = ((-1))) → (CalV wM d mX13_fail [.ref (0), .int (3), .int (I4 0 38)] I4 J5 (fun I9 J10 => (((¬ (I9 0 5) = 0) → (K (0) I9 J10)) ∧ (((I9 0 5) = 0) → (K (x6) I9 J10))))))))))))) :
    GoI wM (d + 1) mX13_oneOf 0 [(0, .ref (0)), (1, .int (v1))] [] I J K :=
  (g_aload_n dX13_oneOf_0 0 0 rfl rfl (g_callvL dX13_oneOf_1 ml_X13_315 md_X13_name mv_X13_name obM_0 rfl rfl rfl (Nat.le_of_ble_eq_true rfl) (CalL.mono h (fun x3 I1 J2 h14 => (g_lstore_n dX13_oneOf_4 rfl (by decide) rfl (g_aload_n dX13_oneOf_5 1 0 rfl rfl (g_iload_n dX13_oneOf_6 2 1 rfl rfl (g_lload_n dX13_oneOf_7 0 2 rfl rfl (g_callvI dX13_oneOf_8 ml_X13_319 md_X13_nameOf mv_X13_nameOf obM_0 rfl rfl rfl (Nat.le_of_ble_eq_true rfl) (CalI.mono h14 (fun x6 I4 J5 h13 => (g_istore dX13_oneOf_11 (by decide) rfl (g_aload_n dX13_oneOf_13 2 0 rfl rfl (g_getI dX13_oneOf_14 fl_X13_257 rfl obM_0 (g_if_ne dX13_oneOf_17 rfl (fun q7 => (g_aload_n dX13_oneOf_35 2 0 rfl rfl (g_getI dX13_oneOf_36 fl_X13_257 rfl obM_0 (g_if_ne dX13_oneOf_39 rfl (fun _ => (g_iconst dX13_oneOf_47 kc_0 (g_ireturn dX13_oneOf_48 rfl ⟨_, rfl, (h13.1 q7)⟩))) (fun q => absurd q q7))))) (fun q7 => (g_iload dX13_oneOf_20 0 rfl (g_iconst dX13_oneOf_22 kc_n1 (g_icmp_ne dX13_oneOf_23 rfl (fun q8 => (g_aload_n dX13_oneOf_35 2 0 rfl rfl (g_getI dX13_oneOf_36 fl_X13_257 rfl obM_0 (g_if_ne dX13_oneOf_39 rfl (fun q => absurd q7 q) (fun _ => (g_iload dX13_oneOf_42 0 rfl (g_goto dX13_oneOf_44 rfl (g_ireturn dX13_oneOf_48 rfl ⟨_, rfl, ((h13.2 q7).1 q8)⟩)))))))) (fun q8 => (g_aload_n dX13_oneOf_26 2 0 rfl rfl (g_iconst dX13_oneOf_27 kc_3 (g_aload_n dX13_oneOf_28 2 0 rfl rfl (g_getI dX13_oneOf_29 fl_X13_305 rfl obM_0 (g_callvV dX13_oneOf_32 ml_X13_287 md_X13_fail mv_X13_fail obM_0 rfl rfl rfl (Nat.le_of_ble_eq_true rfl) (CalV.mono ((h13.2 q7).2 q8) (fun I9 J10 h12 => (g_aload_n dX13_oneOf_35 2 0 rfl rfl (g_getI dX13_oneOf_36 fl_X13_257 rfl obM_0 (g_if_ne dX13_oneOf_39 rfl (fun q11 => (g_iconst dX13_oneOf_47 kc_0 (g_ireturn dX13_oneOf_48 rfl ⟨_, rfl, (h12.1 q11)⟩))) (fun q11 => (g_iload dX13_oneOf_42 0 rfl (g_goto dX13_oneOf_44 rfl (g_ireturn dX13_oneOf_48 rfl ⟨_, rfl, (h12.2 q11)⟩))))))))))))))))))))))))))))))))))
theorem dX13_taughtTold_0 : decode cX13_taughtTold 0 = .ok (.aload_n 0, 1) := by decide +kernel
theorem dX13_taughtTold_1 : decode cX13_taughtTold 1 = .ok (.iconst 1, 1) := by decide +kernel
theorem dX13_taughtTold_2 : decode cX13_taughtTold 2 = .ok (.invokevirtual 338, 3) := by decide +kernel
theorem dX13_taughtTold_5 : decode cX13_taughtTold 5 = .ok (.istore_n 1, 1) := by decide +kernel
theorem dX13_taughtTold_6 : decode cX13_taughtTold 6 = .ok (.aload_n 0, 1) := by decide +kernel
theorem dX13_taughtTold_7 : decode cX13_taughtTold 7 = .ok (.getfield 257, 3) := by decide +kernel
theorem dX13_taughtTold_10 : decode cX13_taughtTold 10 = .ok (.ifCond .ne 22, 3) := by decide +kernel
theorem dX13_taughtTold_13 : decode cX13_taughtTold 13 = .ok (.aload_n 0, 1) := by decide +kernel
theorem dX13_taughtTold_14 : decode cX13_taughtTold 14 = .ok (.getfield 124, 3) := by decide +kernel
theorem dX13_taughtTold_17 : decode cX13_taughtTold 17 = .ok (.iload_n 1, 1) := by decide +kernel
theorem dX13_taughtTold_18 : decode cX13_taughtTold 18 = .ok (.iaload, 1) := by decide +kernel
theorem dX13_taughtTold_19 : decode cX13_taughtTold 19 = .ok (.iconst (-1), 1) := by decide +kernel
theorem dX13_taughtTold_20 : decode cX13_taughtTold 20 = .ok (.if_icmp .eq 12, 3) := by decide +kernel
theorem dX13_taughtTold_23 : decode cX13_taughtTold 23 = .ok (.aload_n 0, 1) := by decide +kernel
theorem dX13_taughtTold_24 : decode cX13_taughtTold 24 = .ok (.iconst 3, 1) := by decide +kernel
theorem dX13_taughtTold_25 : decode cX13_taughtTold 25 = .ok (.aload_n 0, 1) := by decide +kernel
theorem dX13_taughtTold_26 : decode cX13_taughtTold 26 = .ok (.getfield 305, 3) := by decide +kernel
theorem dX13_taughtTold_29 : decode cX13_taughtTold 29 = .ok (.invokevirtual 287, 3) := by decide +kernel
theorem dX13_taughtTold_32 : decode cX13_taughtTold 32 = .ok (.aload_n 0, 1) := by decide +kernel
theorem dX13_taughtTold_33 : decode cX13_taughtTold 33 = .ok (.aload_n 0, 1) := by decide +kernel
theorem dX13_taughtTold_34 : decode cX13_taughtTold 34 = .ok (.getfield 42, 3) := by decide +kernel
theorem dX13_taughtTold_37 : decode cX13_taughtTold 37 = .ok (.invokevirtual 330, 3) := by decide +kernel
theorem dX13_taughtTold_40 : decode cX13_taughtTold 40 = .ok (.aload_n 0, 1) := by decide +kernel
theorem dX13_taughtTold_41 : decode cX13_taughtTold 41 = .ok (.iconst 1, 1) := by decide +kernel
theorem dX13_taughtTold_42 : decode cX13_taughtTold 42 = .ok (.invokevirtual 338, 3) := by decide +kernel
theorem dX13_taughtTold_45 : decode cX13_taughtTold 45 = .ok (.istore_n 2, 1) := by decide +kernel
theorem dX13_taughtTold_46 : decode cX13_taughtTold 46 = .ok (.iload_n 2, 1) := by decide +kernel
theorem dX13_taughtTold_47 : decode cX13_taughtTold 47 = .ok (.istore_n 3, 1) := by decide +kernel
theorem dX13_taughtTold_48 : decode cX13_taughtTold 48 = .ok (.aload_n 0, 1) := by decide +kernel
theorem dX13_taughtTold_49 : decode cX13_taughtTold 49 = .ok (.getfield 257, 3) := by decide +kernel
theorem dX13_taughtTold_52 : decode cX13_taughtTold 52 = .ok (.ifCond .ne 23, 3) := by decide +kernel
theorem dX13_taughtTold_55 : decode cX13_taughtTold 55 = .ok (.iload_n 3, 1) := by decide +kernel
theorem dX13_taughtTold_56 : decode cX13_taughtTold 56 = .ok (.iconst (-1), 1) := by decide +kernel
theorem dX13_taughtTold_57 : decode cX13_taughtTold 57 = .ok (.if_icmp .eq 18, 3) := by decide +kernel
theorem dX13_taughtTold_60 : decode cX13_taughtTold 60 = .ok (.iload_n 3, 1) := by decide +kernel
theorem dX13_taughtTold_61 : decode cX13_taughtTold 61 = .ok (.iload_n 1, 1) := by decide +kernel
theorem dX13_taughtTold_62 : decode cX13_taughtTold 62 = .ok (.if_icmp .eq 13, 3) := by decide +kernel
theorem dX13_taughtTold_65 : decode cX13_taughtTold 65 = .ok (.aload_n 0, 1) := by decide +kernel
theorem dX13_taughtTold_66 : decode cX13_taughtTold 66 = .ok (.getfield 124, 3) := by decide +kernel
theorem dX13_taughtTold_69 : decode cX13_taughtTold 69 = .ok (.iload_n 3, 1) := by decide +kernel
theorem dX13_taughtTold_70 : decode cX13_taughtTold 70 = .ok (.iaload, 1) := by decide +kernel
theorem dX13_taughtTold_71 : decode cX13_taughtTold 71 = .ok (.istore_n 3, 1) := by decide +kernel
theorem dX13_taughtTold_72 : decode cX13_taughtTold 72 = .ok (.goto (-24), 3) := by decide +kernel
theorem dX13_taughtTold_75 : decode cX13_taughtTold 75 = .ok (.aload_n 0, 1) := by decide +kernel
theorem dX13_taughtTold_76 : decode cX13_taughtTold 76 = .ok (.getfield 257, 3) := by decide +kernel
theorem dX13_taughtTold_79 : decode cX13_taughtTold 79 = .ok (.ifCond .ne 17, 3) := by decide +kernel
theorem dX13_taughtTold_82 : decode cX13_taughtTold 82 = .ok (.iload_n 3, 1) := by decide +kernel
theorem dX13_taughtTold_83 : decode cX13_taughtTold 83 = .ok (.iload_n 1, 1) := by decide +kernel
theorem dX13_taughtTold_84 : decode cX13_taughtTold 84 = .ok (.if_icmp .ne 12, 3) := by decide +kernel
theorem dX13_taughtTold_87 : decode cX13_taughtTold 87 = .ok (.aload_n 0, 1) := by decide +kernel
theorem dX13_taughtTold_88 : decode cX13_taughtTold 88 = .ok (.iconst 3, 1) := by decide +kernel
theorem dX13_taughtTold_89 : decode cX13_taughtTold 89 = .ok (.aload_n 0, 1) := by decide +kernel
theorem dX13_taughtTold_90 : decode cX13_taughtTold 90 = .ok (.getfield 305, 3) := by decide +kernel
theorem dX13_taughtTold_93 : decode cX13_taughtTold 93 = .ok (.invokevirtual 287, 3) := by decide +kernel
theorem dX13_taughtTold_96 : decode cX13_taughtTold 96 = .ok (.aload_n 0, 1) := by decide +kernel
theorem dX13_taughtTold_97 : decode cX13_taughtTold 97 = .ok (.getfield 257, 3) := by decide +kernel
theorem dX13_taughtTold_100 : decode cX13_taughtTold 100 = .ok (.ifCond .ne 10, 3) := by decide +kernel
theorem dX13_taughtTold_103 : decode cX13_taughtTold 103 = .ok (.aload_n 0, 1) := by decide +kernel
theorem dX13_taughtTold_104 : decode cX13_taughtTold 104 = .ok (.getfield 124, 3) := by decide +kernel
theorem dX13_taughtTold_107 : decode cX13_taughtTold 107 = .ok (.iload_n 1, 1) := by decide +kernel
theorem dX13_taughtTold_108 : decode cX13_taughtTold 108 = .ok (.iload_n 2, 1) := by decide +kernel
theorem dX13_taughtTold_109 : decode cX13_taughtTold 109 = .ok (.iastore, 1) := by decide +kernel
theorem dX13_taughtTold_110 : decode cX13_taughtTold 110 = .ok (.return_, 1) := by decide +kernel
theorem bX13_taughtTold_0 {d : Nat}   {I : Ii} {J : Jj} {K : KV}
    (h : CalI wM d mX13_oneOf [.ref (0), .int (1)] I J (fun x3 I1 J2 => (((¬ (I1 0 5) = 0) → (CalV wM d mX13_asks [.ref (0), .ref (10)] I1 J2 (fun I5 J6 => (CalI wM d mX13_oneOf [.ref (0), .int (1)] I5 J6 (fun x9 I7 J8 => (GoV wM (d + 1) mX13_taughtTold 48 [(0, .ref (0)), (1, .int (x3)), (2, .int (x9)), (3, .int (x9))] [] I7 J8 K)))))) ∧ (((I1 0 5) = 0) → (vp_in (x3) 8 ∧ ((((I1 37 x3.toNatClampNeg) = ((-1))) → (CalV wM d mX13_asks [.ref (0), .ref (10)] I1 J2 (fun I14 J15 => (CalI wM d mX13_oneOf [.ref (0), .int (1)] I14 J15 (fun x18 I16 J17 => (GoV wM (d + 1) mX13_taughtTold 48 [(0, .ref (0)), (1, .int (x3)), (2, .int (x18)), (3, .int (x18))] [] I16 J17 K)))))) ∧ ((¬ (I1 37 x3.toNatClampNeg) = ((-1))) → (CalV wM d mX13_fail [.ref (0), .int (3), .int (I1 0 38)] I1 J2 (fun I21 J22 => (CalV wM d mX13_asks [.ref (0), .ref (10)] I21 J22 (fun I23 J24 => (CalI wM d mX13_oneOf [.ref (0), .int (1)] I23 J24 (fun x27 I25 J26 => (GoV wM (d + 1) mX13_taughtTold 48 [(0, .ref (0)), (1, .int (x3)), (2, .int (x27)), (3, .int (x27))] [] I25 J26 K)))))))))))))) :
    GoV wM (d + 1) mX13_taughtTold 0 [(0, .ref (0))] [] I J K :=
  (g_aload_n dX13_taughtTold_0 0 0 rfl rfl (g_iconst dX13_taughtTold_1 kc_1 (g_callvI dX13_taughtTold_2 ml_X13_338 md_X13_oneOf mv_X13_oneOf obM_0 rfl rfl rfl (Nat.le_of_ble_eq_true rfl) (CalI.mono h (fun x3 I1 J2 h31 => (g_istore_n dX13_taughtTold_5 rfl (by decide) rfl (g_aload_n dX13_taughtTold_6 1 0 rfl rfl (g_getI dX13_taughtTold_7 fl_X13_257 rfl obM_0 (g_if_ne dX13_taughtTold_10 rfl (fun q4 => (g_aload_n dX13_taughtTold_32 1 0 rfl rfl (g_aload_n dX13_taughtTold_33 1 0 rfl rfl (g_getP dX13_taughtTold_34 fl_X13_42 rfl obM_0 rfl (g_callvV dX13_taughtTold_37 ml_X13_330 md_X13_asks mv_X13_asks obM_0 rfl rfl rfl (Nat.le_of_ble_eq_true rfl) (CalV.mono (h31.1 q4) (fun I5 J6 h11 => (g_aload_n dX13_taughtTold_40 1 0 rfl rfl (g_iconst dX13_taughtTold_41 kc_1 (g_callvI dX13_taughtTold_42 ml_X13_338 md_X13_oneOf mv_X13_oneOf obM_0 rfl rfl rfl (Nat.le_of_ble_eq_true rfl) (CalI.mono h11 (fun x9 I7 J8 h10 => (g_istore_n dX13_taughtTold_45 rfl (by decide) rfl (g_iload_n dX13_taughtTold_46 0 2 rfl rfl (g_istore_n dX13_taughtTold_47 rfl (by decide) rfl (g_sub [3, 2, 1, 0] rfl h10)))))))))))))))) (fun q4 => (g_aload_n dX13_taughtTold_13 1 0 rfl rfl (g_getP dX13_taughtTold_14 fl_X13_124 rfl obM_0 rfl (g_iload_n dX13_taughtTold_17 0 1 rfl rfl (have b12 := (h31.2 q4).1; g_iald dX13_taughtTold_18 arM_37 b12 (g_iconst dX13_taughtTold_19 kc_n1 (g_icmp_eq dX13_taughtTold_20 rfl (fun q13 => (g_aload_n dX13_taughtTold_32 1 0 rfl rfl (g_aload_n dX13_taughtTold_33 1 0 rfl rfl (g_getP dX13_taughtTold_34 fl_X13_42 rfl obM_0 rfl (g_callvV dX13_taughtTold_37 ml_X13_330 md_X13_asks mv_X13_asks obM_0 rfl rfl rfl (Nat.le_of_ble_eq_true rfl) (CalV.mono ((h31.2 q4).2.1 q13) (fun I14 J15 h20 => (g_aload_n dX13_taughtTold_40 1 0 rfl rfl (g_iconst dX13_taughtTold_41 kc_1 (g_callvI dX13_taughtTold_42 ml_X13_338 md_X13_oneOf mv_X13_oneOf obM_0 rfl rfl rfl (Nat.le_of_ble_eq_true rfl) (CalI.mono h20 (fun x18 I16 J17 h19 => (g_istore_n dX13_taughtTold_45 rfl (by decide) rfl (g_iload_n dX13_taughtTold_46 0 2 rfl rfl (g_istore_n dX13_taughtTold_47 rfl (by decide) rfl (g_sub [3, 2, 1, 0] rfl h19)))))))))))))))) (fun q13 => (g_aload_n dX13_taughtTold_23 1 0 rfl rfl (g_iconst dX13_taughtTold_24 kc_3 (g_aload_n dX13_taughtTold_25 1 0 rfl rfl (g_getI dX13_taughtTold_26 fl_X13_305 rfl obM_0 (g_callvV dX13_taughtTold_29 ml_X13_287 md_X13_fail mv_X13_fail obM_0 rfl rfl rfl (Nat.le_of_ble_eq_true rfl) (CalV.mono ((h31.2 q4).2.2 q13) (fun I21 J22 h30 => (g_aload_n dX13_taughtTold_32 1 0 rfl rfl (g_aload_n dX13_taughtTold_33 1 0 rfl rfl (g_getP dX13_taughtTold_34 fl_X13_42 rfl obM_0 rfl (g_callvV dX13_taughtTold_37 ml_X13_330 md_X13_asks mv_X13_asks obM_0 rfl rfl rfl (Nat.le_of_ble_eq_true rfl) (CalV.mono h30 (fun I23 J24 h29 => (g_aload_n dX13_taughtTold_40 1 0 rfl rfl (g_iconst dX13_taughtTold_41 kc_1 (g_callvI dX13_taughtTold_42 ml_X13_338 md_X13_oneOf mv_X13_oneOf obM_0 rfl rfl rfl (Nat.le_of_ble_eq_true rfl) (CalI.mono h29 (fun x27 I25 J26 h28 => (g_istore_n dX13_taughtTold_45 rfl (by decide) rfl (g_iload_n dX13_taughtTold_46 0 2 rfl rfl (g_istore_n dX13_taughtTold_47 rfl (by decide) rfl (g_sub [3, 2, 1, 0] rfl h28)))))))))))))))))))))))))))))))))))))))
theorem bX13_taughtTold_48 {d : Nat}  {v1 : Int32} {v2 : Int32} {v3 : Int32} {I : Ii} {J : Jj} {K : KV}
    (h : ((¬ (I 0 5) = 0) → (K I J)) ∧ (((I 0 5) = 0) → (((v3 = ((-1))) → (((¬ v3 = v1) → (vp_in (v1) 8 ∧ (K (u2 I 37 v1.toNatClampNeg v2) J))) ∧ ((v3 = v1) → (CalV wM d mX13_fail [.ref (0), .int (3), .int (I 0 38)] I J (fun I6 J7 => (((¬ (I6 0 5) = 0) → (K I6 J7)) ∧ (((I6 0 5) = 0) → (vp_in (v1) 8 ∧ (K (u2 I6 37 v1.toNatClampNeg v2) J7))))))))) ∧ ((¬ v3 = ((-1))) → (((v3 = v1) → (CalV wM d mX13_fail [.ref (0), .int (3), .int (I 0 38)] I J (fun I13 J14 => (((¬ (I13 0 5) = 0) → (K I13 J14)) ∧ (((I13 0 5) = 0) → (vp_in (v1) 8 ∧ (K (u2 I13 37 v1.toNatClampNeg v2) J14))))))) ∧ ((¬ v3 = v1) → (vp_in (v3) 8 ∧ (GoV wM (d + 1) mX13_taughtTold 48 [(0, .ref (0)), (1, .int (v1)), (2, .int (v2)), (3, .int (I 37 v3.toNatClampNeg))] [] I J K)))))))) :
    GoV wM (d + 1) mX13_taughtTold 48 [(0, .ref (0)), (1, .int (v1)), (2, .int (v2)), (3, .int (v3))] [] I J K :=
  (g_aload_n dX13_taughtTold_48 0 0 rfl rfl (g_getI dX13_taughtTold_49 fl_X13_257 rfl obM_0 (g_if_ne dX13_taughtTold_52 rfl (fun q1 => (g_aload_n dX13_taughtTold_75 0 0 rfl rfl (g_getI dX13_taughtTold_76 fl_X13_257 rfl obM_0 (g_if_ne dX13_taughtTold_79 rfl (fun _ => (g_aload_n dX13_taughtTold_96 0 0 rfl rfl (g_getI dX13_taughtTold_97 fl_X13_257 rfl obM_0 (g_if_ne dX13_taughtTold_100 rfl (fun _ => (g_return dX13_taughtTold_110 rfl ⟨rfl, (h.1 q1)⟩)) (fun q => absurd q q1))))) (fun q => absurd q q1))))) (fun q1 => (g_iload_n dX13_taughtTold_55 3 3 rfl rfl (g_iconst dX13_taughtTold_56 kc_n1 (g_icmp_eq dX13_taughtTold_57 rfl (fun q2 => (g_aload_n dX13_taughtTold_75 0 0 rfl rfl (g_getI dX13_taughtTold_76 fl_X13_257 rfl obM_0 (g_if_ne dX13_taughtTold_79 rfl (fun q => absurd q1 q) (fun _ => (g_iload_n dX13_taughtTold_82 3 3 rfl rfl (g_iload_n dX13_taughtTold_83 1 1 rfl rfl (g_icmp_ne dX13_taughtTold_84 rfl (fun q3 => (g_aload_n dX13_taughtTold_96 0 0 rfl rfl (g_getI dX13_taughtTold_97 fl_X13_257 rfl obM_0 (g_if_ne dX13_taughtTold_100 rfl (fun q => absurd q1 q) (fun _ => (g_aload_n dX13_taughtTold_103 0 0 rfl rfl (g_getP dX13_taughtTold_104 fl_X13_124 rfl obM_0 rfl (g_iload_n dX13_taughtTold_107 1 1 rfl rfl (g_iload_n dX13_taughtTold_108 2 2 rfl rfl (have b4 := (((h.2 q1).1 q2).1 q3).1; g_iast dX13_taughtTold_109 arM_37 b4 (g_return dX13_taughtTold_110 rfl ⟨rfl, (((h.2 q1).1 q2).1 q3).2⟩))))))))))) (fun q3 => (g_aload_n dX13_taughtTold_87 0 0 rfl rfl (g_iconst dX13_taughtTold_88 kc_3 (g_aload_n dX13_taughtTold_89 0 0 rfl rfl (g_getI dX13_taughtTold_90 fl_X13_305 rfl obM_0 (g_callvV dX13_taughtTold_93 ml_X13_287 md_X13_fail mv_X13_fail obM_0 rfl rfl rfl (Nat.le_of_ble_eq_true rfl) (CalV.mono (((h.2 q1).1 q2).2 q3) (fun I6 J7 h11 => (g_aload_n dX13_taughtTold_96 0 0 rfl rfl (g_getI dX13_taughtTold_97 fl_X13_257 rfl obM_0 (g_if_ne dX13_taughtTold_100 rfl (fun q8 => (g_return dX13_taughtTold_110 rfl ⟨rfl, (h11.1 q8)⟩)) (fun q8 => (g_aload_n dX13_taughtTold_103 0 0 rfl rfl (g_getP dX13_taughtTold_104 fl_X13_124 rfl obM_0 rfl (g_iload_n dX13_taughtTold_107 1 1 rfl rfl (g_iload_n dX13_taughtTold_108 2 2 rfl rfl (have b9 := (h11.2 q8).1; g_iast dX13_taughtTold_109 arM_37 b9 (g_return dX13_taughtTold_110 rfl ⟨rfl, (h11.2 q8).2⟩)))))))))))))))))))))))))) (fun q2 => (g_iload_n dX13_taughtTold_60 3 3 rfl rfl (g_iload_n dX13_taughtTold_61 1 1 rfl rfl (g_icmp_eq dX13_taughtTold_62 rfl (fun q12 => (g_aload_n dX13_taughtTold_75 0 0 rfl rfl (g_getI dX13_taughtTold_76 fl_X13_257 rfl obM_0 (g_if_ne dX13_taughtTold_79 rfl (fun q => absurd q1 q) (fun _ => (g_iload_n dX13_taughtTold_82 3 3 rfl rfl (g_iload_n dX13_taughtTold_83 1 1 rfl rfl (g_icmp_ne dX13_taughtTold_84 rfl (fun q => absurd q12 q) (fun _ => (g_aload_n dX13_taughtTold_87 0 0 rfl rfl (g_iconst dX13_taughtTold_88 kc_3 (g_aload_n dX13_taughtTold_89 0 0 rfl rfl (g_getI dX13_taughtTold_90 fl_X13_305 rfl obM_0 (g_callvV dX13_taughtTold_93 ml_X13_287 md_X13_fail mv_X13_fail obM_0 rfl rfl rfl (Nat.le_of_ble_eq_true rfl) (CalV.mono (((h.2 q1).2 q2).1 q12) (fun I13 J14 h18 => (g_aload_n dX13_taughtTold_96 0 0 rfl rfl (g_getI dX13_taughtTold_97 fl_X13_257 rfl obM_0 (g_if_ne dX13_taughtTold_100 rfl (fun q15 => (g_return dX13_taughtTold_110 rfl ⟨rfl, (h18.1 q15)⟩)) (fun q15 => (g_aload_n dX13_taughtTold_103 0 0 rfl rfl (g_getP dX13_taughtTold_104 fl_X13_124 rfl obM_0 rfl (g_iload_n dX13_taughtTold_107 1 1 rfl rfl (g_iload_n dX13_taughtTold_108 2 2 rfl rfl (have b16 := (h18.2 q15).1; g_iast dX13_taughtTold_109 arM_37 b16 (g_return dX13_taughtTold_110 rfl ⟨rfl, (h18.2 q15).2⟩)))))))))))))))))))))))))) (fun q12 => (g_aload_n dX13_taughtTold_65 0 0 rfl rfl (g_getP dX13_taughtTold_66 fl_X13_124 rfl obM_0 rfl (g_iload_n dX13_taughtTold_69 3 3 rfl rfl (have b19 := (((h.2 q1).2 q2).2 q12).1; g_iald dX13_taughtTold_70 arM_37 b19 (g_istore_n dX13_taughtTold_71 rfl (by decide) rfl (g_goto dX13_taughtTold_72 rfl (g_sub [1, 2, 3, 0] rfl (((h.2 q1).2 q2).2 q12).2)))))))))))))))))))
theorem dX13_codesTold_0 : decode cX13_codesTold 0 = .ok (.aload_n 0, 1) := by decide +kernel
theorem dX13_codesTold_1 : decode cX13_codesTold 1 = .ok (.getfield 257, 3) := by decide +kernel
theorem dX13_codesTold_4 : decode cX13_codesTold 4 = .ok (.ifCond .ne 19, 3) := by decide +kernel
theorem dX13_codesTold_7 : decode cX13_codesTold 7 = .ok (.aload_n 0, 1) := by decide +kernel
theorem dX13_codesTold_8 : decode cX13_codesTold 8 = .ok (.getfield 130, 3) := by decide +kernel
theorem dX13_codesTold_11 : decode cX13_codesTold 11 = .ok (.iload_n 1, 1) := by decide +kernel
theorem dX13_codesTold_12 : decode cX13_codesTold 12 = .ok (.iaload, 1) := by decide +kernel
theorem dX13_codesTold_13 : decode cX13_codesTold 13 = .ok (.iconst (-1), 1) := by decide +kernel
theorem dX13_codesTold_14 : decode cX13_codesTold 14 = .ok (.if_icmp .eq 9, 3) := by decide +kernel
theorem dX13_codesTold_17 : decode cX13_codesTold 17 = .ok (.aload_n 0, 1) := by decide +kernel
theorem dX13_codesTold_18 : decode cX13_codesTold 18 = .ok (.iconst 5, 1) := by decide +kernel
theorem dX13_codesTold_19 : decode cX13_codesTold 19 = .ok (.iload_n 2, 1) := by decide +kernel
theorem dX13_codesTold_20 : decode cX13_codesTold 20 = .ok (.invokevirtual 287, 3) := by decide +kernel
theorem dX13_codesTold_23 : decode cX13_codesTold 23 = .ok (.aload_n 0, 1) := by decide +kernel
theorem dX13_codesTold_24 : decode cX13_codesTold 24 = .ok (.getfield 257, 3) := by decide +kernel
theorem dX13_codesTold_27 : decode cX13_codesTold 27 = .ok (.ifCond .eq 4, 3) := by decide +kernel
theorem dX13_codesTold_30 : decode cX13_codesTold 30 = .ok (.return_, 1) := by decide +kernel
theorem dX13_codesTold_31 : decode cX13_codesTold 31 = .ok (.aload_n 0, 1) := by decide +kernel
theorem dX13_codesTold_32 : decode cX13_codesTold 32 = .ok (.iload_n 1, 1) := by decide +kernel
theorem dX13_codesTold_33 : decode cX13_codesTold 33 = .ok (.iconst 2, 1) := by decide +kernel
theorem dX13_codesTold_34 : decode cX13_codesTold 34 = .ok (.if_icmp .ne 7, 3) := by decide +kernel
theorem dX13_codesTold_37 : decode cX13_codesTold 37 = .ok (.iconst 1, 1) := by decide +kernel
theorem dX13_codesTold_38 : decode cX13_codesTold 38 = .ok (.goto 4, 3) := by decide +kernel
theorem dX13_codesTold_41 : decode cX13_codesTold 41 = .ok (.iconst 0, 1) := by decide +kernel
theorem dX13_codesTold_42 : decode cX13_codesTold 42 = .ok (.putfield 312, 3) := by decide +kernel
theorem dX13_codesTold_45 : decode cX13_codesTold 45 = .ok (.aload_n 0, 1) := by decide +kernel
theorem dX13_codesTold_46 : decode cX13_codesTold 46 = .ok (.iconst 0, 1) := by decide +kernel
theorem dX13_codesTold_47 : decode cX13_codesTold 47 = .ok (.putfield 342, 3) := by decide +kernel
theorem dX13_codesTold_50 : decode cX13_codesTold 50 = .ok (.aload_n 0, 1) := by decide +kernel
theorem dX13_codesTold_51 : decode cX13_codesTold 51 = .ok (.iconst 0, 1) := by decide +kernel
theorem dX13_codesTold_52 : decode cX13_codesTold 52 = .ok (.putfield 345, 3) := by decide +kernel
theorem dX13_codesTold_55 : decode cX13_codesTold 55 = .ok (.aload_n 0, 1) := by decide +kernel
theorem dX13_codesTold_56 : decode cX13_codesTold 56 = .ok (.iconst 0, 1) := by decide +kernel
theorem dX13_codesTold_57 : decode cX13_codesTold 57 = .ok (.putfield 348, 3) := by decide +kernel
theorem dX13_codesTold_60 : decode cX13_codesTold 60 = .ok (.aload_n 0, 1) := by decide +kernel
theorem dX13_codesTold_61 : decode cX13_codesTold 61 = .ok (.iconst 0, 1) := by decide +kernel
theorem dX13_codesTold_62 : decode cX13_codesTold 62 = .ok (.putfield 351, 3) := by decide +kernel
theorem dX13_codesTold_65 : decode cX13_codesTold 65 = .ok (.aload_n 0, 1) := by decide +kernel
theorem dX13_codesTold_66 : decode cX13_codesTold 66 = .ok (.invokevirtual 354, 3) := by decide +kernel
theorem dX13_codesTold_69 : decode cX13_codesTold 69 = .ok (.aload_n 0, 1) := by decide +kernel
theorem dX13_codesTold_70 : decode cX13_codesTold 70 = .ok (.getfield 257, 3) := by decide +kernel
theorem dX13_codesTold_73 : decode cX13_codesTold 73 = .ok (.ifCond .eq 4, 3) := by decide +kernel
theorem dX13_codesTold_76 : decode cX13_codesTold 76 = .ok (.return_, 1) := by decide +kernel
theorem dX13_codesTold_77 : decode cX13_codesTold 77 = .ok (.aload_n 0, 1) := by decide +kernel
theorem dX13_codesTold_78 : decode cX13_codesTold 78 = .ok (.getfield 130, 3) := by decide +kernel
theorem dX13_codesTold_81 : decode cX13_codesTold 81 = .ok (.iload_n 1, 1) := by decide +kernel
theorem dX13_codesTold_82 : decode cX13_codesTold 82 = .ok (.aload_n 0, 1) := by decide +kernel
theorem dX13_codesTold_83 : decode cX13_codesTold 83 = .ok (.getfield 357, 3) := by decide +kernel
theorem dX13_codesTold_86 : decode cX13_codesTold 86 = .ok (.iastore, 1) := by decide +kernel
theorem dX13_codesTold_87 : decode cX13_codesTold 87 = .ok (.iconst 0, 1) := by decide +kernel
theorem dX13_codesTold_88 : decode cX13_codesTold 88 = .ok (.istore_n 3, 1) := by decide +kernel
theorem dX13_codesTold_89 : decode cX13_codesTold 89 = .ok (.iload_n 3, 1) := by decide +kernel
theorem dX13_codesTold_90 : decode cX13_codesTold 90 = .ok (.aload_n 0, 1) := by decide +kernel
theorem dX13_codesTold_91 : decode cX13_codesTold 91 = .ok (.getfield 342, 3) := by decide +kernel
theorem dX13_codesTold_94 : decode cX13_codesTold 94 = .ok (.if_icmp .ge 34, 3) := by decide +kernel
theorem dX13_codesTold_97 : decode cX13_codesTold 97 = .ok (.aload_n 0, 1) := by decide +kernel
theorem dX13_codesTold_98 : decode cX13_codesTold 98 = .ok (.getfield 136, 3) := by decide +kernel
theorem dX13_codesTold_101 : decode cX13_codesTold 101 = .ok (.aload_n 0, 1) := by decide +kernel
theorem dX13_codesTold_102 : decode cX13_codesTold 102 = .ok (.getfield 357, 3) := by decide +kernel
theorem dX13_codesTold_105 : decode cX13_codesTold 105 = .ok (.aload_n 0, 1) := by decide +kernel
theorem dX13_codesTold_106 : decode cX13_codesTold 106 = .ok (.getfield 242, 3) := by decide +kernel
theorem dX13_codesTold_109 : decode cX13_codesTold 109 = .ok (.iload_n 3, 1) := by decide +kernel
theorem dX13_codesTold_110 : decode cX13_codesTold 110 = .ok (.iaload, 1) := by decide +kernel
theorem dX13_codesTold_111 : decode cX13_codesTold 111 = .ok (.iastore, 1) := by decide +kernel
theorem dX13_codesTold_112 : decode cX13_codesTold 112 = .ok (.aload_n 0, 1) := by decide +kernel
theorem dX13_codesTold_113 : decode cX13_codesTold 113 = .ok (.dup, 1) := by decide +kernel
theorem dX13_codesTold_114 : decode cX13_codesTold 114 = .ok (.getfield 357, 3) := by decide +kernel
theorem dX13_codesTold_117 : decode cX13_codesTold 117 = .ok (.iconst 1, 1) := by decide +kernel
theorem dX13_codesTold_118 : decode cX13_codesTold 118 = .ok (.iadd, 1) := by decide +kernel
theorem dX13_codesTold_119 : decode cX13_codesTold 119 = .ok (.putfield 357, 3) := by decide +kernel
theorem dX13_codesTold_122 : decode cX13_codesTold 122 = .ok (.iinc 3 1, 3) := by decide +kernel
theorem dX13_codesTold_125 : decode cX13_codesTold 125 = .ok (.goto (-36), 3) := by decide +kernel
theorem dX13_codesTold_128 : decode cX13_codesTold 128 = .ok (.aload_n 0, 1) := by decide +kernel
theorem dX13_codesTold_129 : decode cX13_codesTold 129 = .ok (.getfield 133, 3) := by decide +kernel
theorem dX13_codesTold_132 : decode cX13_codesTold 132 = .ok (.iload_n 1, 1) := by decide +kernel
theorem dX13_codesTold_133 : decode cX13_codesTold 133 = .ok (.aload_n 0, 1) := by decide +kernel
theorem dX13_codesTold_134 : decode cX13_codesTold 134 = .ok (.getfield 357, 3) := by decide +kernel
theorem dX13_codesTold_137 : decode cX13_codesTold 137 = .ok (.iastore, 1) := by decide +kernel
theorem dX13_codesTold_138 : decode cX13_codesTold 138 = .ok (.return_, 1) := by decide +kernel
theorem bX13_codesTold_0 {d : Nat}  {v1 : Int32} {v2 : Int32} {I : Ii} {J : Jj} {K : KV}
    (h : ((¬ (I 0 5) = 0) → (K I J)) ∧ (((I 0 5) = 0) → (vp_in (v1) 6 ∧ ((((I 39 v1.toNatClampNeg) = ((-1))) → (((¬ v1 = 2) → (CalV wM d mX13_qTest [.ref (0)] (u2 (u2 (u2 (u2 (u2 I 0 52 0) 0 94 0) 0 96 0) 0 97 0) 0 98 0) J (fun I10 J11 => ((((I10 0 5) = 0) → (GoV wM (d + 1) mX13_codesTold 89 [(0, .ref (0)), (1, .int (v1)), (3, .int (0))] [] (u2 I10 39 v1.toNatClampNeg (I10 0 50)) J11 K)) ∧ ((¬ (I10 0 5) = 0) → (K I10 J11)))))) ∧ ((v1 = 2) → (CalV wM d mX13_qTest [.ref (0)] (u2 (u2 (u2 (u2 (u2 I 0 52 1) 0 94 0) 0 96 0) 0 97 0) 0 98 0) J (fun I20 J21 => ((((I20 0 5) = 0) → (GoV wM (d + 1) mX13_codesTold 89 [(0, .ref (0)), (1, .int (v1)), (3, .int (0))] [] (u2 I20 39 v1.toNatClampNeg (I20 0 50)) J21 K)) ∧ ((¬ (I20 0 5) = 0) → (K I20 J21)))))))) ∧ ((¬ (I 39 v1.toNatClampNeg) = ((-1))) → (CalV wM d mX13_fail [.ref (0), .int (5), .int (v2)] I J (fun I25 J26 => ((((I25 0 5) = 0) → (((¬ v1 = 2) → (CalV wM d mX13_qTest [.ref (0)] (u2 (u2 (u2 (u2 (u2 I25 0 52 0) 0 94 0) 0 96 0) 0 97 0) 0 98 0) J26 (fun I34 J35 => ((((I34 0 5) = 0) → (GoV wM (d + 1) mX13_codesTold 89 [(0, .ref (0)), (1, .int (v1)), (3, .int (0))] [] (u2 I34 39 v1.toNatClampNeg (I34 0 50)) J35 K)) ∧ ((¬ (I34 0 5) = 0) → (K I34 J35)))))) ∧ ((v1 = 2) → (CalV wM d mX13_qTest [.ref (0)] (u2 (u2 (u2 (u2 (u2 I25 0 52 1) 0 94 0) 0 96 0) 0 97 0) 0 98 0) J26 (fun I44 J45 => ((((I44 0 5) = 0) → (GoV wM (d + 1) mX13_codesTold 89 [(0, .ref (0)), (1, .int (v1)), (3, .int (0))] [] (u2 I44 39 v1.toNatClampNeg (I44 0 50)) J45 K)) ∧ ((¬ (I44 0 5) = 0) → (K I44 J45)))))))) ∧ ((¬ (I25 0 5) = 0) → (K I25 J26)))))))))) :
    GoV wM (d + 1) mX13_codesTold 0 [(0, .ref (0)), (1, .int (v1)), (2, .int (v2))] [] I J K :=
  (g_aload_n dX13_codesTold_0 0 0 rfl rfl (g_getI dX13_codesTold_1 fl_X13_257 rfl obM_0 (g_if_ne dX13_codesTold_4 rfl (fun q1 => (g_aload_n dX13_codesTold_23 0 0 rfl rfl (g_getI dX13_codesTold_24 fl_X13_257 rfl obM_0 (g_if_eq dX13_codesTold_27 rfl (fun q => absurd q q1) (fun _ => (g_return dX13_codesTold_30 rfl ⟨rfl, (h.1 q1)⟩)))))) (fun q1 => (g_aload_n dX13_codesTold_7 0 0 rfl rfl (g_getP dX13_codesTold_8 fl_X13_130 rfl obM_0 rfl (g_iload_n dX13_codesTold_11 1 1 rfl rfl (have b2 := (h.2 q1).1; g_iald dX13_codesTold_12 arM_39 b2 (g_iconst dX13_codesTold_13 kc_n1 (g_icmp_eq dX13_codesTold_14 rfl (fun q3 => (g_aload_n dX13_codesTold_23 0 0 rfl rfl (g_getI dX13_codesTold_24 fl_X13_257 rfl obM_0 (g_if_eq dX13_codesTold_27 rfl (fun _ => (g_aload_n dX13_codesTold_31 0 0 rfl rfl (g_iload_n dX13_codesTold_32 1 1 rfl rfl (g_iconst dX13_codesTold_33 kc_2 (g_icmp_ne dX13_codesTold_34 rfl (fun q4 => (g_iconst dX13_codesTold_41 kc_0 (g_putI dX13_codesTold_42 fl_X13_312 rfl rfl obM_0 (g_aload_n dX13_codesTold_45 0 0 rfl rfl (g_iconst dX13_codesTold_46 kc_0 (g_putI dX13_codesTold_47 fl_X13_342 rfl rfl obM_0 (g_aload_n dX13_codesTold_50 0 0 rfl rfl (g_iconst dX13_codesTold_51 kc_0 (g_putI dX13_codesTold_52 fl_X13_345 rfl rfl obM_0 (g_aload_n dX13_codesTold_55 0 0 rfl rfl (g_iconst dX13_codesTold_56 kc_0 (g_putI dX13_codesTold_57 fl_X13_348 rfl rfl obM_0 (g_aload_n dX13_codesTold_60 0 0 rfl rfl (g_iconst dX13_codesTold_61 kc_0 (g_putI dX13_codesTold_62 fl_X13_351 rfl rfl obM_0 (g_aload_n dX13_codesTold_65 0 0 rfl rfl (g_callvV dX13_codesTold_66 ml_X13_354 md_X13_qTest mv_X13_qTest obM_0 rfl rfl rfl (Nat.le_of_ble_eq_true rfl) (CalV.mono (((h.2 q1).2.1 q3).1 q4) (fun I10 J11 h14 => (g_aload_n dX13_codesTold_69 0 0 rfl rfl (g_getI dX13_codesTold_70 fl_X13_257 rfl obM_0 (g_if_eq dX13_codesTold_73 rfl (fun q12 => (g_aload_n dX13_codesTold_77 0 0 rfl rfl (g_getP dX13_codesTold_78 fl_X13_130 rfl obM_0 rfl (g_iload_n dX13_codesTold_81 1 1 rfl rfl (g_aload_n dX13_codesTold_82 0 0 rfl rfl (g_getI dX13_codesTold_83 fl_X13_357 rfl obM_0 (g_iast dX13_codesTold_86 arM_39 b2 (g_iconst dX13_codesTold_87 kc_0 (g_istore_n dX13_codesTold_88 rfl (by decide) rfl (g_sub [1, 2, 0] rfl (h14.1 q12))))))))))) (fun q12 => (g_return dX13_codesTold_76 rfl ⟨rfl, (h14.2 q12)⟩)))))))))))))))))))))))) (fun q4 => (g_iconst dX13_codesTold_37 kc_1 (g_goto dX13_codesTold_38 rfl (g_putI dX13_codesTold_42 fl_X13_312 rfl rfl obM_0 (g_aload_n dX13_codesTold_45 0 0 rfl rfl (g_iconst dX13_codesTold_46 kc_0 (g_putI dX13_codesTold_47 fl_X13_342 rfl rfl obM_0 (g_aload_n dX13_codesTold_50 0 0 rfl rfl (g_iconst dX13_codesTold_51 kc_0 (g_putI dX13_codesTold_52 fl_X13_345 rfl rfl obM_0 (g_aload_n dX13_codesTold_55 0 0 rfl rfl (g_iconst dX13_codesTold_56 kc_0 (g_putI dX13_codesTold_57 fl_X13_348 rfl rfl obM_0 (g_aload_n dX13_codesTold_60 0 0 rfl rfl (g_iconst dX13_codesTold_61 kc_0 (g_putI dX13_codesTold_62 fl_X13_351 rfl rfl obM_0 (g_aload_n dX13_codesTold_65 0 0 rfl rfl (g_callvV dX13_codesTold_66 ml_X13_354 md_X13_qTest mv_X13_qTest obM_0 rfl rfl rfl (Nat.le_of_ble_eq_true rfl) (CalV.mono (((h.2 q1).2.1 q3).2 q4) (fun I20 J21 h24 => (g_aload_n dX13_codesTold_69 0 0 rfl rfl (g_getI dX13_codesTold_70 fl_X13_257 rfl obM_0 (g_if_eq dX13_codesTold_73 rfl (fun q22 => (g_aload_n dX13_codesTold_77 0 0 rfl rfl (g_getP dX13_codesTold_78 fl_X13_130 rfl obM_0 rfl (g_iload_n dX13_codesTold_81 1 1 rfl rfl (g_aload_n dX13_codesTold_82 0 0 rfl rfl (g_getI dX13_codesTold_83 fl_X13_357 rfl obM_0 (g_iast dX13_codesTold_86 arM_39 b2 (g_iconst dX13_codesTold_87 kc_0 (g_istore_n dX13_codesTold_88 rfl (by decide) rfl (g_sub [1, 2, 0] rfl (h24.1 q22))))))))))) (fun q22 => (g_return dX13_codesTold_76 rfl ⟨rfl, (h24.2 q22)⟩)))))))))))))))))))))))))))))) (fun q => absurd q1 q))))) (fun q3 => (g_aload_n dX13_codesTold_17 0 0 rfl rfl (g_iconst dX13_codesTold_18 kc_5 (g_iload_n dX13_codesTold_19 2 2 rfl rfl (g_callvV dX13_codesTold_20 ml_X13_287 md_X13_fail mv_X13_fail obM_0 rfl rfl rfl (Nat.le_of_ble_eq_true rfl) (CalV.mono ((h.2 q1).2.2 q3) (fun I25 J26 h49 => (g_aload_n dX13_codesTold_23 0 0 rfl rfl (g_getI dX13_codesTold_24 fl_X13_257 rfl obM_0 (g_if_eq dX13_codesTold_27 rfl (fun q27 => (g_aload_n dX13_codesTold_31 0 0 rfl rfl (g_iload_n dX13_codesTold_32 1 1 rfl rfl (g_iconst dX13_codesTold_33 kc_2 (g_icmp_ne dX13_codesTold_34 rfl (fun q28 => (g_iconst dX13_codesTold_41 kc_0 (g_putI dX13_codesTold_42 fl_X13_312 rfl rfl obM_0 (g_aload_n dX13_codesTold_45 0 0 rfl rfl (g_iconst dX13_codesTold_46 kc_0 (g_putI dX13_codesTold_47 fl_X13_342 rfl rfl obM_0 (g_aload_n dX13_codesTold_50 0 0 rfl rfl (g_iconst dX13_codesTold_51 kc_0 (g_putI dX13_codesTold_52 fl_X13_345 rfl rfl obM_0 (g_aload_n dX13_codesTold_55 0 0 rfl rfl (g_iconst dX13_codesTold_56 kc_0 (g_putI dX13_codesTold_57 fl_X13_348 rfl rfl obM_0 (g_aload_n dX13_codesTold_60 0 0 rfl rfl (g_iconst dX13_codesTold_61 kc_0 (g_putI dX13_codesTold_62 fl_X13_351 rfl rfl obM_0 (g_aload_n dX13_codesTold_65 0 0 rfl rfl (g_callvV dX13_codesTold_66 ml_X13_354 md_X13_qTest mv_X13_qTest obM_0 rfl rfl rfl (Nat.le_of_ble_eq_true rfl) (CalV.mono ((h49.1 q27).1 q28) (fun I34 J35 h38 => (g_aload_n dX13_codesTold_69 0 0 rfl rfl (g_getI dX13_codesTold_70 fl_X13_257 rfl obM_0 (g_if_eq dX13_codesTold_73 rfl (fun q36 => (g_aload_n dX13_codesTold_77 0 0 rfl rfl (g_getP dX13_codesTold_78 fl_X13_130 rfl obM_0 rfl (g_iload_n dX13_codesTold_81 1 1 rfl rfl (g_aload_n dX13_codesTold_82 0 0 rfl rfl (g_getI dX13_codesTold_83 fl_X13_357 rfl obM_0 (g_iast dX13_codesTold_86 arM_39 b2 (g_iconst dX13_codesTold_87 kc_0 (g_istore_n dX13_codesTold_88 rfl (by decide) rfl (g_sub [1, 2, 0] rfl (h38.1 q36))))))))))) (fun q36 => (g_return dX13_codesTold_76 rfl ⟨rfl, (h38.2 q36)⟩)))))))))))))))))))))))) (fun q28 => (g_iconst dX13_codesTold_37 kc_1 (g_goto dX13_codesTold_38 rfl (g_putI dX13_codesTold_42 fl_X13_312 rfl rfl obM_0 (g_aload_n dX13_codesTold_45 0 0 rfl rfl (g_iconst dX13_codesTold_46 kc_0 (g_putI dX13_codesTold_47 fl_X13_342 rfl rfl obM_0 (g_aload_n dX13_codesTold_50 0 0 rfl rfl (g_iconst dX13_codesTold_51 kc_0 (g_putI dX13_codesTold_52 fl_X13_345 rfl rfl obM_0 (g_aload_n dX13_codesTold_55 0 0 rfl rfl (g_iconst dX13_codesTold_56 kc_0 (g_putI dX13_codesTold_57 fl_X13_348 rfl rfl obM_0 (g_aload_n dX13_codesTold_60 0 0 rfl rfl (g_iconst dX13_codesTold_61 kc_0 (g_putI dX13_codesTold_62 fl_X13_351 rfl rfl obM_0 (g_aload_n dX13_codesTold_65 0 0 rfl rfl (g_callvV dX13_codesTold_66 ml_X13_354 md_X13_qTest mv_X13_qTest obM_0 rfl rfl rfl (Nat.le_of_ble_eq_true rfl) (CalV.mono ((h49.1 q27).2 q28) (fun I44 J45 h48 => (g_aload_n dX13_codesTold_69 0 0 rfl rfl (g_getI dX13_codesTold_70 fl_X13_257 rfl obM_0 (g_if_eq dX13_codesTold_73 rfl (fun q46 => (g_aload_n dX13_codesTold_77 0 0 rfl rfl (g_getP dX13_codesTold_78 fl_X13_130 rfl obM_0 rfl (g_iload_n dX13_codesTold_81 1 1 rfl rfl (g_aload_n dX13_codesTold_82 0 0 rfl rfl (g_getI dX13_codesTold_83 fl_X13_357 rfl obM_0 (g_iast dX13_codesTold_86 arM_39 b2 (g_iconst dX13_codesTold_87 kc_0 (g_istore_n dX13_codesTold_88 rfl (by decide) rfl (g_sub [1, 2, 0] rfl (h48.1 q46))))))))))) (fun q46 => (g_return dX13_codesTold_76 rfl ⟨rfl, (h48.2 q46)⟩)))))))))))))))))))))))))))))) (fun q27 => (g_return dX13_codesTold_30 rfl ⟨rfl, (h49.2 q27)⟩))))))))))))))))))))))
theorem bX13_codesTold_89 {d : Nat}  {v1 : Int32} {v3 : Int32} {I : Ii} {J : Jj} {K : KV}
    (h : (((I 0 94) ≤ v3) → (vp_in (v1) 6 ∧ (K (u2 I 40 v1.toNatClampNeg (I 0 50)) J))) ∧ ((¬ (I 0 94) ≤ v3) → (vp_in (v3) 1700 ∧ (vp_in (I 0 50) 3200 ∧ (∀ I6 : Ii, I6 = u2 I 41 (I 0 50).toNatClampNeg (I 75 v3.toNatClampNeg) → (GoV wM (d + 1) mX13_codesTold 89 [(0, .ref (0)), (1, .int (v1)), (3, .int (v3 + 1))] [] (u2 I6 0 50 ((I6 0 50) + 1)) J K)))))) :
    GoV wM (d + 1) mX13_codesTold 89 [(0, .ref (0)), (1, .int (v1)), (3, .int (v3))] [] I J K :=
  (g_iload_n dX13_codesTold_89 2 3 rfl rfl (g_aload_n dX13_codesTold_90 0 0 rfl rfl (g_getI dX13_codesTold_91 fl_X13_342 rfl obM_0 (g_icmp_ge dX13_codesTold_94 rfl (fun q1 => (g_aload_n dX13_codesTold_128 0 0 rfl rfl (g_getP dX13_codesTold_129 fl_X13_133 rfl obM_0 rfl (g_iload_n dX13_codesTold_132 1 1 rfl rfl (g_aload_n dX13_codesTold_133 0 0 rfl rfl (g_getI dX13_codesTold_134 fl_X13_357 rfl obM_0 (have b2 := (h.1 q1).1; g_iast dX13_codesTold_137 arM_40 b2 (g_return dX13_codesTold_138 rfl ⟨rfl, (h.1 q1).2⟩)))))))) (fun q1 => (g_aload_n dX13_codesTold_97 0 0 rfl rfl (g_getP dX13_codesTold_98 fl_X13_136 rfl obM_0 rfl (g_aload_n dX13_codesTold_101 0 0 rfl rfl (g_getI dX13_codesTold_102 fl_X13_357 rfl obM_0 (g_aload_n dX13_codesTold_105 0 0 rfl rfl (g_getP dX13_codesTold_106 fl_X13_242 rfl obM_0 rfl (g_iload_n dX13_codesTold_109 2 3 rfl rfl (have b4 := (h.2 q1).1; g_iald dX13_codesTold_110 arM_75 b4 (have b5 := (h.2 q1).2.1; g_iast dX13_codesTold_111 arM_41 b5 (g_aload_n dX13_codesTold_112 0 0 rfl rfl (g_dup dX13_codesTold_113 rfl (g_getI dX13_codesTold_114 fl_X13_357 rfl obM_0 (g_iconst dX13_codesTold_117 kc_1 (g_iadd dX13_codesTold_118 (g_putI dX13_codesTold_119 fl_X13_357 rfl rfl obM_0 (g_iinc dX13_codesTold_122 2 rfl rfl (by decide) rfl (g_goto dX13_codesTold_125 rfl (g_sub [1, 2, 0] rfl ((h.2 q1).2.2 _ rfl))))))))))))))))))))))))
theorem dX13_qTest_0 : decode cX13_qTest 0 = .ok (.iconst 1, 1) := by decide +kernel
theorem dX13_qTest_1 : decode cX13_qTest 1 = .ok (.istore_n 1, 1) := by decide +kernel
theorem dX13_qTest_2 : decode cX13_qTest 2 = .ok (.iload_n 1, 1) := by decide +kernel
theorem dX13_qTest_3 : decode cX13_qTest 3 = .ok (.ifCond .eq 107, 3) := by decide +kernel
theorem dX13_qTest_6 : decode cX13_qTest 6 = .ok (.aload_n 0, 1) := by decide +kernel
theorem dX13_qTest_7 : decode cX13_qTest 7 = .ok (.getfield 257, 3) := by decide +kernel
theorem dX13_qTest_10 : decode cX13_qTest 10 = .ok (.ifCond .ne 100, 3) := by decide +kernel
theorem dX13_qTest_13 : decode cX13_qTest 13 = .ok (.aload_n 0, 1) := by decide +kernel
theorem dX13_qTest_14 : decode cX13_qTest 14 = .ok (.invokevirtual 269, 3) := by decide +kernel
theorem dX13_qTest_17 : decode cX13_qTest 17 = .ok (.istore_n 2, 1) := by decide +kernel
theorem dX13_qTest_18 : decode cX13_qTest 18 = .ok (.iload_n 2, 1) := by decide +kernel
theorem dX13_qTest_19 : decode cX13_qTest 19 = .ok (.bipush 91, 2) := by decide +kernel
theorem dX13_qTest_21 : decode cX13_qTest 21 = .ok (.if_icmp .ne 26, 3) := by decide +kernel
theorem dX13_qTest_24 : decode cX13_qTest 24 = .ok (.aload_n 0, 1) := by decide +kernel
theorem dX13_qTest_25 : decode cX13_qTest 25 = .ok (.bipush 25, 2) := by decide +kernel
theorem dX13_qTest_27 : decode cX13_qTest 27 = .ok (.aload_n 0, 1) := by decide +kernel
theorem dX13_qTest_28 : decode cX13_qTest 28 = .ok (.getfield 263, 3) := by decide +kernel
theorem dX13_qTest_31 : decode cX13_qTest 31 = .ok (.invokevirtual 579, 3) := by decide +kernel
theorem dX13_qTest_34 : decode cX13_qTest 34 = .ok (.aload_n 0, 1) := by decide +kernel
theorem dX13_qTest_35 : decode cX13_qTest 35 = .ok (.dup, 1) := by decide +kernel
theorem dX13_qTest_36 : decode cX13_qTest 36 = .ok (.getfield 263, 3) := by decide +kernel
theorem dX13_qTest_39 : decode cX13_qTest 39 = .ok (.iconst 1, 1) := by decide +kernel
theorem dX13_qTest_40 : decode cX13_qTest 40 = .ok (.iadd, 1) := by decide +kernel
theorem dX13_qTest_41 : decode cX13_qTest 41 = .ok (.putfield 263, 3) := by decide +kernel
theorem dX13_qTest_44 : decode cX13_qTest 44 = .ok (.goto (-42), 3) := by decide +kernel
theorem dX13_qTest_47 : decode cX13_qTest 47 = .ok (.aload_n 0, 1) := by decide +kernel
theorem dX13_qTest_48 : decode cX13_qTest 48 = .ok (.aload_n 0, 1) := by decide +kernel
theorem dX13_qTest_49 : decode cX13_qTest 49 = .ok (.getfield 185, 3) := by decide +kernel
theorem dX13_qTest_52 : decode cX13_qTest 52 = .ok (.invokevirtual 280, 3) := by decide +kernel
theorem dX13_qTest_55 : decode cX13_qTest 55 = .ok (.ifCond .eq 24, 3) := by decide +kernel
theorem dX13_qTest_58 : decode cX13_qTest 58 = .ok (.aload_n 0, 1) := by decide +kernel
theorem dX13_qTest_59 : decode cX13_qTest 59 = .ok (.bipush 12, 2) := by decide +kernel
theorem dX13_qTest_61 : decode cX13_qTest 61 = .ok (.aload_n 0, 1) := by decide +kernel
theorem dX13_qTest_62 : decode cX13_qTest 62 = .ok (.getfield 263, 3) := by decide +kernel
theorem dX13_qTest_65 : decode cX13_qTest 65 = .ok (.invokevirtual 579, 3) := by decide +kernel
theorem dX13_qTest_68 : decode cX13_qTest 68 = .ok (.aload_n 0, 1) := by decide +kernel
theorem dX13_qTest_69 : decode cX13_qTest 69 = .ok (.aload_n 0, 1) := by decide +kernel
theorem dX13_qTest_70 : decode cX13_qTest 70 = .ok (.getfield 185, 3) := by decide +kernel
theorem dX13_qTest_73 : decode cX13_qTest 73 = .ok (.invokevirtual 330, 3) := by decide +kernel
theorem dX13_qTest_76 : decode cX13_qTest 76 = .ok (.goto (-74), 3) := by decide +kernel
theorem dX13_qTest_79 : decode cX13_qTest 79 = .ok (.aload_n 0, 1) := by decide +kernel
theorem dX13_qTest_80 : decode cX13_qTest 80 = .ok (.invokevirtual 606, 3) := by decide +kernel
theorem dX13_qTest_83 : decode cX13_qTest 83 = .ok (.aload_n 0, 1) := by decide +kernel
theorem dX13_qTest_84 : decode cX13_qTest 84 = .ok (.invokevirtual 609, 3) := by decide +kernel
theorem dX13_qTest_87 : decode cX13_qTest 87 = .ok (.aload_n 0, 1) := by decide +kernel
theorem dX13_qTest_88 : decode cX13_qTest 88 = .ok (.getfield 257, 3) := by decide +kernel
theorem dX13_qTest_91 : decode cX13_qTest 91 = .ok (.ifCond .ne 14, 3) := by decide +kernel
theorem dX13_qTest_94 : decode cX13_qTest 94 = .ok (.aload_n 0, 1) := by decide +kernel
theorem dX13_qTest_95 : decode cX13_qTest 95 = .ok (.invokevirtual 612, 3) := by decide +kernel
theorem dX13_qTest_98 : decode cX13_qTest 98 = .ok (.ifCond .eq 7, 3) := by decide +kernel
theorem dX13_qTest_101 : decode cX13_qTest 101 = .ok (.iconst 1, 1) := by decide +kernel
theorem dX13_qTest_102 : decode cX13_qTest 102 = .ok (.goto 4, 3) := by decide +kernel
theorem dX13_qTest_105 : decode cX13_qTest 105 = .ok (.iconst 0, 1) := by decide +kernel
theorem dX13_qTest_106 : decode cX13_qTest 106 = .ok (.istore_n 1, 1) := by decide +kernel
theorem dX13_qTest_107 : decode cX13_qTest 107 = .ok (.goto (-105), 3) := by decide +kernel
theorem dX13_qTest_110 : decode cX13_qTest 110 = .ok (.aload_n 0, 1) := by decide +kernel
theorem dX13_qTest_111 : decode cX13_qTest 111 = .ok (.getfield 257, 3) := by decide +kernel
theorem dX13_qTest_114 : decode cX13_qTest 114 = .ok (.ifCond .ne 17, 3) := by decide +kernel
theorem dX13_qTest_117 : decode cX13_qTest 117 = .ok (.aload_n 0, 1) := by decide +kernel
theorem dX13_qTest_118 : decode cX13_qTest 118 = .ok (.getfield 345, 3) := by decide +kernel
theorem dX13_qTest_121 : decode cX13_qTest 121 = .ok (.ifCond .le 10, 3) := by decide +kernel
theorem dX13_qTest_124 : decode cX13_qTest 124 = .ok (.aload_n 0, 1) := by decide +kernel
theorem dX13_qTest_125 : decode cX13_qTest 125 = .ok (.invokevirtual 567, 3) := by decide +kernel
theorem dX13_qTest_128 : decode cX13_qTest 128 = .ok (.goto (-18), 3) := by decide +kernel
theorem dX13_qTest_131 : decode cX13_qTest 131 = .ok (.return_, 1) := by decide +kernel
theorem bX13_qTest_0 {d : Nat}   {I : Ii} {J : Jj} {K : KV}
    (h : GoV wM (d + 1) mX13_qTest 2 [(0, .ref (0)), (1, .int (1))] [] I J K) :
    GoV wM (d + 1) mX13_qTest 0 [(0, .ref (0))] [] I J K :=
  (g_iconst dX13_qTest_0 kc_1 (g_istore_n dX13_qTest_1 rfl (by decide) rfl (g_sub [1, 0] rfl h)))
theorem bX13_qTest_2 {d : Nat}  {v1 : Int32} {I : Ii} {J : Jj} {K : KV}
    (h : ((v1 = 0) → (GoV wM (d + 1) mX13_qTest 110 [(0, .ref (0))] [] I J K)) ∧ ((¬ v1 = 0) → (((¬ (I 0 5) = 0) → (GoV wM (d + 1) mX13_qTest 110 [(0, .ref (0))] [] I J K)) ∧ (((I 0 5) = 0) → (CalI wM d mX13_look [.ref (0)] I J (fun x5 I3 J4 => (((¬ x5 = 91) → (CalI wM d mX13_isHere [.ref (0), .ref (56)] I3 J4 (fun x9 I7 J8 => (((x9 = 0) → (CalV wM d mX13_qFact [.ref (0)] I7 J8 (fun I11 J12 => (CalV wM d mX13_qDropsNots [.ref (0)] I11 J12 (fun I13 J14 => (((¬ (I13 0 5) = 0) → (GoV wM (d + 1) mX13_qTest 2 [(0, .ref (0)), (1, .int (0))] [] I13 J14 K)) ∧ (((I13 0 5) = 0) → (CalI wM d mX13_qGoesOnTest [.ref (0)] I13 J14 (fun x18 I16 J17 => (((x18 = 0) → (GoV wM (d + 1) mX13_qTest 2 [(0, .ref (0)), (1, .int (0))] [] I16 J17 K)) ∧ ((¬ x18 = 0) → (GoV wM (d + 1) mX13_qTest 2 [(0, .ref (0)), (1, .int (1))] [] I16 J17 K)))))))))))) ∧ ((¬ x9 = 0) → (CalV wM d mX13_qOpens [.ref (0), .int (12), .int (I7 0 2)] I7 J8 (fun I23 J24 => (CalV wM d mX13_asks [.ref (0), .ref (56)] I23 J24 (fun I25 J26 => (GoV wM (d + 1) mX13_qTest 2 [(0, .ref (0)), (1, .int (v1))] [] I25 J26 K)))))))))) ∧ ((x5 = 91) → (CalV wM d mX13_qOpens [.ref (0), .int (25), .int (I3 0 2)] I3 J4 (fun I30 J31 => (GoV wM (d + 1) mX13_qTest 2 [(0, .ref (0)), (1, .int (v1))] [] (u2 I30 0 2 ((I30 0 2) + 1)) J31 K))))))))))) :
    GoV wM (d + 1) mX13_qTest 2 [(0, .ref (0)), (1, .int (v1))] [] I J K :=
  (g_iload_n dX13_qTest_2 1 1 rfl rfl (g_if_eq dX13_qTest_3 rfl (fun q1 => (g_sub [0] rfl (h.1 q1))) (fun q1 => (g_aload_n dX13_qTest_6 0 0 rfl rfl (g_getI dX13_qTest_7 fl_X13_257 rfl obM_0 (g_if_ne dX13_qTest_10 rfl (fun q2 => (g_sub [0] rfl ((h.2 q1).1 q2))) (fun q2 => (g_aload_n dX13_qTest_13 0 0 rfl rfl (g_callvI dX13_qTest_14 ml_X13_269 md_X13_look mv_X13_look obM_0 rfl rfl rfl (Nat.le_of_ble_eq_true rfl) (CalI.mono ((h.2 q1).2 q2) (fun x5 I3 J4 h34 => (g_istore_n dX13_qTest_17 rfl (by decide) rfl (g_iload_n dX13_qTest_18 0 2 rfl rfl (g_bipush dX13_qTest_19 kb_91 (g_icmp_ne dX13_qTest_21 rfl (fun q6 => (g_aload_n dX13_qTest_47 1 0 rfl rfl (g_aload_n dX13_qTest_48 1 0 rfl rfl (g_getP dX13_qTest_49 fl_X13_185 rfl obM_0 rfl (g_callvI dX13_qTest_52 ml_X13_280 md_X13_isHere mv_X13_isHere obM_0 rfl rfl rfl (Nat.le_of_ble_eq_true rfl) (CalI.mono (h34.1 q6) (fun x9 I7 J8 h29 => (g_if_eq dX13_qTest_55 rfl (fun q10 => (g_aload_n dX13_qTest_79 1 0 rfl rfl (g_callvV dX13_qTest_80 ml_X13_606 md_X13_qFact mv_X13_qFact obM_0 rfl rfl rfl (Nat.le_of_ble_eq_true rfl) (CalV.mono (h29.1 q10) (fun I11 J12 h22 => (g_aload_n dX13_qTest_83 1 0 rfl rfl (g_callvV dX13_qTest_84 ml_X13_609 md_X13_qDropsNots mv_X13_qDropsNots obM_0 rfl rfl rfl (Nat.le_of_ble_eq_true rfl) (CalV.mono h22 (fun I13 J14 h21 => (g_aload_n dX13_qTest_87 1 0 rfl rfl (g_getI dX13_qTest_88 fl_X13_257 rfl obM_0 (g_if_ne dX13_qTest_91 rfl (fun q15 => (g_iconst dX13_qTest_105 kc_0 (g_istore_n dX13_qTest_106 rfl (by decide) rfl (g_goto dX13_qTest_107 rfl (g_sub [2, 0] rfl (h21.1 q15)))))) (fun q15 => (g_aload_n dX13_qTest_94 1 0 rfl rfl (g_callvI dX13_qTest_95 ml_X13_612 md_X13_qGoesOnTest mv_X13_qGoesOnTest obM_0 rfl rfl rfl (Nat.le_of_ble_eq_true rfl) (CalI.mono (h21.2 q15) (fun x18 I16 J17 h20 => (g_if_eq dX13_qTest_98 rfl (fun q19 => (g_iconst dX13_qTest_105 kc_0 (g_istore_n dX13_qTest_106 rfl (by decide) rfl (g_goto dX13_qTest_107 rfl (g_sub [2, 0] rfl (h20.1 q19)))))) (fun q19 => (g_iconst dX13_qTest_101 kc_1 (g_goto dX13_qTest_102 rfl (g_istore_n dX13_qTest_106 rfl (by decide) rfl (g_goto dX13_qTest_107 rfl (g_sub [2, 0] rfl (h20.2 q19))))))))))))))))))))))))) (fun q10 => (g_aload_n dX13_qTest_58 1 0 rfl rfl (g_bipush dX13_qTest_59 kb_12 (g_aload_n dX13_qTest_61 1 0 rfl rfl (g_getI dX13_qTest_62 fl_X13_263 rfl obM_0 (g_callvV dX13_qTest_65 ml_X13_579 md_X13_qOpens mv_X13_qOpens obM_0 rfl rfl rfl (Nat.le_of_ble_eq_true rfl) (CalV.mono (h29.2 q10) (fun I23 J24 h28 => (g_aload_n dX13_qTest_68 1 0 rfl rfl (g_aload_n dX13_qTest_69 1 0 rfl rfl (g_getP dX13_qTest_70 fl_X13_185 rfl obM_0 rfl (g_callvV dX13_qTest_73 ml_X13_330 md_X13_asks mv_X13_asks obM_0 rfl rfl rfl (Nat.le_of_ble_eq_true rfl) (CalV.mono h28 (fun I25 J26 h27 => (g_goto dX13_qTest_76 rfl (g_sub [1, 2] rfl h27)))))))))))))))))))))))) (fun q6 => (g_aload_n dX13_qTest_24 1 0 rfl rfl (g_bipush dX13_qTest_25 kb_25 (g_aload_n dX13_qTest_27 1 0 rfl rfl (g_getI dX13_qTest_28 fl_X13_263 rfl obM_0 (g_callvV dX13_qTest_31 ml_X13_579 md_X13_qOpens mv_X13_qOpens obM_0 rfl rfl rfl (Nat.le_of_ble_eq_true rfl) (CalV.mono (h34.2 q6) (fun I30 J31 h33 => (g_aload_n dX13_qTest_34 1 0 rfl rfl (g_dup dX13_qTest_35 rfl (g_getI dX13_qTest_36 fl_X13_263 rfl obM_0 (g_iconst dX13_qTest_39 kc_1 (g_iadd dX13_qTest_40 (g_putI dX13_qTest_41 fl_X13_263 rfl rfl obM_0 (g_goto dX13_qTest_44 rfl (g_sub [1, 2] rfl h33)))))))))))))))))))))))))))))))
theorem bX13_qTest_110 {d : Nat}   {I : Ii} {J : Jj} {K : KV}
    (h : ((¬ (I 0 5) = 0) → (K I J)) ∧ (((I 0 5) = 0) → ((((I 0 96) ≤ 0) → (K I J)) ∧ ((¬ (I 0 96) ≤ 0) → (CalV wM d mX13_qDrops [.ref (0)] I J (fun I3 J4 => (GoV wM (d + 1) mX13_qTest 110 [(0, .ref (0))] [] I3 J4 K))))))) :
    GoV wM (d + 1) mX13_qTest 110 [(0, .ref (0))] [] I J K :=
  (g_aload_n dX13_qTest_110 0 0 rfl rfl (g_getI dX13_qTest_111 fl_X13_257 rfl obM_0 (g_if_ne dX13_qTest_114 rfl (fun q1 => (g_return dX13_qTest_131 rfl ⟨rfl, (h.1 q1)⟩)) (fun q1 => (g_aload_n dX13_qTest_117 0 0 rfl rfl (g_getI dX13_qTest_118 fl_X13_345 rfl obM_0 (g_if_le dX13_qTest_121 rfl (fun q2 => (g_return dX13_qTest_131 rfl ⟨rfl, ((h.2 q1).1 q2)⟩)) (fun q2 => (g_aload_n dX13_qTest_124 0 0 rfl rfl (g_callvV dX13_qTest_125 ml_X13_567 md_X13_qDrops mv_X13_qDrops obM_0 rfl rfl rfl (Nat.le_of_ble_eq_true rfl) (CalV.mono ((h.2 q1).2 q2) (fun I3 J4 h5 => (g_goto dX13_qTest_128 rfl h5)))))))))))))
theorem dX13_qOpens_0 : decode cX13_qOpens 0 = .ok (.aload_n 0, 1) := by decide +kernel
theorem dX13_qOpens_1 : decode cX13_qOpens 1 = .ok (.getfield 257, 3) := by decide +kernel
theorem dX13_qOpens_4 : decode cX13_qOpens 4 = .ok (.ifCond .eq 4, 3) := by decide +kernel
theorem dX13_qOpens_7 : decode cX13_qOpens 7 = .ok (.return_, 1) := by decide +kernel
theorem dX13_qOpens_8 : decode cX13_qOpens 8 = .ok (.aload_n 0, 1) := by decide +kernel
theorem dX13_qOpens_9 : decode cX13_qOpens 9 = .ok (.getfield 348, 3) := by decide +kernel
theorem dX13_qOpens_12 : decode cX13_qOpens 12 = .ok (.bipush 6, 2) := by decide +kernel
theorem dX13_qOpens_14 : decode cX13_qOpens 14 = .ok (.if_icmp .ne 10, 3) := by decide +kernel
theorem dX13_qOpens_17 : decode cX13_qOpens 17 = .ok (.aload_n 0, 1) := by decide +kernel
theorem dX13_qOpens_18 : decode cX13_qOpens 18 = .ok (.iconst 4, 1) := by decide +kernel
theorem dX13_qOpens_19 : decode cX13_qOpens 19 = .ok (.iload_n 2, 1) := by decide +kernel
theorem dX13_qOpens_20 : decode cX13_qOpens 20 = .ok (.invokevirtual 287, 3) := by decide +kernel
theorem dX13_qOpens_23 : decode cX13_qOpens 23 = .ok (.return_, 1) := by decide +kernel
theorem dX13_qOpens_24 : decode cX13_qOpens 24 = .ok (.aload_n 0, 1) := by decide +kernel
theorem dX13_qOpens_25 : decode cX13_qOpens 25 = .ok (.dup, 1) := by decide +kernel
theorem dX13_qOpens_26 : decode cX13_qOpens 26 = .ok (.getfield 348, 3) := by decide +kernel
theorem dX13_qOpens_29 : decode cX13_qOpens 29 = .ok (.iconst 1, 1) := by decide +kernel
theorem dX13_qOpens_30 : decode cX13_qOpens 30 = .ok (.iadd, 1) := by decide +kernel
theorem dX13_qOpens_31 : decode cX13_qOpens 31 = .ok (.putfield 348, 3) := by decide +kernel
theorem dX13_qOpens_34 : decode cX13_qOpens 34 = .ok (.aload_n 0, 1) := by decide +kernel
theorem dX13_qOpens_35 : decode cX13_qOpens 35 = .ok (.getfield 245, 3) := by decide +kernel
theorem dX13_qOpens_38 : decode cX13_qOpens 38 = .ok (.aload_n 0, 1) := by decide +kernel
theorem dX13_qOpens_39 : decode cX13_qOpens 39 = .ok (.getfield 345, 3) := by decide +kernel
theorem dX13_qOpens_42 : decode cX13_qOpens 42 = .ok (.iload_n 1, 1) := by decide +kernel
theorem dX13_qOpens_43 : decode cX13_qOpens 43 = .ok (.iastore, 1) := by decide +kernel
theorem dX13_qOpens_44 : decode cX13_qOpens 44 = .ok (.aload_n 0, 1) := by decide +kernel
theorem dX13_qOpens_45 : decode cX13_qOpens 45 = .ok (.dup, 1) := by decide +kernel
theorem dX13_qOpens_46 : decode cX13_qOpens 46 = .ok (.getfield 345, 3) := by decide +kernel
theorem dX13_qOpens_49 : decode cX13_qOpens 49 = .ok (.iconst 1, 1) := by decide +kernel
theorem dX13_qOpens_50 : decode cX13_qOpens 50 = .ok (.iadd, 1) := by decide +kernel
theorem dX13_qOpens_51 : decode cX13_qOpens 51 = .ok (.putfield 345, 3) := by decide +kernel
theorem dX13_qOpens_54 : decode cX13_qOpens 54 = .ok (.return_, 1) := by decide +kernel
theorem bX13_qOpens_0 {d : Nat}  {v1 : Int32} {v2 : Int32} {I : Ii} {J : Jj} {K : KV}
    (h : (((I 0 5) = 0) → (((¬ (I 0 97) = 6) → (∀ I3 : Ii, I3 = u2 I 0 97 ((I 0 97) + 1) → (vp_in (I3 0 96) 1700 ∧ (∀ I5 : Ii, I5 = u2 I3 76 (I3 0 96).toNatClampNeg v1 → (K (u2 I5 0 96 ((I5 0 96) + 1)) J))))) ∧ (((I 0 97) = 6) → (CalV wM d mX13_fail [.ref (0), .int (4), .int (v2)] I J (fun I7 J8 => (K I7 J8)))))) ∧ ((¬ (I 0 5) = 0) → (K I J))) :
    GoV wM (d + 1) mX13_qOpens 0 [(0, .ref (0)), (1, .int (v1)), (2, .int (v2))] [] I J K :=
  (g_aload_n dX13_qOpens_0 0 0 rfl rfl (g_getI dX13_qOpens_1 fl_X13_257 rfl obM_0 (g_if_eq dX13_qOpens_4 rfl (fun q1 => (g_aload_n dX13_qOpens_8 0 0 rfl rfl (g_getI dX13_qOpens_9 fl_X13_348 rfl obM_0 (g_bipush dX13_qOpens_12 kb_6 (g_icmp_ne dX13_qOpens_14 rfl (fun q2 => (g_aload_n dX13_qOpens_24 0 0 rfl rfl (g_dup dX13_qOpens_25 rfl (g_getI dX13_qOpens_26 fl_X13_348 rfl obM_0 (g_iconst dX13_qOpens_29 kc_1 (g_iadd dX13_qOpens_30 (g_putI dX13_qOpens_31 fl_X13_348 rfl rfl obM_0 (g_aload_n dX13_qOpens_34 0 0 rfl rfl (g_getP dX13_qOpens_35 fl_X13_245 rfl obM_0 rfl (g_aload_n dX13_qOpens_38 0 0 rfl rfl (g_getI dX13_qOpens_39 fl_X13_345 rfl obM_0 (g_iload_n dX13_qOpens_42 1 1 rfl rfl (have b4 := (((h.1 q1).1 q2) _ rfl).1; g_iast dX13_qOpens_43 arM_76 b4 (g_aload_n dX13_qOpens_44 0 0 rfl rfl (g_dup dX13_qOpens_45 rfl (g_getI dX13_qOpens_46 fl_X13_345 rfl obM_0 (g_iconst dX13_qOpens_49 kc_1 (g_iadd dX13_qOpens_50 (g_putI dX13_qOpens_51 fl_X13_345 rfl rfl obM_0 (g_return dX13_qOpens_54 rfl ⟨rfl, ((((h.1 q1).1 q2) _ rfl).2 _ rfl)⟩)))))))))))))))))))) (fun q2 => (g_aload_n dX13_qOpens_17 0 0 rfl rfl (g_iconst dX13_qOpens_18 kc_4 (g_iload_n dX13_qOpens_19 2 2 rfl rfl (g_callvV dX13_qOpens_20 ml_X13_287 md_X13_fail mv_X13_fail obM_0 rfl rfl rfl (Nat.le_of_ble_eq_true rfl) (CalV.mono ((h.1 q1).2 q2) (fun I7 J8 h9 => (g_return dX13_qOpens_23 rfl ⟨rfl, h9⟩))))))))))))) (fun q1 => (g_return dX13_qOpens_7 rfl ⟨rfl, (h.2 q1)⟩)))))
theorem dX13_qFact_0 : decode cX13_qFact 0 = .ok (.aload_n 0, 1) := by decide +kernel
theorem dX13_qFact_1 : decode cX13_qFact 1 = .ok (.aload_n 0, 1) := by decide +kernel
theorem dX13_qFact_2 : decode cX13_qFact 2 = .ok (.getfield 194, 3) := by decide +kernel
theorem dX13_qFact_5 : decode cX13_qFact 5 = .ok (.invokevirtual 284, 3) := by decide +kernel
theorem dX13_qFact_8 : decode cX13_qFact 8 = .ok (.ifCond .eq 10, 3) := by decide +kernel
theorem dX13_qFact_11 : decode cX13_qFact 11 = .ok (.aload_n 0, 1) := by decide +kernel
theorem dX13_qFact_12 : decode cX13_qFact 12 = .ok (.bipush 13, 2) := by decide +kernel
theorem dX13_qFact_14 : decode cX13_qFact 14 = .ok (.invokevirtual 561, 3) := by decide +kernel
theorem dX13_qFact_17 : decode cX13_qFact 17 = .ok (.return_, 1) := by decide +kernel
theorem dX13_qFact_18 : decode cX13_qFact 18 = .ok (.aload_n 0, 1) := by decide +kernel
theorem dX13_qFact_19 : decode cX13_qFact 19 = .ok (.invokevirtual 603, 3) := by decide +kernel
theorem dX13_qFact_22 : decode cX13_qFact 22 = .ok (.aload_n 0, 1) := by decide +kernel
theorem dX13_qFact_23 : decode cX13_qFact 23 = .ok (.getfield 257, 3) := by decide +kernel
theorem dX13_qFact_26 : decode cX13_qFact 26 = .ok (.ifCond .eq 4, 3) := by decide +kernel
theorem dX13_qFact_29 : decode cX13_qFact 29 = .ok (.return_, 1) := by decide +kernel
theorem dX13_qFact_30 : decode cX13_qFact 30 = .ok (.aload_n 0, 1) := by decide +kernel
theorem dX13_qFact_31 : decode cX13_qFact 31 = .ok (.invokevirtual 269, 3) := by decide +kernel
theorem dX13_qFact_34 : decode cX13_qFact 34 = .ok (.istore_n 1, 1) := by decide +kernel
theorem dX13_qFact_35 : decode cX13_qFact 35 = .ok (.iload_n 1, 1) := by decide +kernel
theorem dX13_qFact_36 : decode cX13_qFact 36 = .ok (.bipush 60, 2) := by decide +kernel
theorem dX13_qFact_38 : decode cX13_qFact 38 = .ok (.if_icmp .eq 25, 3) := by decide +kernel
theorem dX13_qFact_41 : decode cX13_qFact 41 = .ok (.iload_n 1, 1) := by decide +kernel
theorem dX13_qFact_42 : decode cX13_qFact 42 = .ok (.bipush 62, 2) := by decide +kernel
theorem dX13_qFact_44 : decode cX13_qFact 44 = .ok (.if_icmp .eq 19, 3) := by decide +kernel
theorem dX13_qFact_47 : decode cX13_qFact 47 = .ok (.iload_n 1, 1) := by decide +kernel
theorem dX13_qFact_48 : decode cX13_qFact 48 = .ok (.bipush 61, 2) := by decide +kernel
theorem dX13_qFact_50 : decode cX13_qFact 50 = .ok (.if_icmp .eq 13, 3) := by decide +kernel
theorem dX13_qFact_53 : decode cX13_qFact 53 = .ok (.aload_n 0, 1) := by decide +kernel
theorem dX13_qFact_54 : decode cX13_qFact 54 = .ok (.iconst 1, 1) := by decide +kernel
theorem dX13_qFact_55 : decode cX13_qFact 55 = .ok (.aload_n 0, 1) := by decide +kernel
theorem dX13_qFact_56 : decode cX13_qFact 56 = .ok (.getfield 263, 3) := by decide +kernel
theorem dX13_qFact_59 : decode cX13_qFact 59 = .ok (.invokevirtual 287, 3) := by decide +kernel
theorem dX13_qFact_62 : decode cX13_qFact 62 = .ok (.return_, 1) := by decide +kernel
theorem dX13_qFact_63 : decode cX13_qFact 63 = .ok (.aload_n 0, 1) := by decide +kernel
theorem dX13_qFact_64 : decode cX13_qFact 64 = .ok (.dup, 1) := by decide +kernel
theorem dX13_qFact_65 : decode cX13_qFact 65 = .ok (.getfield 263, 3) := by decide +kernel
theorem dX13_qFact_68 : decode cX13_qFact 68 = .ok (.iconst 1, 1) := by decide +kernel
theorem dX13_qFact_69 : decode cX13_qFact 69 = .ok (.iadd, 1) := by decide +kernel
theorem dX13_qFact_70 : decode cX13_qFact 70 = .ok (.putfield 263, 3) := by decide +kernel
theorem dX13_qFact_73 : decode cX13_qFact 73 = .ok (.aload_n 0, 1) := by decide +kernel
theorem dX13_qFact_74 : decode cX13_qFact 74 = .ok (.invokevirtual 603, 3) := by decide +kernel
theorem dX13_qFact_77 : decode cX13_qFact 77 = .ok (.aload_n 0, 1) := by decide +kernel
theorem dX13_qFact_78 : decode cX13_qFact 78 = .ok (.iload_n 1, 1) := by decide +kernel
theorem dX13_qFact_79 : decode cX13_qFact 79 = .ok (.bipush 60, 2) := by decide +kernel
theorem dX13_qFact_81 : decode cX13_qFact 81 = .ok (.if_icmp .ne 8, 3) := by decide +kernel
theorem dX13_qFact_84 : decode cX13_qFact 84 = .ok (.bipush 7, 2) := by decide +kernel
theorem dX13_qFact_86 : decode cX13_qFact 86 = .ok (.goto 16, 3) := by decide +kernel
theorem dX13_qFact_89 : decode cX13_qFact 89 = .ok (.iload_n 1, 1) := by decide +kernel
theorem dX13_qFact_90 : decode cX13_qFact 90 = .ok (.bipush 62, 2) := by decide +kernel
theorem dX13_qFact_92 : decode cX13_qFact 92 = .ok (.if_icmp .ne 8, 3) := by decide +kernel
theorem dX13_qFact_95 : decode cX13_qFact 95 = .ok (.bipush 8, 2) := by decide +kernel
theorem dX13_qFact_97 : decode cX13_qFact 97 = .ok (.goto 5, 3) := by decide +kernel
theorem dX13_qFact_100 : decode cX13_qFact 100 = .ok (.bipush 9, 2) := by decide +kernel
theorem dX13_qFact_102 : decode cX13_qFact 102 = .ok (.invokevirtual 561, 3) := by decide +kernel
theorem dX13_qFact_105 : decode cX13_qFact 105 = .ok (.return_, 1) := by decide +kernel
theorem bX13_qFact_0 {d : Nat}   {I : Ii} {J : Jj} {K : KV}
    (h : CalI wM d mX13_takes [.ref (0), .ref (59)] I J (fun x3 I1 J2 => (((x3 = 0) → (CalV wM d mX13_qSums [.ref (0)] I1 J2 (fun I5 J6 => ((((I5 0 5) = 0) → (CalI wM d mX13_look [.ref (0)] I5 J6 (fun x10 I8 J9 => (((x10 = 60) → (CalV wM d mX13_qSums [.ref (0)] (u2 I8 0 2 ((I8 0 2) + 1)) J9 (fun I13 J14 => (CalV wM d mX13_qCode [.ref (0), .int (7)] I13 J14 (fun I15 J16 => (K I15 J16)))))) ∧ ((¬ x10 = 60) → (((x10 = 62) → (CalV wM d mX13_qSums [.ref (0)] (u2 I8 0 2 ((I8 0 2) + 1)) J9 (fun I21 J22 => (CalV wM d mX13_qCode [.ref (0), .int (8)] I21 J22 (fun I23 J24 => (K I23 J24)))))) ∧ ((¬ x10 = 62) → (((x10 = 61) → (CalV wM d mX13_qSums [.ref (0)] (u2 I8 0 2 ((I8 0 2) + 1)) J9 (fun I29 J30 => (CalV wM d mX13_qCode [.ref (0), .int (9)] I29 J30 (fun I31 J32 => (K I31 J32)))))) ∧ ((¬ x10 = 61) → (CalV wM d mX13_fail [.ref (0), .int (1), .int (I8 0 2)] I8 J9 (fun I35 J36 => (K I35 J36)))))))))))) ∧ ((¬ (I5 0 5) = 0) → (K I5 J6)))))) ∧ ((¬ x3 = 0) → (CalV wM d mX13_qCode [.ref (0), .int (13)] I1 J2 (fun I40 J41 => (K I40 J41))))))) :
    GoV wM (d + 1) mX13_qFact 0 [(0, .ref (0))] [] I J K :=
  (g_aload_n dX13_qFact_0 0 0 rfl rfl (g_aload_n dX13_qFact_1 0 0 rfl rfl (g_getP dX13_qFact_2 fl_X13_194 rfl obM_0 rfl (g_callvI dX13_qFact_5 ml_X13_284 md_X13_takes mv_X13_takes obM_0 rfl rfl rfl (Nat.le_of_ble_eq_true rfl) (CalI.mono h (fun x3 I1 J2 h43 => (g_if_eq dX13_qFact_8 rfl (fun q4 => (g_aload_n dX13_qFact_18 0 0 rfl rfl (g_callvV dX13_qFact_19 ml_X13_603 md_X13_qSums mv_X13_qSums obM_0 rfl rfl rfl (Nat.le_of_ble_eq_true rfl) (CalV.mono (h43.1 q4) (fun I5 J6 h39 => (g_aload_n dX13_qFact_22 0 0 rfl rfl (g_getI dX13_qFact_23 fl_X13_257 rfl obM_0 (g_if_eq dX13_qFact_26 rfl (fun q7 => (g_aload_n dX13_qFact_30 0 0 rfl rfl (g_callvI dX13_qFact_31 ml_X13_269 md_X13_look mv_X13_look obM_0 rfl rfl rfl (Nat.le_of_ble_eq_true rfl) (CalI.mono (h39.1 q7) (fun x10 I8 J9 h38 => (g_istore_n dX13_qFact_34 rfl (by decide) rfl (g_iload_n dX13_qFact_35 0 1 rfl rfl (g_bipush dX13_qFact_36 kb_60 (g_icmp_eq dX13_qFact_38 rfl (fun q11 => (g_aload_n dX13_qFact_63 1 0 rfl rfl (g_dup dX13_qFact_64 rfl (g_getI dX13_qFact_65 fl_X13_263 rfl obM_0 (g_iconst dX13_qFact_68 kc_1 (g_iadd dX13_qFact_69 (g_putI dX13_qFact_70 fl_X13_263 rfl rfl obM_0 (g_aload_n dX13_qFact_73 1 0 rfl rfl (g_callvV dX13_qFact_74 ml_X13_603 md_X13_qSums mv_X13_qSums obM_0 rfl rfl rfl (Nat.le_of_ble_eq_true rfl) (CalV.mono (h38.1 q11) (fun I13 J14 h18 => (g_aload_n dX13_qFact_77 1 0 rfl rfl (g_iload_n dX13_qFact_78 0 1 rfl rfl (g_bipush dX13_qFact_79 kb_60 (g_icmp_ne dX13_qFact_81 rfl (fun q => absurd q11 q) (fun _ => (g_bipush dX13_qFact_84 kb_7 (g_goto dX13_qFact_86 rfl (g_callvV dX13_qFact_102 ml_X13_561 md_X13_qCode mv_X13_qCode obM_0 rfl rfl rfl (Nat.le_of_ble_eq_true rfl) (CalV.mono h18 (fun I15 J16 h17 => (g_return dX13_qFact_105 rfl ⟨rfl, h17⟩)))))))))))))))))))))) (fun q11 => (g_iload_n dX13_qFact_41 0 1 rfl rfl (g_bipush dX13_qFact_42 kb_62 (g_icmp_eq dX13_qFact_44 rfl (fun q19 => (g_aload_n dX13_qFact_63 1 0 rfl rfl (g_dup dX13_qFact_64 rfl (g_getI dX13_qFact_65 fl_X13_263 rfl obM_0 (g_iconst dX13_qFact_68 kc_1 (g_iadd dX13_qFact_69 (g_putI dX13_qFact_70 fl_X13_263 rfl rfl obM_0 (g_aload_n dX13_qFact_73 1 0 rfl rfl (g_callvV dX13_qFact_74 ml_X13_603 md_X13_qSums mv_X13_qSums obM_0 rfl rfl rfl (Nat.le_of_ble_eq_true rfl) (CalV.mono ((h38.2 q11).1 q19) (fun I21 J22 h26 => (g_aload_n dX13_qFact_77 1 0 rfl rfl (g_iload_n dX13_qFact_78 0 1 rfl rfl (g_bipush dX13_qFact_79 kb_60 (g_icmp_ne dX13_qFact_81 rfl (fun _ => (g_iload_n dX13_qFact_89 0 1 rfl rfl (g_bipush dX13_qFact_90 kb_62 (g_icmp_ne dX13_qFact_92 rfl (fun q => absurd q19 q) (fun _ => (g_bipush dX13_qFact_95 kb_8 (g_goto dX13_qFact_97 rfl (g_callvV dX13_qFact_102 ml_X13_561 md_X13_qCode mv_X13_qCode obM_0 rfl rfl rfl (Nat.le_of_ble_eq_true rfl) (CalV.mono h26 (fun I23 J24 h25 => (g_return dX13_qFact_105 rfl ⟨rfl, h25⟩))))))))))) (fun q => absurd q q11)))))))))))))))) (fun q19 => (g_iload_n dX13_qFact_47 0 1 rfl rfl (g_bipush dX13_qFact_48 kb_61 (g_icmp_eq dX13_qFact_50 rfl (fun q27 => (g_aload_n dX13_qFact_63 1 0 rfl rfl (g_dup dX13_qFact_64 rfl (g_getI dX13_qFact_65 fl_X13_263 rfl obM_0 (g_iconst dX13_qFact_68 kc_1 (g_iadd dX13_qFact_69 (g_putI dX13_qFact_70 fl_X13_263 rfl rfl obM_0 (g_aload_n dX13_qFact_73 1 0 rfl rfl (g_callvV dX13_qFact_74 ml_X13_603 md_X13_qSums mv_X13_qSums obM_0 rfl rfl rfl (Nat.le_of_ble_eq_true rfl) (CalV.mono (((h38.2 q11).2 q19).1 q27) (fun I29 J30 h34 => (g_aload_n dX13_qFact_77 1 0 rfl rfl (g_iload_n dX13_qFact_78 0 1 rfl rfl (g_bipush dX13_qFact_79 kb_60 (g_icmp_ne dX13_qFact_81 rfl (fun _ => (g_iload_n dX13_qFact_89 0 1 rfl rfl (g_bipush dX13_qFact_90 kb_62 (g_icmp_ne dX13_qFact_92 rfl (fun _ => (g_bipush dX13_qFact_100 kb_9 (g_callvV dX13_qFact_102 ml_X13_561 md_X13_qCode mv_X13_qCode obM_0 rfl rfl rfl (Nat.le_of_ble_eq_true rfl) (CalV.mono h34 (fun I31 J32 h33 => (g_return dX13_qFact_105 rfl ⟨rfl, h33⟩)))))) (fun q => absurd q q19))))) (fun q => absurd q q11)))))))))))))))) (fun q27 => (g_aload_n dX13_qFact_53 1 0 rfl rfl (g_iconst dX13_qFact_54 kc_1 (g_aload_n dX13_qFact_55 1 0 rfl rfl (g_getI dX13_qFact_56 fl_X13_263 rfl obM_0 (g_callvV dX13_qFact_59 ml_X13_287 md_X13_fail mv_X13_fail obM_0 rfl rfl rfl (Nat.le_of_ble_eq_true rfl) (CalV.mono (((h38.2 q11).2 q19).2 q27) (fun I35 J36 h37 => (g_return dX13_qFact_62 rfl ⟨rfl, h37⟩)))))))))))))))))))))))))) (fun q7 => (g_return dX13_qFact_29 rfl ⟨rfl, (h39.2 q7)⟩)))))))))) (fun q4 => (g_aload_n dX13_qFact_11 0 0 rfl rfl (g_bipush dX13_qFact_12 kb_13 (g_callvV dX13_qFact_14 ml_X13_561 md_X13_qCode mv_X13_qCode obM_0 rfl rfl rfl (Nat.le_of_ble_eq_true rfl) (CalV.mono (h43.2 q4) (fun I40 J41 h42 => (g_return dX13_qFact_17 rfl ⟨rfl, h42⟩))))))))))))))
theorem dX13_qCode_0 : decode cX13_qCode 0 = .ok (.aload_n 0, 1) := by decide +kernel
theorem dX13_qCode_1 : decode cX13_qCode 1 = .ok (.getfield 242, 3) := by decide +kernel
theorem dX13_qCode_4 : decode cX13_qCode 4 = .ok (.aload_n 0, 1) := by decide +kernel
theorem dX13_qCode_5 : decode cX13_qCode 5 = .ok (.getfield 342, 3) := by decide +kernel
theorem dX13_qCode_8 : decode cX13_qCode 8 = .ok (.iload_n 1, 1) := by decide +kernel
theorem dX13_qCode_9 : decode cX13_qCode 9 = .ok (.iastore, 1) := by decide +kernel
theorem dX13_qCode_10 : decode cX13_qCode 10 = .ok (.aload_n 0, 1) := by decide +kernel
theorem dX13_qCode_11 : decode cX13_qCode 11 = .ok (.dup, 1) := by decide +kernel
theorem dX13_qCode_12 : decode cX13_qCode 12 = .ok (.getfield 342, 3) := by decide +kernel
theorem dX13_qCode_15 : decode cX13_qCode 15 = .ok (.iconst 1, 1) := by decide +kernel
theorem dX13_qCode_16 : decode cX13_qCode 16 = .ok (.iadd, 1) := by decide +kernel
theorem dX13_qCode_17 : decode cX13_qCode 17 = .ok (.putfield 342, 3) := by decide +kernel
theorem dX13_qCode_20 : decode cX13_qCode 20 = .ok (.return_, 1) := by decide +kernel
theorem bX13_qCode_0 {d : Nat}  {v1 : Int32} {I : Ii} {J : Jj} {K : KV}
    (h : vp_in (I 0 94) 1700 ∧ (∀ I2 : Ii, I2 = u2 I 75 (I 0 94).toNatClampNeg v1 → (K (u2 I2 0 94 ((I2 0 94) + 1)) J))) :
    GoV wM d mX13_qCode 0 [(0, .ref (0)), (1, .int (v1))] [] I J K :=
  (g_aload_n dX13_qCode_0 0 0 rfl rfl (g_getP dX13_qCode_1 fl_X13_242 rfl obM_0 rfl (g_aload_n dX13_qCode_4 0 0 rfl rfl (g_getI dX13_qCode_5 fl_X13_342 rfl obM_0 (g_iload_n dX13_qCode_8 1 1 rfl rfl (have b1 := h.1; g_iast dX13_qCode_9 arM_75 b1 (g_aload_n dX13_qCode_10 0 0 rfl rfl (g_dup dX13_qCode_11 rfl (g_getI dX13_qCode_12 fl_X13_342 rfl obM_0 (g_iconst dX13_qCode_15 kc_1 (g_iadd dX13_qCode_16 (g_putI dX13_qCode_17 fl_X13_342 rfl rfl obM_0 (g_return dX13_qCode_20 rfl ⟨rfl, (h.2 _ rfl)⟩)))))))))))))
theorem dX13_qSums_0 : decode cX13_qSums 0 = .ok (.aload_n 0, 1) := by decide +kernel
theorem dX13_qSums_1 : decode cX13_qSums 1 = .ok (.getfield 351, 3) := by decide +kernel
theorem dX13_qSums_4 : decode cX13_qSums 4 = .ok (.istore_n 1, 1) := by decide +kernel
theorem dX13_qSums_5 : decode cX13_qSums 5 = .ok (.aload_n 0, 1) := by decide +kernel
theorem dX13_qSums_6 : decode cX13_qSums 6 = .ok (.aload_n 0, 1) := by decide +kernel
theorem dX13_qSums_7 : decode cX13_qSums 7 = .ok (.getfield 345, 3) := by decide +kernel
theorem dX13_qSums_10 : decode cX13_qSums 10 = .ok (.putfield 351, 3) := by decide +kernel
theorem dX13_qSums_13 : decode cX13_qSums 13 = .ok (.iconst 1, 1) := by decide +kernel
theorem dX13_qSums_14 : decode cX13_qSums 14 = .ok (.istore_n 2, 1) := by decide +kernel
theorem dX13_qSums_15 : decode cX13_qSums 15 = .ok (.iload_n 2, 1) := by decide +kernel
theorem dX13_qSums_16 : decode cX13_qSums 16 = .ok (.ifCond .eq 37, 3) := by decide +kernel
theorem dX13_qSums_19 : decode cX13_qSums 19 = .ok (.aload_n 0, 1) := by decide +kernel
theorem dX13_qSums_20 : decode cX13_qSums 20 = .ok (.getfield 257, 3) := by decide +kernel
theorem dX13_qSums_23 : decode cX13_qSums 23 = .ok (.ifCond .ne 30, 3) := by decide +kernel
theorem dX13_qSums_26 : decode cX13_qSums 26 = .ok (.aload_n 0, 1) := by decide +kernel
theorem dX13_qSums_27 : decode cX13_qSums 27 = .ok (.invokevirtual 597, 3) := by decide +kernel
theorem dX13_qSums_30 : decode cX13_qSums 30 = .ok (.aload_n 0, 1) := by decide +kernel
theorem dX13_qSums_31 : decode cX13_qSums 31 = .ok (.getfield 257, 3) := by decide +kernel
theorem dX13_qSums_34 : decode cX13_qSums 34 = .ok (.ifCond .ne 14, 3) := by decide +kernel
theorem dX13_qSums_37 : decode cX13_qSums 37 = .ok (.aload_n 0, 1) := by decide +kernel
theorem dX13_qSums_38 : decode cX13_qSums 38 = .ok (.invokevirtual 600, 3) := by decide +kernel
theorem dX13_qSums_41 : decode cX13_qSums 41 = .ok (.ifCond .eq 7, 3) := by decide +kernel
theorem dX13_qSums_44 : decode cX13_qSums 44 = .ok (.iconst 1, 1) := by decide +kernel
theorem dX13_qSums_45 : decode cX13_qSums 45 = .ok (.goto 4, 3) := by decide +kernel
theorem dX13_qSums_48 : decode cX13_qSums 48 = .ok (.iconst 0, 1) := by decide +kernel
theorem dX13_qSums_49 : decode cX13_qSums 49 = .ok (.istore_n 2, 1) := by decide +kernel
theorem dX13_qSums_50 : decode cX13_qSums 50 = .ok (.goto (-35), 3) := by decide +kernel
theorem dX13_qSums_53 : decode cX13_qSums 53 = .ok (.aload_n 0, 1) := by decide +kernel
theorem dX13_qSums_54 : decode cX13_qSums 54 = .ok (.getfield 257, 3) := by decide +kernel
theorem dX13_qSums_57 : decode cX13_qSums 57 = .ok (.ifCond .ne 21, 3) := by decide +kernel
theorem dX13_qSums_60 : decode cX13_qSums 60 = .ok (.aload_n 0, 1) := by decide +kernel
theorem dX13_qSums_61 : decode cX13_qSums 61 = .ok (.getfield 345, 3) := by decide +kernel
theorem dX13_qSums_64 : decode cX13_qSums 64 = .ok (.aload_n 0, 1) := by decide +kernel
theorem dX13_qSums_65 : decode cX13_qSums 65 = .ok (.getfield 351, 3) := by decide +kernel
theorem dX13_qSums_68 : decode cX13_qSums 68 = .ok (.if_icmp .le 10, 3) := by decide +kernel
theorem dX13_qSums_71 : decode cX13_qSums 71 = .ok (.aload_n 0, 1) := by decide +kernel
theorem dX13_qSums_72 : decode cX13_qSums 72 = .ok (.invokevirtual 567, 3) := by decide +kernel
theorem dX13_qSums_75 : decode cX13_qSums 75 = .ok (.goto (-22), 3) := by decide +kernel
theorem dX13_qSums_78 : decode cX13_qSums 78 = .ok (.aload_n 0, 1) := by decide +kernel
theorem dX13_qSums_79 : decode cX13_qSums 79 = .ok (.iload_n 1, 1) := by decide +kernel
theorem dX13_qSums_80 : decode cX13_qSums 80 = .ok (.putfield 351, 3) := by decide +kernel
theorem dX13_qSums_83 : decode cX13_qSums 83 = .ok (.return_, 1) := by decide +kernel
theorem bX13_qSums_0 {d : Nat}   {I : Ii} {J : Jj} {K : KV}
    (h : GoV wM (d + 1) mX13_qSums 15 [(0, .ref (0)), (1, .int (I 0 98)), (2, .int (1))] [] (u2 I 0 98 (I 0 96)) J K) :
    GoV wM (d + 1) mX13_qSums 0 [(0, .ref (0))] [] I J K :=
  (g_aload_n dX13_qSums_0 0 0 rfl rfl (g_getI dX13_qSums_1 fl_X13_351 rfl obM_0 (g_istore_n dX13_qSums_4 rfl (by decide) rfl (g_aload_n dX13_qSums_5 1 0 rfl rfl (g_aload_n dX13_qSums_6 1 0 rfl rfl (g_getI dX13_qSums_7 fl_X13_345 rfl obM_0 (g_putI dX13_qSums_10 fl_X13_351 rfl rfl obM_0 (g_iconst dX13_qSums_13 kc_1 (g_istore_n dX13_qSums_14 rfl (by decide) rfl (g_sub [2, 1, 0] rfl h))))))))))
theorem bX13_qSums_15 {d : Nat}  {v1 : Int32} {v2 : Int32} {I : Ii} {J : Jj} {K : KV}
    (h : ((v2 = 0) → (GoV wM (d + 1) mX13_qSums 53 [(0, .ref (0)), (1, .int (v1))] [] I J K)) ∧ ((¬ v2 = 0) → (((¬ (I 0 5) = 0) → (GoV wM (d + 1) mX13_qSums 53 [(0, .ref (0)), (1, .int (v1))] [] I J K)) ∧ (((I 0 5) = 0) → (CalV wM d mX13_qPartTold [.ref (0)] I J (fun I3 J4 => (((¬ (I3 0 5) = 0) → (GoV wM (d + 1) mX13_qSums 15 [(0, .ref (0)), (1, .int (v1)), (2, .int (0))] [] I3 J4 K)) ∧ (((I3 0 5) = 0) → (CalI wM d mX13_qGoesOn [.ref (0)] I3 J4 (fun x8 I6 J7 => (((x8 = 0) → (GoV wM (d + 1) mX13_qSums 15 [(0, .ref (0)), (1, .int (v1)), (2, .int (0))] [] I6 J7 K)) ∧ ((¬ x8 = 0) → (GoV wM (d + 1) mX13_qSums 15 [(0, .ref (0)), (1, .int (v1)), (2, .int (1))] [] I6 J7 K))))))))))))) :
    GoV wM (d + 1) mX13_qSums 15 [(0, .ref (0)), (1, .int (v1)), (2, .int (v2))] [] I J K :=
  (g_iload_n dX13_qSums_15 2 2 rfl rfl (g_if_eq dX13_qSums_16 rfl (fun q1 => (g_sub [0, 1] rfl (h.1 q1))) (fun q1 => (g_aload_n dX13_qSums_19 0 0 rfl rfl (g_getI dX13_qSums_20 fl_X13_257 rfl obM_0 (g_if_ne dX13_qSums_23 rfl (fun q2 => (g_sub [0, 1] rfl ((h.2 q1).1 q2))) (fun q2 => (g_aload_n dX13_qSums_26 0 0 rfl rfl (g_callvV dX13_qSums_27 ml_X13_597 md_X13_qPartTold mv_X13_qPartTold obM_0 rfl rfl rfl (Nat.le_of_ble_eq_true rfl) (CalV.mono ((h.2 q1).2 q2) (fun I3 J4 h11 => (g_aload_n dX13_qSums_30 0 0 rfl rfl (g_getI dX13_qSums_31 fl_X13_257 rfl obM_0 (g_if_ne dX13_qSums_34 rfl (fun q5 => (g_iconst dX13_qSums_48 kc_0 (g_istore_n dX13_qSums_49 rfl (by decide) rfl (g_goto dX13_qSums_50 rfl (g_sub [1, 2, 0] rfl (h11.1 q5)))))) (fun q5 => (g_aload_n dX13_qSums_37 0 0 rfl rfl (g_callvI dX13_qSums_38 ml_X13_600 md_X13_qGoesOn mv_X13_qGoesOn obM_0 rfl rfl rfl (Nat.le_of_ble_eq_true rfl) (CalI.mono (h11.2 q5) (fun x8 I6 J7 h10 => (g_if_eq dX13_qSums_41 rfl (fun q9 => (g_iconst dX13_qSums_48 kc_0 (g_istore_n dX13_qSums_49 rfl (by decide) rfl (g_goto dX13_qSums_50 rfl (g_sub [1, 2, 0] rfl (h10.1 q9)))))) (fun q9 => (g_iconst dX13_qSums_44 kc_1 (g_goto dX13_qSums_45 rfl (g_istore_n dX13_qSums_49 rfl (by decide) rfl (g_goto dX13_qSums_50 rfl (g_sub [1, 2, 0] rfl (h10.2 q9)))))))))))))))))))))))))))
theorem bX13_qSums_53 {d : Nat}  {v1 : Int32} {I : Ii} {J : Jj} {K : KV}
    (h : ((¬ (I 0 5) = 0) → (K (u2 I 0 98 v1) J)) ∧ (((I 0 5) = 0) → ((((I 0 96) ≤ (I 0 98)) → (K (u2 I 0 98 v1) J)) ∧ ((¬ (I 0 96) ≤ (I 0 98)) → (CalV wM d mX13_qDrops [.ref (0)] I J (fun I5 J6 => (GoV wM (d + 1) mX13_qSums 53 [(0, .ref (0)), (1, .int (v1))] [] I5 J6 K))))))) :
    GoV wM (d + 1) mX13_qSums 53 [(0, .ref (0)), (1, .int (v1))] [] I J K :=
  (g_aload_n dX13_qSums_53 0 0 rfl rfl (g_getI dX13_qSums_54 fl_X13_257 rfl obM_0 (g_if_ne dX13_qSums_57 rfl (fun q1 => (g_aload_n dX13_qSums_78 0 0 rfl rfl (g_iload_n dX13_qSums_79 1 1 rfl rfl (g_putI dX13_qSums_80 fl_X13_351 rfl rfl obM_0 (g_return dX13_qSums_83 rfl ⟨rfl, (h.1 q1)⟩))))) (fun q1 => (g_aload_n dX13_qSums_60 0 0 rfl rfl (g_getI dX13_qSums_61 fl_X13_345 rfl obM_0 (g_aload_n dX13_qSums_64 0 0 rfl rfl (g_getI dX13_qSums_65 fl_X13_351 rfl obM_0 (g_icmp_le dX13_qSums_68 rfl (fun q3 => (g_aload_n dX13_qSums_78 0 0 rfl rfl (g_iload_n dX13_qSums_79 1 1 rfl rfl (g_putI dX13_qSums_80 fl_X13_351 rfl rfl obM_0 (g_return dX13_qSums_83 rfl ⟨rfl, ((h.2 q1).1 q3)⟩))))) (fun q3 => (g_aload_n dX13_qSums_71 0 0 rfl rfl (g_callvV dX13_qSums_72 ml_X13_567 md_X13_qDrops mv_X13_qDrops obM_0 rfl rfl rfl (Nat.le_of_ble_eq_true rfl) (CalV.mono ((h.2 q1).2 q3) (fun I5 J6 h7 => (g_goto dX13_qSums_75 rfl h7)))))))))))))))
theorem dX13_qPartTold_0 : decode cX13_qPartTold 0 = .ok (.iconst 1, 1) := by decide +kernel
theorem dX13_qPartTold_1 : decode cX13_qPartTold 1 = .ok (.istore_n 1, 1) := by decide +kernel
theorem dX13_qPartTold_2 : decode cX13_qPartTold 2 = .ok (.iload_n 1, 1) := by decide +kernel
theorem dX13_qPartTold_3 : decode cX13_qPartTold 3 = .ok (.ifCond .eq 183, 3) := by decide +kernel
theorem dX13_qPartTold_6 : decode cX13_qPartTold 6 = .ok (.aload_n 0, 1) := by decide +kernel
theorem dX13_qPartTold_7 : decode cX13_qPartTold 7 = .ok (.getfield 257, 3) := by decide +kernel
theorem dX13_qPartTold_10 : decode cX13_qPartTold 10 = .ok (.ifCond .ne 176, 3) := by decide +kernel
theorem dX13_qPartTold_13 : decode cX13_qPartTold 13 = .ok (.aload_n 0, 1) := by decide +kernel
theorem dX13_qPartTold_14 : decode cX13_qPartTold 14 = .ok (.invokevirtual 269, 3) := by decide +kernel
theorem dX13_qPartTold_17 : decode cX13_qPartTold 17 = .ok (.istore_n 2, 1) := by decide +kernel
theorem dX13_qPartTold_18 : decode cX13_qPartTold 18 = .ok (.aload_n 0, 1) := by decide +kernel
theorem dX13_qPartTold_19 : decode cX13_qPartTold 19 = .ok (.bipush 12, 2) := by decide +kernel
theorem dX13_qPartTold_21 : decode cX13_qPartTold 21 = .ok (.bipush 13, 2) := by decide +kernel
theorem dX13_qPartTold_23 : decode cX13_qPartTold 23 = .ok (.invokevirtual 576, 3) := by decide +kernel
theorem dX13_qPartTold_26 : decode cX13_qPartTold 26 = .ok (.istore_n 3, 1) := by decide +kernel
theorem dX13_qPartTold_27 : decode cX13_qPartTold 27 = .ok (.iload_n 2, 1) := by decide +kernel
theorem dX13_qPartTold_28 : decode cX13_qPartTold 28 = .ok (.bipush 40, 2) := by decide +kernel
theorem dX13_qPartTold_30 : decode cX13_qPartTold 30 = .ok (.if_icmp .ne 26, 3) := by decide +kernel
theorem dX13_qPartTold_33 : decode cX13_qPartTold 33 = .ok (.aload_n 0, 1) := by decide +kernel
theorem dX13_qPartTold_34 : decode cX13_qPartTold 34 = .ok (.bipush 20, 2) := by decide +kernel
theorem dX13_qPartTold_36 : decode cX13_qPartTold 36 = .ok (.aload_n 0, 1) := by decide +kernel
theorem dX13_qPartTold_37 : decode cX13_qPartTold 37 = .ok (.getfield 263, 3) := by decide +kernel
theorem dX13_qPartTold_40 : decode cX13_qPartTold 40 = .ok (.invokevirtual 579, 3) := by decide +kernel
theorem dX13_qPartTold_43 : decode cX13_qPartTold 43 = .ok (.aload_n 0, 1) := by decide +kernel
theorem dX13_qPartTold_44 : decode cX13_qPartTold 44 = .ok (.dup, 1) := by decide +kernel
theorem dX13_qPartTold_45 : decode cX13_qPartTold 45 = .ok (.getfield 263, 3) := by decide +kernel
theorem dX13_qPartTold_48 : decode cX13_qPartTold 48 = .ok (.iconst 1, 1) := by decide +kernel
theorem dX13_qPartTold_49 : decode cX13_qPartTold 49 = .ok (.iadd, 1) := by decide +kernel
theorem dX13_qPartTold_50 : decode cX13_qPartTold 50 = .ok (.putfield 263, 3) := by decide +kernel
theorem dX13_qPartTold_53 : decode cX13_qPartTold 53 = .ok (.goto 130, 3) := by decide +kernel
theorem dX13_qPartTold_56 : decode cX13_qPartTold 56 = .ok (.aload_n 0, 1) := by decide +kernel
theorem dX13_qPartTold_57 : decode cX13_qPartTold 57 = .ok (.aload_n 0, 1) := by decide +kernel
theorem dX13_qPartTold_58 : decode cX13_qPartTold 58 = .ok (.getfield 197, 3) := by decide +kernel
theorem dX13_qPartTold_61 : decode cX13_qPartTold 61 = .ok (.invokevirtual 280, 3) := by decide +kernel
theorem dX13_qPartTold_64 : decode cX13_qPartTold 64 = .ok (.ifCond .ne 14, 3) := by decide +kernel
theorem dX13_qPartTold_67 : decode cX13_qPartTold 67 = .ok (.aload_n 0, 1) := by decide +kernel
theorem dX13_qPartTold_68 : decode cX13_qPartTold 68 = .ok (.aload_n 0, 1) := by decide +kernel
theorem dX13_qPartTold_69 : decode cX13_qPartTold 69 = .ok (.getfield 200, 3) := by decide +kernel
theorem dX13_qPartTold_72 : decode cX13_qPartTold 72 = .ok (.invokevirtual 280, 3) := by decide +kernel
theorem dX13_qPartTold_75 : decode cX13_qPartTold 75 = .ok (.ifCond .eq 78, 3) := by decide +kernel
theorem dX13_qPartTold_78 : decode cX13_qPartTold 78 = .ok (.aload_n 0, 1) := by decide +kernel
theorem dX13_qPartTold_79 : decode cX13_qPartTold 79 = .ok (.aload_n 0, 1) := by decide +kernel
theorem dX13_qPartTold_80 : decode cX13_qPartTold 80 = .ok (.getfield 197, 3) := by decide +kernel
theorem dX13_qPartTold_83 : decode cX13_qPartTold 83 = .ok (.invokevirtual 284, 3) := by decide +kernel
theorem dX13_qPartTold_86 : decode cX13_qPartTold 86 = .ok (.istore 4, 2) := by decide +kernel
theorem dX13_qPartTold_88 : decode cX13_qPartTold 88 = .ok (.iload 4, 2) := by decide +kernel
theorem dX13_qPartTold_90 : decode cX13_qPartTold 90 = .ok (.ifCond .ne 11, 3) := by decide +kernel
theorem dX13_qPartTold_93 : decode cX13_qPartTold 93 = .ok (.aload_n 0, 1) := by decide +kernel
theorem dX13_qPartTold_94 : decode cX13_qPartTold 94 = .ok (.aload_n 0, 1) := by decide +kernel
theorem dX13_qPartTold_95 : decode cX13_qPartTold 95 = .ok (.getfield 200, 3) := by decide +kernel
theorem dX13_qPartTold_98 : decode cX13_qPartTold 98 = .ok (.invokevirtual 330, 3) := by decide +kernel
theorem dX13_qPartTold_101 : decode cX13_qPartTold 101 = .ok (.aload_n 0, 1) := by decide +kernel
theorem dX13_qPartTold_102 : decode cX13_qPartTold 102 = .ok (.invokevirtual 269, 3) := by decide +kernel
theorem dX13_qPartTold_105 : decode cX13_qPartTold 105 = .ok (.bipush 40, 2) := by decide +kernel
theorem dX13_qPartTold_107 : decode cX13_qPartTold 107 = .ok (.if_icmp .ne 10, 3) := by decide +kernel
theorem dX13_qPartTold_110 : decode cX13_qPartTold 110 = .ok (.aload_n 0, 1) := by decide +kernel
theorem dX13_qPartTold_111 : decode cX13_qPartTold 111 = .ok (.getfield 263, 3) := by decide +kernel
theorem dX13_qPartTold_114 : decode cX13_qPartTold 114 = .ok (.goto 4, 3) := by decide +kernel
theorem dX13_qPartTold_117 : decode cX13_qPartTold 117 = .ok (.iconst (-1), 1) := by decide +kernel
theorem dX13_qPartTold_118 : decode cX13_qPartTold 118 = .ok (.istore 5, 2) := by decide +kernel
theorem dX13_qPartTold_120 : decode cX13_qPartTold 120 = .ok (.iload 5, 2) := by decide +kernel
theorem dX13_qPartTold_122 : decode cX13_qPartTold 122 = .ok (.iconst (-1), 1) := by decide +kernel
theorem dX13_qPartTold_123 : decode cX13_qPartTold 123 = .ok (.if_icmp .eq 21, 3) := by decide +kernel
theorem dX13_qPartTold_126 : decode cX13_qPartTold 126 = .ok (.aload_n 0, 1) := by decide +kernel
theorem dX13_qPartTold_127 : decode cX13_qPartTold 127 = .ok (.iload 4, 2) := by decide +kernel
theorem dX13_qPartTold_129 : decode cX13_qPartTold 129 = .ok (.ifCond .eq 8, 3) := by decide +kernel
theorem dX13_qPartTold_132 : decode cX13_qPartTold 132 = .ok (.bipush 21, 2) := by decide +kernel
theorem dX13_qPartTold_134 : decode cX13_qPartTold 134 = .ok (.goto 5, 3) := by decide +kernel
theorem dX13_qPartTold_137 : decode cX13_qPartTold 137 = .ok (.bipush 22, 2) := by decide +kernel
theorem dX13_qPartTold_139 : decode cX13_qPartTold 139 = .ok (.iload 5, 2) := by decide +kernel
theorem dX13_qPartTold_141 : decode cX13_qPartTold 141 = .ok (.invokevirtual 579, 3) := by decide +kernel
theorem dX13_qPartTold_144 : decode cX13_qPartTold 144 = .ok (.aload_n 0, 1) := by decide +kernel
theorem dX13_qPartTold_145 : decode cX13_qPartTold 145 = .ok (.bipush 40, 2) := by decide +kernel
theorem dX13_qPartTold_147 : decode cX13_qPartTold 147 = .ok (.invokevirtual 380, 3) := by decide +kernel
theorem dX13_qPartTold_150 : decode cX13_qPartTold 150 = .ok (.goto 33, 3) := by decide +kernel
theorem dX13_qPartTold_153 : decode cX13_qPartTold 153 = .ok (.iload_n 3, 1) := by decide +kernel
theorem dX13_qPartTold_154 : decode cX13_qPartTold 154 = .ok (.iconst (-1), 1) := by decide +kernel
theorem dX13_qPartTold_155 : decode cX13_qPartTold 155 = .ok (.if_icmp .eq 26, 3) := by decide +kernel
theorem dX13_qPartTold_158 : decode cX13_qPartTold 158 = .ok (.aload_n 0, 1) := by decide +kernel
theorem dX13_qPartTold_159 : decode cX13_qPartTold 159 = .ok (.bipush 60, 2) := by decide +kernel
theorem dX13_qPartTold_161 : decode cX13_qPartTold 161 = .ok (.iload_n 3, 1) := by decide +kernel
theorem dX13_qPartTold_162 : decode cX13_qPartTold 162 = .ok (.iadd, 1) := by decide +kernel
theorem dX13_qPartTold_163 : decode cX13_qPartTold 163 = .ok (.bipush 12, 2) := by decide +kernel
theorem dX13_qPartTold_165 : decode cX13_qPartTold 165 = .ok (.isub, 1) := by decide +kernel
theorem dX13_qPartTold_166 : decode cX13_qPartTold 166 = .ok (.aload_n 0, 1) := by decide +kernel
theorem dX13_qPartTold_167 : decode cX13_qPartTold 167 = .ok (.getfield 263, 3) := by decide +kernel
theorem dX13_qPartTold_170 : decode cX13_qPartTold 170 = .ok (.invokevirtual 579, 3) := by decide +kernel
theorem dX13_qPartTold_173 : decode cX13_qPartTold 173 = .ok (.aload_n 0, 1) := by decide +kernel
theorem dX13_qPartTold_174 : decode cX13_qPartTold 174 = .ok (.iload_n 3, 1) := by decide +kernel
theorem dX13_qPartTold_175 : decode cX13_qPartTold 175 = .ok (.invokevirtual 582, 3) := by decide +kernel
theorem dX13_qPartTold_178 : decode cX13_qPartTold 178 = .ok (.goto 5, 3) := by decide +kernel
theorem dX13_qPartTold_181 : decode cX13_qPartTold 181 = .ok (.iconst 0, 1) := by decide +kernel
theorem dX13_qPartTold_182 : decode cX13_qPartTold 182 = .ok (.istore_n 1, 1) := by decide +kernel
theorem dX13_qPartTold_183 : decode cX13_qPartTold 183 = .ok (.goto (-181), 3) := by decide +kernel
theorem dX13_qPartTold_186 : decode cX13_qPartTold 186 = .ok (.aload_n 0, 1) := by decide +kernel
theorem dX13_qPartTold_187 : decode cX13_qPartTold 187 = .ok (.getfield 257, 3) := by decide +kernel
theorem dX13_qPartTold_190 : decode cX13_qPartTold 190 = .ok (.ifCond .eq 4, 3) := by decide +kernel
theorem dX13_qPartTold_193 : decode cX13_qPartTold 193 = .ok (.return_, 1) := by decide +kernel
theorem dX13_qPartTold_194 : decode cX13_qPartTold 194 = .ok (.aload_n 0, 1) := by decide +kernel
theorem dX13_qPartTold_195 : decode cX13_qPartTold 195 = .ok (.iconst 0, 1) := by decide +kernel
theorem dX13_qPartTold_196 : decode cX13_qPartTold 196 = .ok (.bipush 12, 2) := by decide +kernel
theorem dX13_qPartTold_198 : decode cX13_qPartTold 198 = .ok (.invokevirtual 576, 3) := by decide +kernel
theorem dX13_qPartTold_201 : decode cX13_qPartTold 201 = .ok (.istore_n 2, 1) := by decide +kernel
theorem dX13_qPartTold_202 : decode cX13_qPartTold 202 = .ok (.iload_n 2, 1) := by decide +kernel
theorem dX13_qPartTold_203 : decode cX13_qPartTold 203 = .ok (.iconst (-1), 1) := by decide +kernel
theorem dX13_qPartTold_204 : decode cX13_qPartTold 204 = .ok (.if_icmp .eq 8, 3) := by decide +kernel
theorem dX13_qPartTold_207 : decode cX13_qPartTold 207 = .ok (.aload_n 0, 1) := by decide +kernel
theorem dX13_qPartTold_208 : decode cX13_qPartTold 208 = .ok (.iload_n 2, 1) := by decide +kernel
theorem dX13_qPartTold_209 : decode cX13_qPartTold 209 = .ok (.invokevirtual 582, 3) := by decide +kernel
theorem dX13_qPartTold_212 : decode cX13_qPartTold 212 = .ok (.aload_n 0, 1) := by decide +kernel
theorem dX13_qPartTold_213 : decode cX13_qPartTold 213 = .ok (.iload_n 2, 1) := by decide +kernel
theorem dX13_qPartTold_214 : decode cX13_qPartTold 214 = .ok (.iconst (-1), 1) := by decide +kernel
theorem dX13_qPartTold_215 : decode cX13_qPartTold 215 = .ok (.if_icmp .eq 10, 3) := by decide +kernel
theorem dX13_qPartTold_218 : decode cX13_qPartTold 218 = .ok (.bipush 40, 2) := by decide +kernel
theorem dX13_qPartTold_220 : decode cX13_qPartTold 220 = .ok (.iload_n 2, 1) := by decide +kernel
theorem dX13_qPartTold_221 : decode cX13_qPartTold 221 = .ok (.iadd, 1) := by decide +kernel
theorem dX13_qPartTold_222 : decode cX13_qPartTold 222 = .ok (.goto 15, 3) := by decide +kernel
theorem dX13_qPartTold_225 : decode cX13_qPartTold 225 = .ok (.sipush 1000, 3) := by decide +kernel
theorem dX13_qPartTold_228 : decode cX13_qPartTold 228 = .ok (.aload_n 0, 1) := by decide +kernel
theorem dX13_qPartTold_229 : decode cX13_qPartTold 229 = .ok (.iconst 0, 1) := by decide +kernel
theorem dX13_qPartTold_230 : decode cX13_qPartTold 230 = .ok (.sipush 9999, 3) := by decide +kernel
theorem dX13_qPartTold_233 : decode cX13_qPartTold 233 = .ok (.invokevirtual 334, 3) := by decide +kernel
theorem dX13_qPartTold_236 : decode cX13_qPartTold 236 = .ok (.iadd, 1) := by decide +kernel
theorem dX13_qPartTold_237 : decode cX13_qPartTold 237 = .ok (.invokevirtual 561, 3) := by decide +kernel
theorem dX13_qPartTold_240 : decode cX13_qPartTold 240 = .ok (.aload_n 0, 1) := by decide +kernel
theorem dX13_qPartTold_241 : decode cX13_qPartTold 241 = .ok (.invokevirtual 585, 3) := by decide +kernel
theorem dX13_qPartTold_244 : decode cX13_qPartTold 244 = .ok (.return_, 1) := by decide +kernel
theorem bX13_qPartTold_0 {d : Nat}   {I : Ii} {J : Jj} {K : KV}
    (h : GoV wM (d + 1) mX13_qPartTold 2 [(0, .ref (0)), (1, .int (1))] [] I J K) :
    GoV wM (d + 1) mX13_qPartTold 0 [(0, .ref (0))] [] I J K :=
  (g_iconst dX13_qPartTold_0 kc_1 (g_istore_n dX13_qPartTold_1 rfl (by decide) rfl (g_sub [1, 0] rfl h)))
theorem bX13_qPartTold_2 {d : Nat}  {v1 : Int32} {I : Ii} {J : Jj} {K : KV}
    (h : ((v1 = 0) → ((((I 0 5) = 0) → (CalI wM d mX13_qWordOf [.ref (0), .int (0), .int (12)] I J (fun x5 I3 J4 => (((x5 = ((-1))) → (CalI wM d mX13_number [.ref (0), .int (0), .int (9999)] I3 J4 (fun x9 I7 J8 => (CalV wM d mX13_qCode [.ref (0), .int (1000 + x9)] I7 J8 (fun I10 J11 => (CalV wM d mX13_qEndsPart [.ref (0)] I10 J11 (fun I12 J13 => (K I12 J13)))))))) ∧ ((¬ x5 = ((-1))) → (CalV wM d mX13_qAsksWord [.ref (0), .int (x5)] I3 J4 (fun I17 J18 => (CalV wM d mX13_qCode [.ref (0), .int (40 + x5)] I17 J18 (fun I19 J20 => (CalV wM d mX13_qEndsPart [.ref (0)] I19 J20 (fun I21 J22 => (K I21 J22)))))))))))) ∧ ((¬ (I 0 5) = 0) → (K I J)))) ∧ ((¬ v1 = 0) → (((¬ (I 0 5) = 0) → (K I J)) ∧ (((I 0 5) = 0) → (CalI wM d mX13_look [.ref (0)] I J (fun x30 I28 J29 => (CalI wM d mX13_qWordOf [.ref (0), .int (12), .int (13)] I28 J29 (fun x33 I31 J32 => (((¬ x30 = 40) → (CalI wM d mX13_isHere [.ref (0), .ref (60)] I31 J32 (fun x37 I35 J36 => (((¬ x37 = 0) → (CalI wM d mX13_takes [.ref (0), .ref (60)] I35 J36 (fun x41 I39 J40 => (((¬ x41 = 0) → (CalI wM d mX13_look [.ref (0)] I39 J40 (fun x45 I43 J44 => (((¬ x45 = 40) → (CalV wM d mX13_asksSign [.ref (0), .int (40)] I43 J44 (fun I47 J48 => (GoV wM (d + 1) mX13_qPartTold 2 [(0, .ref (0)), (1, .int (v1))] [] I47 J48 K)))) ∧ ((x45 = 40) → ((((I43 0 2) = ((-1))) → (CalV wM d mX13_asksSign [.ref (0), .int (40)] I43 J44 (fun I51 J52 => (GoV wM (d + 1) mX13_qPartTold 2 [(0, .ref (0)), (1, .int (v1))] [] I51 J52 K)))) ∧ ((¬ (I43 0 2) = ((-1))) → (CalV wM d mX13_qOpens [.ref (0), .int (21), .int (I43 0 2)] I43 J44 (fun I54 J55 => (CalV wM d mX13_asksSign [.ref (0), .int (40)] I54 J55 (fun I56 J57 => (GoV wM (d + 1) mX13_qPartTold 2 [(0, .ref (0)), (1, .int (v1))] [] I56 J57 K)))))))))))) ∧ ((x41 = 0) → (CalV wM d mX13_asks [.ref (0), .ref (61)] I39 J40 (fun I61 J62 => (CalI wM d mX13_look [.ref (0)] I61 J62 (fun x65 I63 J64 => (((¬ x65 = 40) → (CalV wM d mX13_asksSign [.ref (0), .int (40)] I63 J64 (fun I67 J68 => (GoV wM (d + 1) mX13_qPartTold 2 [(0, .ref (0)), (1, .int (v1))] [] I67 J68 K)))) ∧ ((x65 = 40) → ((((I63 0 2) = ((-1))) → (CalV wM d mX13_asksSign [.ref (0), .int (40)] I63 J64 (fun I71 J72 => (GoV wM (d + 1) mX13_qPartTold 2 [(0, .ref (0)), (1, .int (v1))] [] I71 J72 K)))) ∧ ((¬ (I63 0 2) = ((-1))) → (CalV wM d mX13_qOpens [.ref (0), .int (22), .int (I63 0 2)] I63 J64 (fun I74 J75 => (CalV wM d mX13_asksSign [.ref (0), .int (40)] I74 J75 (fun I76 J77 => (GoV wM (d + 1) mX13_qPartTold 2 [(0, .ref (0)), (1, .int (v1))] [] I76 J77 K)))))))))))))))))) ∧ ((x37 = 0) → (CalI wM d mX13_isHere [.ref (0), .ref (61)] I35 J36 (fun x85 I83 J84 => (((x85 = 0) → (((x33 = ((-1))) → (GoV wM (d + 1) mX13_qPartTold 2 [(0, .ref (0)), (1, .int (0))] [] I83 J84 K)) ∧ ((¬ x33 = ((-1))) → (CalV wM d mX13_qOpens [.ref (0), .int ((60 + x33) - 12), .int (I83 0 2)] I83 J84 (fun I88 J89 => (CalV wM d mX13_qAsksWord [.ref (0), .int (x33)] I88 J89 (fun I90 J91 => (GoV wM (d + 1) mX13_qPartTold 2 [(0, .ref (0)), (1, .int (v1))] [] I90 J91 K)))))))) ∧ ((¬ x85 = 0) → (CalI wM d mX13_takes [.ref (0), .ref (60)] I83 J84 (fun x96 I94 J95 => (((¬ x96 = 0) → (CalI wM d mX13_look [.ref (0)] I94 J95 (fun x100 I98 J99 => (((¬ x100 = 40) → (CalV wM d mX13_asksSign [.ref (0), .int (40)] I98 J99 (fun I102 J103 => (GoV wM (d + 1) mX13_qPartTold 2 [(0, .ref (0)), (1, .int (v1))] [] I102 J103 K)))) ∧ ((x100 = 40) → ((((I98 0 2) = ((-1))) → (CalV wM d mX13_asksSign [.ref (0), .int (40)] I98 J99 (fun I106 J107 => (GoV wM (d + 1) mX13_qPartTold 2 [(0, .ref (0)), (1, .int (v1))] [] I106 J107 K)))) ∧ ((¬ (I98 0 2) = ((-1))) → (CalV wM d mX13_qOpens [.ref (0), .int (21), .int (I98 0 2)] I98 J99 (fun I109 J110 => (CalV wM d mX13_asksSign [.ref (0), .int (40)] I109 J110 (fun I111 J112 => (GoV wM (d + 1) mX13_qPartTold 2 [(0, .ref (0)), (1, .int (v1))] [] I111 J112 K)))))))))))) ∧ ((x96 = 0) → (CalV wM d mX13_asks [.ref (0), .ref (61)] I94 J95 (fun I116 J117 => (CalI wM d mX13_look [.ref (0)] I116 J117 (fun x120 I118 J119 => (((¬ x120 = 40) → (CalV wM d mX13_asksSign [.ref (0), .int (40)] I118 J119 (fun I122 J123 => (GoV wM (d + 1) mX13_qPartTold 2 [(0, .ref (0)), (1, .int (v1))] [] I122 J123 K)))) ∧ ((x120 = 40) → ((((I118 0 2) = ((-1))) → (CalV wM d mX13_asksSign [.ref (0), .int (40)] I118 J119 (fun I126 J127 => (GoV wM (d + 1) mX13_qPartTold 2 [(0, .ref (0)), (1, .int (v1))] [] I126 J127 K)))) ∧ ((¬ (I118 0 2) = ((-1))) → (CalV wM d mX13_qOpens [.ref (0), .int (22), .int (I118 0 2)] I118 J119 (fun I129 J130 => (CalV wM d mX13_asksSign [.ref (0), .int (40)] I129 J130 (fun I131 J132 => (GoV wM (d + 1) mX13_qPartTold 2 [(0, .ref (0)), (1, .int (v1))] [] I131 J132 K)))))))))))))))))))))))))) ∧ ((x30 = 40) → (CalV wM d mX13_qOpens [.ref (0), .int (20), .int (I31 0 2)] I31 J32 (fun I140 J141 => (GoV wM (d + 1) mX13_qPartTold 2 [(0, .ref (0)), (1, .int (v1))] [] (u2 I140 0 2 ((I140 0 2) + 1)) J141 K))))))))))))) :
    GoV wM (d + 1) mX13_qPartTold 2 [(0, .ref (0)), (1, .int (v1))] [] I J K :=
  (g_iload_n dX13_qPartTold_2 1 1 rfl rfl (g_if_eq dX13_qPartTold_3 rfl (fun q1 => (g_aload_n dX13_qPartTold_186 0 0 rfl rfl (g_getI dX13_qPartTold_187 fl_X13_257 rfl obM_0 (g_if_eq dX13_qPartTold_190 rfl (fun q2 => (g_aload_n dX13_qPartTold_194 0 0 rfl rfl (g_iconst dX13_qPartTold_195 kc_0 (g_bipush dX13_qPartTold_196 kb_12 (g_callvI dX13_qPartTold_198 ml_X13_576 md_X13_qWordOf mv_X13_qWordOf obM_0 rfl rfl rfl (Nat.le_of_ble_eq_true rfl) (CalI.mono ((h.1 q1).1 q2) (fun x5 I3 J4 h26 => (g_istore_n dX13_qPartTold_201 rfl (by decide) rfl (g_iload_n dX13_qPartTold_202 0 2 rfl rfl (g_iconst dX13_qPartTold_203 kc_n1 (g_icmp_eq dX13_qPartTold_204 rfl (fun q6 => (g_aload_n dX13_qPartTold_212 1 0 rfl rfl (g_iload_n dX13_qPartTold_213 0 2 rfl rfl (g_iconst dX13_qPartTold_214 kc_n1 (g_icmp_eq dX13_qPartTold_215 rfl (fun _ => (g_sipush dX13_qPartTold_225 ks_1000 (g_aload_n dX13_qPartTold_228 1 0 rfl rfl (g_iconst dX13_qPartTold_229 kc_0 (g_sipush dX13_qPartTold_230 ks_9999 (g_callvI dX13_qPartTold_233 ml_X13_334 md_X13_number mv_X13_number obM_0 rfl rfl rfl (Nat.le_of_ble_eq_true rfl) (CalI.mono (h26.1 q6) (fun x9 I7 J8 h16 => (g_iadd dX13_qPartTold_236 (g_callvV dX13_qPartTold_237 ml_X13_561 md_X13_qCode mv_X13_qCode obM_0 rfl rfl rfl (Nat.le_of_ble_eq_true rfl) (CalV.mono h16 (fun I10 J11 h15 => (g_aload_n dX13_qPartTold_240 1 0 rfl rfl (g_callvV dX13_qPartTold_241 ml_X13_585 md_X13_qEndsPart mv_X13_qEndsPart obM_0 rfl rfl rfl (Nat.le_of_ble_eq_true rfl) (CalV.mono h15 (fun I12 J13 h14 => (g_return dX13_qPartTold_244 rfl ⟨rfl, h14⟩))))))))))))))))) (fun q => absurd q6 q)))))) (fun q6 => (g_aload_n dX13_qPartTold_207 1 0 rfl rfl (g_iload_n dX13_qPartTold_208 0 2 rfl rfl (g_callvV dX13_qPartTold_209 ml_X13_582 md_X13_qAsksWord mv_X13_qAsksWord obM_0 rfl rfl rfl (Nat.le_of_ble_eq_true rfl) (CalV.mono (h26.2 q6) (fun I17 J18 h25 => (g_aload_n dX13_qPartTold_212 1 0 rfl rfl (g_iload_n dX13_qPartTold_213 0 2 rfl rfl (g_iconst dX13_qPartTold_214 kc_n1 (g_icmp_eq dX13_qPartTold_215 rfl (fun q => absurd q q6) (fun _ => (g_bipush dX13_qPartTold_218 kb_40 (g_iload_n dX13_qPartTold_220 0 2 rfl rfl (g_iadd dX13_qPartTold_221 (g_goto dX13_qPartTold_222 rfl (g_callvV dX13_qPartTold_237 ml_X13_561 md_X13_qCode mv_X13_qCode obM_0 rfl rfl rfl (Nat.le_of_ble_eq_true rfl) (CalV.mono h25 (fun I19 J20 h24 => (g_aload_n dX13_qPartTold_240 1 0 rfl rfl (g_callvV dX13_qPartTold_241 ml_X13_585 md_X13_qEndsPart mv_X13_qEndsPart obM_0 rfl rfl rfl (Nat.le_of_ble_eq_true rfl) (CalV.mono h24 (fun I21 J22 h23 => (g_return dX13_qPartTold_244 rfl ⟨rfl, h23⟩)))))))))))))))))))))))))))))))))) (fun q2 => (g_return dX13_qPartTold_193 rfl ⟨rfl, ((h.1 q1).2 q2)⟩)))))) (fun q1 => (g_aload_n dX13_qPartTold_6 0 0 rfl rfl (g_getI dX13_qPartTold_7 fl_X13_257 rfl obM_0 (g_if_ne dX13_qPartTold_10 rfl (fun q27 => (g_aload_n dX13_qPartTold_186 0 0 rfl rfl (g_getI dX13_qPartTold_187 fl_X13_257 rfl obM_0 (g_if_eq dX13_qPartTold_190 rfl (fun q => absurd q q27) (fun _ => (g_return dX13_qPartTold_193 rfl ⟨rfl, ((h.2 q1).1 q27)⟩)))))) (fun q27 => (g_aload_n dX13_qPartTold_13 0 0 rfl rfl (g_callvI dX13_qPartTold_14 ml_X13_269 md_X13_look mv_X13_look obM_0 rfl rfl rfl (Nat.le_of_ble_eq_true rfl) (CalI.mono ((h.2 q1).2 q27) (fun x30 I28 J29 h145 => (g_istore_n dX13_qPartTold_17 rfl (by decide) rfl (g_aload_n dX13_qPartTold_18 1 0 rfl rfl (g_bipush dX13_qPartTold_19 kb_12 (g_bipush dX13_qPartTold_21 kb_13 (g_callvI dX13_qPartTold_23 ml_X13_576 md_X13_qWordOf mv_X13_qWordOf obM_0 rfl rfl rfl (Nat.le_of_ble_eq_true rfl) (CalI.mono h145 (fun x33 I31 J32 h144 => (g_istore_n dX13_qPartTold_26 rfl (by decide) rfl (g_iload_n dX13_qPartTold_27 1 2 rfl rfl (g_bipush dX13_qPartTold_28 kb_40 (g_icmp_ne dX13_qPartTold_30 rfl (fun q34 => (g_aload_n dX13_qPartTold_56 2 0 rfl rfl (g_aload_n dX13_qPartTold_57 2 0 rfl rfl (g_getP dX13_qPartTold_58 fl_X13_197 rfl obM_0 rfl (g_callvI dX13_qPartTold_61 ml_X13_280 md_X13_isHere mv_X13_isHere obM_0 rfl rfl rfl (Nat.le_of_ble_eq_true rfl) (CalI.mono (h144.1 q34) (fun x37 I35 J36 h139 => (g_if_ne dX13_qPartTold_64 rfl (fun q38 => (g_aload_n dX13_qPartTold_78 2 0 rfl rfl (g_aload_n dX13_qPartTold_79 2 0 rfl rfl (g_getP dX13_qPartTold_80 fl_X13_197 rfl obM_0 rfl (g_callvI dX13_qPartTold_83 ml_X13_284 md_X13_takes mv_X13_takes obM_0 rfl rfl rfl (Nat.le_of_ble_eq_true rfl) (CalI.mono (h139.1 q38) (fun x41 I39 J40 h82 => (g_istore dX13_qPartTold_86 (by decide) rfl (g_iload dX13_qPartTold_88 0 rfl (g_if_ne dX13_qPartTold_90 rfl (fun q42 => (g_aload_n dX13_qPartTold_101 3 0 rfl rfl (g_callvI dX13_qPartTold_102 ml_X13_269 md_X13_look mv_X13_look obM_0 rfl rfl rfl (Nat.le_of_ble_eq_true rfl) (CalI.mono (h82.1 q42) (fun x45 I43 J44 h60 => (g_bipush dX13_qPartTold_105 kb_40 (g_icmp_ne dX13_qPartTold_107 rfl (fun q46 => (g_iconst dX13_qPartTold_117 kc_n1 (g_istore dX13_qPartTold_118 (by decide) rfl (g_iload dX13_qPartTold_120 0 rfl (g_iconst dX13_qPartTold_122 kc_n1 (g_icmp_eq dX13_qPartTold_123 rfl (fun _ => (g_aload_n dX13_qPartTold_144 4 0 rfl rfl (g_bipush dX13_qPartTold_145 kb_40 (g_callvV dX13_qPartTold_147 ml_X13_380 md_X13_asksSign mv_X13_asksSign obM_0 rfl rfl rfl (Nat.le_of_ble_eq_true rfl) (CalV.mono (h60.1 q46) (fun I47 J48 h49 => (g_goto dX13_qPartTold_150 rfl (g_goto dX13_qPartTold_183 rfl (g_sub [4, 5] rfl h49))))))))) (fun q => absurd q (by decide)))))))) (fun q46 => (g_aload_n dX13_qPartTold_110 3 0 rfl rfl (g_getI dX13_qPartTold_111 fl_X13_263 rfl obM_0 (g_goto dX13_qPartTold_114 rfl (g_istore dX13_qPartTold_118 (by decide) rfl (g_iload dX13_qPartTold_120 0 rfl (g_iconst dX13_qPartTold_122 kc_n1 (g_icmp_eq dX13_qPartTold_123 rfl (fun q50 => (g_aload_n dX13_qPartTold_144 4 0 rfl rfl (g_bipush dX13_qPartTold_145 kb_40 (g_callvV dX13_qPartTold_147 ml_X13_380 md_X13_asksSign mv_X13_asksSign obM_0 rfl rfl rfl (Nat.le_of_ble_eq_true rfl) (CalV.mono ((h60.2 q46).1 q50) (fun I51 J52 h53 => (g_goto dX13_qPartTold_150 rfl (g_goto dX13_qPartTold_183 rfl (g_sub [4, 5] rfl h53))))))))) (fun q50 => (g_aload_n dX13_qPartTold_126 4 0 rfl rfl (g_iload dX13_qPartTold_127 1 rfl (g_if_eq dX13_qPartTold_129 rfl (fun q => absurd q q42) (fun _ => (g_bipush dX13_qPartTold_132 kb_21 (g_goto dX13_qPartTold_134 rfl (g_iload dX13_qPartTold_139 0 rfl (g_callvV dX13_qPartTold_141 ml_X13_579 md_X13_qOpens mv_X13_qOpens obM_0 rfl rfl rfl (Nat.le_of_ble_eq_true rfl) (CalV.mono ((h60.2 q46).2 q50) (fun I54 J55 h59 => (g_aload_n dX13_qPartTold_144 4 0 rfl rfl (g_bipush dX13_qPartTold_145 kb_40 (g_callvV dX13_qPartTold_147 ml_X13_380 md_X13_asksSign mv_X13_asksSign obM_0 rfl rfl rfl (Nat.le_of_ble_eq_true rfl) (CalV.mono h59 (fun I56 J57 h58 => (g_goto dX13_qPartTold_150 rfl (g_goto dX13_qPartTold_183 rfl (g_sub [4, 5] rfl h58)))))))))))))))))))))))))))))))))) (fun q42 => (g_aload_n dX13_qPartTold_93 3 0 rfl rfl (g_aload_n dX13_qPartTold_94 3 0 rfl rfl (g_getP dX13_qPartTold_95 fl_X13_200 rfl obM_0 rfl (g_callvV dX13_qPartTold_98 ml_X13_330 md_X13_asks mv_X13_asks obM_0 rfl rfl rfl (Nat.le_of_ble_eq_true rfl) (CalV.mono (h82.2 q42) (fun I61 J62 h81 => (g_aload_n dX13_qPartTold_101 3 0 rfl rfl (g_callvI dX13_qPartTold_102 ml_X13_269 md_X13_look mv_X13_look obM_0 rfl rfl rfl (Nat.le_of_ble_eq_true rfl) (CalI.mono h81 (fun x65 I63 J64 h80 => (g_bipush dX13_qPartTold_105 kb_40 (g_icmp_ne dX13_qPartTold_107 rfl (fun q66 => (g_iconst dX13_qPartTold_117 kc_n1 (g_istore dX13_qPartTold_118 (by decide) rfl (g_iload dX13_qPartTold_120 0 rfl (g_iconst dX13_qPartTold_122 kc_n1 (g_icmp_eq dX13_qPartTold_123 rfl (fun _ => (g_aload_n dX13_qPartTold_144 4 0 rfl rfl (g_bipush dX13_qPartTold_145 kb_40 (g_callvV dX13_qPartTold_147 ml_X13_380 md_X13_asksSign mv_X13_asksSign obM_0 rfl rfl rfl (Nat.le_of_ble_eq_true rfl) (CalV.mono (h80.1 q66) (fun I67 J68 h69 => (g_goto dX13_qPartTold_150 rfl (g_goto dX13_qPartTold_183 rfl (g_sub [4, 5] rfl h69))))))))) (fun q => absurd q (by decide)))))))) (fun q66 => (g_aload_n dX13_qPartTold_110 3 0 rfl rfl (g_getI dX13_qPartTold_111 fl_X13_263 rfl obM_0 (g_goto dX13_qPartTold_114 rfl (g_istore dX13_qPartTold_118 (by decide) rfl (g_iload dX13_qPartTold_120 0 rfl (g_iconst dX13_qPartTold_122 kc_n1 (g_icmp_eq dX13_qPartTold_123 rfl (fun q70 => (g_aload_n dX13_qPartTold_144 4 0 rfl rfl (g_bipush dX13_qPartTold_145 kb_40 (g_callvV dX13_qPartTold_147 ml_X13_380 md_X13_asksSign mv_X13_asksSign obM_0 rfl rfl rfl (Nat.le_of_ble_eq_true rfl) (CalV.mono ((h80.2 q66).1 q70) (fun I71 J72 h73 => (g_goto dX13_qPartTold_150 rfl (g_goto dX13_qPartTold_183 rfl (g_sub [4, 5] rfl h73))))))))) (fun q70 => (g_aload_n dX13_qPartTold_126 4 0 rfl rfl (g_iload dX13_qPartTold_127 1 rfl (g_if_eq dX13_qPartTold_129 rfl (fun _ => (g_bipush dX13_qPartTold_137 kb_22 (g_iload dX13_qPartTold_139 0 rfl (g_callvV dX13_qPartTold_141 ml_X13_579 md_X13_qOpens mv_X13_qOpens obM_0 rfl rfl rfl (Nat.le_of_ble_eq_true rfl) (CalV.mono ((h80.2 q66).2 q70) (fun I74 J75 h79 => (g_aload_n dX13_qPartTold_144 4 0 rfl rfl (g_bipush dX13_qPartTold_145 kb_40 (g_callvV dX13_qPartTold_147 ml_X13_380 md_X13_asksSign mv_X13_asksSign obM_0 rfl rfl rfl (Nat.le_of_ble_eq_true rfl) (CalV.mono h79 (fun I76 J77 h78 => (g_goto dX13_qPartTold_150 rfl (g_goto dX13_qPartTold_183 rfl (g_sub [4, 5] rfl h78)))))))))))))) (fun q => absurd q42 q)))))))))))))))))))))))))))))))))))) (fun q38 => (g_aload_n dX13_qPartTold_67 2 0 rfl rfl (g_aload_n dX13_qPartTold_68 2 0 rfl rfl (g_getP dX13_qPartTold_69 fl_X13_200 rfl obM_0 rfl (g_callvI dX13_qPartTold_72 ml_X13_280 md_X13_isHere mv_X13_isHere obM_0 rfl rfl rfl (Nat.le_of_ble_eq_true rfl) (CalI.mono (h139.2 q38) (fun x85 I83 J84 h138 => (g_if_eq dX13_qPartTold_75 rfl (fun q86 => (g_iload_n dX13_qPartTold_153 0 3 rfl rfl (g_iconst dX13_qPartTold_154 kc_n1 (g_icmp_eq dX13_qPartTold_155 rfl (fun q87 => (g_iconst dX13_qPartTold_181 kc_0 (g_istore_n dX13_qPartTold_182 rfl (by decide) rfl (g_goto dX13_qPartTold_183 rfl (g_sub [3, 0] rfl ((h138.1 q86).1 q87)))))) (fun q87 => (g_aload_n dX13_qPartTold_158 2 0 rfl rfl (g_bipush dX13_qPartTold_159 kb_60 (g_iload_n dX13_qPartTold_161 0 3 rfl rfl (g_iadd dX13_qPartTold_162 (g_bipush dX13_qPartTold_163 kb_12 (g_isub dX13_qPartTold_165 (g_aload_n dX13_qPartTold_166 2 0 rfl rfl (g_getI dX13_qPartTold_167 fl_X13_263 rfl obM_0 (g_callvV dX13_qPartTold_170 ml_X13_579 md_X13_qOpens mv_X13_qOpens obM_0 rfl rfl rfl (Nat.le_of_ble_eq_true rfl) (CalV.mono ((h138.1 q86).2 q87) (fun I88 J89 h93 => (g_aload_n dX13_qPartTold_173 2 0 rfl rfl (g_iload_n dX13_qPartTold_174 0 3 rfl rfl (g_callvV dX13_qPartTold_175 ml_X13_582 md_X13_qAsksWord mv_X13_qAsksWord obM_0 rfl rfl rfl (Nat.le_of_ble_eq_true rfl) (CalV.mono h93 (fun I90 J91 h92 => (g_goto dX13_qPartTold_178 rfl (g_goto dX13_qPartTold_183 rfl (g_sub [2, 3] rfl h92)))))))))))))))))))))))) (fun q86 => (g_aload_n dX13_qPartTold_78 2 0 rfl rfl (g_aload_n dX13_qPartTold_79 2 0 rfl rfl (g_getP dX13_qPartTold_80 fl_X13_197 rfl obM_0 rfl (g_callvI dX13_qPartTold_83 ml_X13_284 md_X13_takes mv_X13_takes obM_0 rfl rfl rfl (Nat.le_of_ble_eq_true rfl) (CalI.mono (h138.2 q86) (fun x96 I94 J95 h137 => (g_istore dX13_qPartTold_86 (by decide) rfl (g_iload dX13_qPartTold_88 0 rfl (g_if_ne dX13_qPartTold_90 rfl (fun q97 => (g_aload_n dX13_qPartTold_101 3 0 rfl rfl (g_callvI dX13_qPartTold_102 ml_X13_269 md_X13_look mv_X13_look obM_0 rfl rfl rfl (Nat.le_of_ble_eq_true rfl) (CalI.mono (h137.1 q97) (fun x100 I98 J99 h115 => (g_bipush dX13_qPartTold_105 kb_40 (g_icmp_ne dX13_qPartTold_107 rfl (fun q101 => (g_iconst dX13_qPartTold_117 kc_n1 (g_istore dX13_qPartTold_118 (by decide) rfl (g_iload dX13_qPartTold_120 0 rfl (g_iconst dX13_qPartTold_122 kc_n1 (g_icmp_eq dX13_qPartTold_123 rfl (fun _ => (g_aload_n dX13_qPartTold_144 4 0 rfl rfl (g_bipush dX13_qPartTold_145 kb_40 (g_callvV dX13_qPartTold_147 ml_X13_380 md_X13_asksSign mv_X13_asksSign obM_0 rfl rfl rfl (Nat.le_of_ble_eq_true rfl) (CalV.mono (h115.1 q101) (fun I102 J103 h104 => (g_goto dX13_qPartTold_150 rfl (g_goto dX13_qPartTold_183 rfl (g_sub [4, 5] rfl h104))))))))) (fun q => absurd q (by decide)))))))) (fun q101 => (g_aload_n dX13_qPartTold_110 3 0 rfl rfl (g_getI dX13_qPartTold_111 fl_X13_263 rfl obM_0 (g_goto dX13_qPartTold_114 rfl (g_istore dX13_qPartTold_118 (by decide) rfl (g_iload dX13_qPartTold_120 0 rfl (g_iconst dX13_qPartTold_122 kc_n1 (g_icmp_eq dX13_qPartTold_123 rfl (fun q105 => (g_aload_n dX13_qPartTold_144 4 0 rfl rfl (g_bipush dX13_qPartTold_145 kb_40 (g_callvV dX13_qPartTold_147 ml_X13_380 md_X13_asksSign mv_X13_asksSign obM_0 rfl rfl rfl (Nat.le_of_ble_eq_true rfl) (CalV.mono ((h115.2 q101).1 q105) (fun I106 J107 h108 => (g_goto dX13_qPartTold_150 rfl (g_goto dX13_qPartTold_183 rfl (g_sub [4, 5] rfl h108))))))))) (fun q105 => (g_aload_n dX13_qPartTold_126 4 0 rfl rfl (g_iload dX13_qPartTold_127 1 rfl (g_if_eq dX13_qPartTold_129 rfl (fun q => absurd q q97) (fun _ => (g_bipush dX13_qPartTold_132 kb_21 (g_goto dX13_qPartTold_134 rfl (g_iload dX13_qPartTold_139 0 rfl (g_callvV dX13_qPartTold_141 ml_X13_579 md_X13_qOpens mv_X13_qOpens obM_0 rfl rfl rfl (Nat.le_of_ble_eq_true rfl) (CalV.mono ((h115.2 q101).2 q105) (fun I109 J110 h114 => (g_aload_n dX13_qPartTold_144 4 0 rfl rfl (g_bipush dX13_qPartTold_145 kb_40 (g_callvV dX13_qPartTold_147 ml_X13_380 md_X13_asksSign mv_X13_asksSign obM_0 rfl rfl rfl (Nat.le_of_ble_eq_true rfl) (CalV.mono h114 (fun I111 J112 h113 => (g_goto dX13_qPartTold_150 rfl (g_goto dX13_qPartTold_183 rfl (g_sub [4, 5] rfl h113)))))))))))))))))))))))))))))))))) (fun q97 => (g_aload_n dX13_qPartTold_93 3 0 rfl rfl (g_aload_n dX13_qPartTold_94 3 0 rfl rfl (g_getP dX13_qPartTold_95 fl_X13_200 rfl obM_0 rfl (g_callvV dX13_qPartTold_98 ml_X13_330 md_X13_asks mv_X13_asks obM_0 rfl rfl rfl (Nat.le_of_ble_eq_true rfl) (CalV.mono (h137.2 q97) (fun I116 J117 h136 => (g_aload_n dX13_qPartTold_101 3 0 rfl rfl (g_callvI dX13_qPartTold_102 ml_X13_269 md_X13_look mv_X13_look obM_0 rfl rfl rfl (Nat.le_of_ble_eq_true rfl) (CalI.mono h136 (fun x120 I118 J119 h135 => (g_bipush dX13_qPartTold_105 kb_40 (g_icmp_ne dX13_qPartTold_107 rfl (fun q121 => (g_iconst dX13_qPartTold_117 kc_n1 (g_istore dX13_qPartTold_118 (by decide) rfl (g_iload dX13_qPartTold_120 0 rfl (g_iconst dX13_qPartTold_122 kc_n1 (g_icmp_eq dX13_qPartTold_123 rfl (fun _ => (g_aload_n dX13_qPartTold_144 4 0 rfl rfl (g_bipush dX13_qPartTold_145 kb_40 (g_callvV dX13_qPartTold_147 ml_X13_380 md_X13_asksSign mv_X13_asksSign obM_0 rfl rfl rfl (Nat.le_of_ble_eq_true rfl) (CalV.mono (h135.1 q121) (fun I122 J123 h124 => (g_goto dX13_qPartTold_150 rfl (g_goto dX13_qPartTold_183 rfl (g_sub [4, 5] rfl h124))))))))) (fun q => absurd q (by decide)))))))) (fun q121 => (g_aload_n dX13_qPartTold_110 3 0 rfl rfl (g_getI dX13_qPartTold_111 fl_X13_263 rfl obM_0 (g_goto dX13_qPartTold_114 rfl (g_istore dX13_qPartTold_118 (by decide) rfl (g_iload dX13_qPartTold_120 0 rfl (g_iconst dX13_qPartTold_122 kc_n1 (g_icmp_eq dX13_qPartTold_123 rfl (fun q125 => (g_aload_n dX13_qPartTold_144 4 0 rfl rfl (g_bipush dX13_qPartTold_145 kb_40 (g_callvV dX13_qPartTold_147 ml_X13_380 md_X13_asksSign mv_X13_asksSign obM_0 rfl rfl rfl (Nat.le_of_ble_eq_true rfl) (CalV.mono ((h135.2 q121).1 q125) (fun I126 J127 h128 => (g_goto dX13_qPartTold_150 rfl (g_goto dX13_qPartTold_183 rfl (g_sub [4, 5] rfl h128))))))))) (fun q125 => (g_aload_n dX13_qPartTold_126 4 0 rfl rfl (g_iload dX13_qPartTold_127 1 rfl (g_if_eq dX13_qPartTold_129 rfl (fun _ => (g_bipush dX13_qPartTold_137 kb_22 (g_iload dX13_qPartTold_139 0 rfl (g_callvV dX13_qPartTold_141 ml_X13_579 md_X13_qOpens mv_X13_qOpens obM_0 rfl rfl rfl (Nat.le_of_ble_eq_true rfl) (CalV.mono ((h135.2 q121).2 q125) (fun I129 J130 h134 => (g_aload_n dX13_qPartTold_144 4 0 rfl rfl (g_bipush dX13_qPartTold_145 kb_40 (g_callvV dX13_qPartTold_147 ml_X13_380 md_X13_asksSign mv_X13_asksSign obM_0 rfl rfl rfl (Nat.le_of_ble_eq_true rfl) (CalV.mono h134 (fun I131 J132 h133 => (g_goto dX13_qPartTold_150 rfl (g_goto dX13_qPartTold_183 rfl (g_sub [4, 5] rfl h133)))))))))))))) (fun q => absurd q97 q)))))))))))))))))))))))))))))))))))))))))))))))))))) (fun q34 => (g_aload_n dX13_qPartTold_33 2 0 rfl rfl (g_bipush dX13_qPartTold_34 kb_20 (g_aload_n dX13_qPartTold_36 2 0 rfl rfl (g_getI dX13_qPartTold_37 fl_X13_263 rfl obM_0 (g_callvV dX13_qPartTold_40 ml_X13_579 md_X13_qOpens mv_X13_qOpens obM_0 rfl rfl rfl (Nat.le_of_ble_eq_true rfl) (CalV.mono (h144.2 q34) (fun I140 J141 h143 => (g_aload_n dX13_qPartTold_43 2 0 rfl rfl (g_dup dX13_qPartTold_44 rfl (g_getI dX13_qPartTold_45 fl_X13_263 rfl obM_0 (g_iconst dX13_qPartTold_48 kc_1 (g_iadd dX13_qPartTold_49 (g_putI dX13_qPartTold_50 fl_X13_263 rfl rfl obM_0 (g_goto dX13_qPartTold_53 rfl (g_goto dX13_qPartTold_183 rfl (g_sub [2, 3] rfl h143)))))))))))))))))))))))))))))))))))))))
theorem dX13_qWordOf_0 : decode cX13_qWordOf 0 = .ok (.aload_n 0, 1) := by decide +kernel
theorem dX13_qWordOf_1 : decode cX13_qWordOf 1 = .ok (.invokevirtual 570, 3) := by decide +kernel
theorem dX13_qWordOf_4 : decode cX13_qWordOf 4 = .ok (.istore_n 3, 1) := by decide +kernel
theorem dX13_qWordOf_5 : decode cX13_qWordOf 5 = .ok (.iload_n 3, 1) := by decide +kernel
theorem dX13_qWordOf_6 : decode cX13_qWordOf 6 = .ok (.iload_n 1, 1) := by decide +kernel
theorem dX13_qWordOf_7 : decode cX13_qWordOf 7 = .ok (.if_icmp .lt 20, 3) := by decide +kernel
theorem dX13_qWordOf_10 : decode cX13_qWordOf 10 = .ok (.iload_n 3, 1) := by decide +kernel
theorem dX13_qWordOf_11 : decode cX13_qWordOf 11 = .ok (.iload_n 2, 1) := by decide +kernel
theorem dX13_qWordOf_12 : decode cX13_qWordOf 12 = .ok (.if_icmp .ge 15, 3) := by decide +kernel
theorem dX13_qWordOf_15 : decode cX13_qWordOf 15 = .ok (.aload_n 0, 1) := by decide +kernel
theorem dX13_qWordOf_16 : decode cX13_qWordOf 16 = .ok (.iload_n 3, 1) := by decide +kernel
theorem dX13_qWordOf_17 : decode cX13_qWordOf 17 = .ok (.invokevirtual 573, 3) := by decide +kernel
theorem dX13_qWordOf_20 : decode cX13_qWordOf 20 = .ok (.ifCond .eq 7, 3) := by decide +kernel
theorem dX13_qWordOf_23 : decode cX13_qWordOf 23 = .ok (.iload_n 3, 1) := by decide +kernel
theorem dX13_qWordOf_24 : decode cX13_qWordOf 24 = .ok (.goto 4, 3) := by decide +kernel
theorem dX13_qWordOf_27 : decode cX13_qWordOf 27 = .ok (.iconst (-1), 1) := by decide +kernel
theorem dX13_qWordOf_28 : decode cX13_qWordOf 28 = .ok (.ireturn, 1) := by decide +kernel
theorem bX13_qWordOf_0 {d : Nat}  {v1 : Int32} {v2 : Int32} {I : Ii} {J : Jj} {K : KI}
    (h : CalI wM d mX13_qWordHere [.ref (0)] I J (fun x3 I1 J2 => (((x3 < v1) → (K ((-1)) I1 J2)) ∧ ((¬ x3 < v1) → (((v2 ≤ x3) → (K ((-1)) I1 J2)) ∧ ((¬ v2 ≤ x3) → (CalI wM d mX13_isAllowed [.ref (0), .int (x3)] I1 J2 (fun x8 I6 J7 => (((x8 = 0) → (K ((-1)) I6 J7)) ∧ ((¬ x8 = 0) → (K (x3) I6 J7))))))))))) :
    GoI wM (d + 1) mX13_qWordOf 0 [(0, .ref (0)), (1, .int (v1)), (2, .int (v2))] [] I J K :=
  (g_aload_n dX13_qWordOf_0 0 0 rfl rfl (g_callvI dX13_qWordOf_1 ml_X13_570 md_X13_qWordHere mv_X13_qWordHere obM_0 rfl rfl rfl (Nat.le_of_ble_eq_true rfl) (CalI.mono h (fun x3 I1 J2 h11 => (g_istore_n dX13_qWordOf_4 rfl (by decide) rfl (g_iload_n dX13_qWordOf_5 0 3 rfl rfl (g_iload_n dX13_qWordOf_6 2 1 rfl rfl (g_icmp_lt dX13_qWordOf_7 rfl (fun q4 => (g_iconst dX13_qWordOf_27 kc_n1 (g_ireturn dX13_qWordOf_28 rfl ⟨_, rfl, (h11.1 q4)⟩))) (fun q4 => (g_iload_n dX13_qWordOf_10 0 3 rfl rfl (g_iload_n dX13_qWordOf_11 3 2 rfl rfl (g_icmp_ge dX13_qWordOf_12 rfl (fun q5 => (g_iconst dX13_qWordOf_27 kc_n1 (g_ireturn dX13_qWordOf_28 rfl ⟨_, rfl, ((h11.2 q4).1 q5)⟩))) (fun q5 => (g_aload_n dX13_qWordOf_15 1 0 rfl rfl (g_iload_n dX13_qWordOf_16 0 3 rfl rfl (g_callvI dX13_qWordOf_17 ml_X13_573 md_X13_isAllowed mv_X13_isAllowed obM_0 rfl rfl rfl (Nat.le_of_ble_eq_true rfl) (CalI.mono ((h11.2 q4).2 q5) (fun x8 I6 J7 h10 => (g_if_eq dX13_qWordOf_20 rfl (fun q9 => (g_iconst dX13_qWordOf_27 kc_n1 (g_ireturn dX13_qWordOf_28 rfl ⟨_, rfl, (h10.1 q9)⟩))) (fun q9 => (g_iload_n dX13_qWordOf_23 0 3 rfl rfl (g_goto dX13_qWordOf_24 rfl (g_ireturn dX13_qWordOf_28 rfl ⟨_, rfl, (h10.2 q9)⟩)))))))))))))))))))))))
theorem dX13_qWordHere_0 : decode cX13_qWordHere 0 = .ok (.aload_n 0, 1) := by decide +kernel
theorem dX13_qWordHere_1 : decode cX13_qWordHere 1 = .ok (.aload_n 0, 1) := by decide +kernel
theorem dX13_qWordHere_2 : decode cX13_qWordHere 2 = .ok (.getfield 203, 3) := by decide +kernel
theorem dX13_qWordHere_5 : decode cX13_qWordHere 5 = .ok (.invokevirtual 280, 3) := by decide +kernel
theorem dX13_qWordHere_8 : decode cX13_qWordHere 8 = .ok (.ifCond .eq 5, 3) := by decide +kernel
theorem dX13_qWordHere_11 : decode cX13_qWordHere 11 = .ok (.iconst 0, 1) := by decide +kernel
theorem dX13_qWordHere_12 : decode cX13_qWordHere 12 = .ok (.ireturn, 1) := by decide +kernel
theorem dX13_qWordHere_13 : decode cX13_qWordHere 13 = .ok (.aload_n 0, 1) := by decide +kernel
theorem dX13_qWordHere_14 : decode cX13_qWordHere 14 = .ok (.aload_n 0, 1) := by decide +kernel
theorem dX13_qWordHere_15 : decode cX13_qWordHere 15 = .ok (.getfield 206, 3) := by decide +kernel
theorem dX13_qWordHere_18 : decode cX13_qWordHere 18 = .ok (.invokevirtual 280, 3) := by decide +kernel
theorem dX13_qWordHere_21 : decode cX13_qWordHere 21 = .ok (.ifCond .eq 5, 3) := by decide +kernel
theorem dX13_qWordHere_24 : decode cX13_qWordHere 24 = .ok (.iconst 1, 1) := by decide +kernel
theorem dX13_qWordHere_25 : decode cX13_qWordHere 25 = .ok (.ireturn, 1) := by decide +kernel
theorem dX13_qWordHere_26 : decode cX13_qWordHere 26 = .ok (.aload_n 0, 1) := by decide +kernel
theorem dX13_qWordHere_27 : decode cX13_qWordHere 27 = .ok (.aload_n 0, 1) := by decide +kernel
theorem dX13_qWordHere_28 : decode cX13_qWordHere 28 = .ok (.getfield 209, 3) := by decide +kernel
theorem dX13_qWordHere_31 : decode cX13_qWordHere 31 = .ok (.invokevirtual 280, 3) := by decide +kernel
theorem dX13_qWordHere_34 : decode cX13_qWordHere 34 = .ok (.ifCond .eq 5, 3) := by decide +kernel
theorem dX13_qWordHere_37 : decode cX13_qWordHere 37 = .ok (.iconst 2, 1) := by decide +kernel
theorem dX13_qWordHere_38 : decode cX13_qWordHere 38 = .ok (.ireturn, 1) := by decide +kernel
theorem dX13_qWordHere_39 : decode cX13_qWordHere 39 = .ok (.aload_n 0, 1) := by decide +kernel
theorem dX13_qWordHere_40 : decode cX13_qWordHere 40 = .ok (.aload_n 0, 1) := by decide +kernel
theorem dX13_qWordHere_41 : decode cX13_qWordHere 41 = .ok (.getfield 212, 3) := by decide +kernel
theorem dX13_qWordHere_44 : decode cX13_qWordHere 44 = .ok (.invokevirtual 280, 3) := by decide +kernel
theorem dX13_qWordHere_47 : decode cX13_qWordHere 47 = .ok (.ifCond .eq 5, 3) := by decide +kernel
theorem dX13_qWordHere_50 : decode cX13_qWordHere 50 = .ok (.iconst 3, 1) := by decide +kernel
theorem dX13_qWordHere_51 : decode cX13_qWordHere 51 = .ok (.ireturn, 1) := by decide +kernel
theorem dX13_qWordHere_52 : decode cX13_qWordHere 52 = .ok (.aload_n 0, 1) := by decide +kernel
theorem dX13_qWordHere_53 : decode cX13_qWordHere 53 = .ok (.aload_n 0, 1) := by decide +kernel
theorem dX13_qWordHere_54 : decode cX13_qWordHere 54 = .ok (.getfield 215, 3) := by decide +kernel
theorem dX13_qWordHere_57 : decode cX13_qWordHere 57 = .ok (.invokevirtual 280, 3) := by decide +kernel
theorem dX13_qWordHere_60 : decode cX13_qWordHere 60 = .ok (.ifCond .eq 5, 3) := by decide +kernel
theorem dX13_qWordHere_63 : decode cX13_qWordHere 63 = .ok (.iconst 4, 1) := by decide +kernel
theorem dX13_qWordHere_64 : decode cX13_qWordHere 64 = .ok (.ireturn, 1) := by decide +kernel
theorem dX13_qWordHere_65 : decode cX13_qWordHere 65 = .ok (.aload_n 0, 1) := by decide +kernel
theorem dX13_qWordHere_66 : decode cX13_qWordHere 66 = .ok (.aload_n 0, 1) := by decide +kernel
theorem dX13_qWordHere_67 : decode cX13_qWordHere 67 = .ok (.getfield 218, 3) := by decide +kernel
theorem dX13_qWordHere_70 : decode cX13_qWordHere 70 = .ok (.invokevirtual 280, 3) := by decide +kernel
theorem dX13_qWordHere_73 : decode cX13_qWordHere 73 = .ok (.ifCond .eq 5, 3) := by decide +kernel
theorem dX13_qWordHere_76 : decode cX13_qWordHere 76 = .ok (.iconst 5, 1) := by decide +kernel
theorem dX13_qWordHere_77 : decode cX13_qWordHere 77 = .ok (.ireturn, 1) := by decide +kernel
theorem dX13_qWordHere_78 : decode cX13_qWordHere 78 = .ok (.aload_n 0, 1) := by decide +kernel
theorem dX13_qWordHere_79 : decode cX13_qWordHere 79 = .ok (.aload_n 0, 1) := by decide +kernel
theorem dX13_qWordHere_80 : decode cX13_qWordHere 80 = .ok (.getfield 221, 3) := by decide +kernel
theorem dX13_qWordHere_83 : decode cX13_qWordHere 83 = .ok (.invokevirtual 280, 3) := by decide +kernel
theorem dX13_qWordHere_86 : decode cX13_qWordHere 86 = .ok (.ifCond .eq 6, 3) := by decide +kernel
theorem dX13_qWordHere_89 : decode cX13_qWordHere 89 = .ok (.bipush 6, 2) := by decide +kernel
theorem dX13_qWordHere_91 : decode cX13_qWordHere 91 = .ok (.ireturn, 1) := by decide +kernel
theorem dX13_qWordHere_92 : decode cX13_qWordHere 92 = .ok (.aload_n 0, 1) := by decide +kernel
theorem dX13_qWordHere_93 : decode cX13_qWordHere 93 = .ok (.aload_n 0, 1) := by decide +kernel
theorem dX13_qWordHere_94 : decode cX13_qWordHere 94 = .ok (.getfield 224, 3) := by decide +kernel
theorem dX13_qWordHere_97 : decode cX13_qWordHere 97 = .ok (.invokevirtual 280, 3) := by decide +kernel
theorem dX13_qWordHere_100 : decode cX13_qWordHere 100 = .ok (.ifCond .eq 6, 3) := by decide +kernel
theorem dX13_qWordHere_103 : decode cX13_qWordHere 103 = .ok (.bipush 7, 2) := by decide +kernel
theorem dX13_qWordHere_105 : decode cX13_qWordHere 105 = .ok (.ireturn, 1) := by decide +kernel
theorem dX13_qWordHere_106 : decode cX13_qWordHere 106 = .ok (.aload_n 0, 1) := by decide +kernel
theorem dX13_qWordHere_107 : decode cX13_qWordHere 107 = .ok (.aload_n 0, 1) := by decide +kernel
theorem dX13_qWordHere_108 : decode cX13_qWordHere 108 = .ok (.getfield 227, 3) := by decide +kernel
theorem dX13_qWordHere_111 : decode cX13_qWordHere 111 = .ok (.invokevirtual 280, 3) := by decide +kernel
theorem dX13_qWordHere_114 : decode cX13_qWordHere 114 = .ok (.ifCond .eq 6, 3) := by decide +kernel
theorem dX13_qWordHere_117 : decode cX13_qWordHere 117 = .ok (.bipush 8, 2) := by decide +kernel
theorem dX13_qWordHere_119 : decode cX13_qWordHere 119 = .ok (.ireturn, 1) := by decide +kernel
theorem dX13_qWordHere_120 : decode cX13_qWordHere 120 = .ok (.aload_n 0, 1) := by decide +kernel
theorem dX13_qWordHere_121 : decode cX13_qWordHere 121 = .ok (.aload_n 0, 1) := by decide +kernel
theorem dX13_qWordHere_122 : decode cX13_qWordHere 122 = .ok (.getfield 230, 3) := by decide +kernel
theorem dX13_qWordHere_125 : decode cX13_qWordHere 125 = .ok (.invokevirtual 280, 3) := by decide +kernel
theorem dX13_qWordHere_128 : decode cX13_qWordHere 128 = .ok (.ifCond .eq 6, 3) := by decide +kernel
theorem dX13_qWordHere_131 : decode cX13_qWordHere 131 = .ok (.bipush 9, 2) := by decide +kernel
theorem dX13_qWordHere_133 : decode cX13_qWordHere 133 = .ok (.ireturn, 1) := by decide +kernel
theorem dX13_qWordHere_134 : decode cX13_qWordHere 134 = .ok (.aload_n 0, 1) := by decide +kernel
theorem dX13_qWordHere_135 : decode cX13_qWordHere 135 = .ok (.aload_n 0, 1) := by decide +kernel
theorem dX13_qWordHere_136 : decode cX13_qWordHere 136 = .ok (.getfield 233, 3) := by decide +kernel
theorem dX13_qWordHere_139 : decode cX13_qWordHere 139 = .ok (.invokevirtual 280, 3) := by decide +kernel
theorem dX13_qWordHere_142 : decode cX13_qWordHere 142 = .ok (.ifCond .eq 6, 3) := by decide +kernel
theorem dX13_qWordHere_145 : decode cX13_qWordHere 145 = .ok (.bipush 10, 2) := by decide +kernel
theorem dX13_qWordHere_147 : decode cX13_qWordHere 147 = .ok (.ireturn, 1) := by decide +kernel
theorem dX13_qWordHere_148 : decode cX13_qWordHere 148 = .ok (.aload_n 0, 1) := by decide +kernel
theorem dX13_qWordHere_149 : decode cX13_qWordHere 149 = .ok (.aload_n 0, 1) := by decide +kernel
theorem dX13_qWordHere_150 : decode cX13_qWordHere 150 = .ok (.getfield 236, 3) := by decide +kernel
theorem dX13_qWordHere_153 : decode cX13_qWordHere 153 = .ok (.invokevirtual 280, 3) := by decide +kernel
theorem dX13_qWordHere_156 : decode cX13_qWordHere 156 = .ok (.ifCond .eq 6, 3) := by decide +kernel
theorem dX13_qWordHere_159 : decode cX13_qWordHere 159 = .ok (.bipush 11, 2) := by decide +kernel
theorem dX13_qWordHere_161 : decode cX13_qWordHere 161 = .ok (.ireturn, 1) := by decide +kernel
theorem dX13_qWordHere_162 : decode cX13_qWordHere 162 = .ok (.aload_n 0, 1) := by decide +kernel
theorem dX13_qWordHere_163 : decode cX13_qWordHere 163 = .ok (.aload_n 0, 1) := by decide +kernel
theorem dX13_qWordHere_164 : decode cX13_qWordHere 164 = .ok (.getfield 239, 3) := by decide +kernel
theorem dX13_qWordHere_167 : decode cX13_qWordHere 167 = .ok (.invokevirtual 280, 3) := by decide +kernel
theorem dX13_qWordHere_170 : decode cX13_qWordHere 170 = .ok (.ifCond .eq 6, 3) := by decide +kernel
theorem dX13_qWordHere_173 : decode cX13_qWordHere 173 = .ok (.bipush 12, 2) := by decide +kernel
theorem dX13_qWordHere_175 : decode cX13_qWordHere 175 = .ok (.ireturn, 1) := by decide +kernel
theorem dX13_qWordHere_176 : decode cX13_qWordHere 176 = .ok (.iconst (-1), 1) := by decide +kernel
theorem dX13_qWordHere_177 : decode cX13_qWordHere 177 = .ok (.ireturn, 1) := by decide +kernel
theorem bX13_qWordHere_0 {d : Nat}   {I : Ii} {J : Jj} {K : KI}
    (h : CalI wM d mX13_isHere [.ref (0), .ref (62)] I J (fun x3 I1 J2 => (((x3 = 0) → (CalI wM d mX13_isHere [.ref (0), .ref (63)] I1 J2 (fun x7 I5 J6 => (((x7 = 0) → (CalI wM d mX13_isHere [.ref (0), .ref (64)] I5 J6 (fun x11 I9 J10 => (((x11 = 0) → (CalI wM d mX13_isHere [.ref (0), .ref (65)] I9 J10 (fun x15 I13 J14 => (((x15 = 0) → (CalI wM d mX13_isHere [.ref (0), .ref (66)] I13 J14 (fun x19 I17 J18 => (((x19 = 0) → (CalI wM d mX13_isHere [.ref (0), .ref (67)] I17 J18 (fun x23 I21 J22 => (((x23 = 0) → (CalI wM d mX13_isHere [.ref (0), .ref (68)] I21 J22 (fun x27 I25 J26 => (((x27 = 0) → (CalI wM d mX13_isHere [.ref (0), .ref (69)] I25 J26 (fun x31 I29 J30 => (((x31 = 0) → (CalI wM d mX13_isHere [.ref (0), .ref (70)] I29 J30 (fun x35 I33 J34 => (((x35 = 0) → (CalI wM d mX13_isHere [.ref (0), .ref (71)] I33 J34 (fun x39 I37 J38 => (((x39 = 0) → (CalI wM d mX13_isHere [.ref (0), .ref (72)] I37 J38 (fun x43 I41 J42 => (((x43 = 0) → (CalI wM d mX13_isHere [.ref (0), .ref (73)] I41 J42 (fun x47 I45 J46 => (((x47 = 0) → (CalI wM d mX13_isHere [.ref (0), .ref (74)] I45 J46 (fun x51 I49 J50 => (((x51 = 0) → (K ((-1)) I49 J50)) ∧ ((¬ x51 = 0) → (K (12) I49 J50)))))) ∧ ((¬ x47 = 0) → (K (11) I45 J46)))))) ∧ ((¬ x43 = 0) → (K (10) I41 J42)))))) ∧ ((¬ x39 = 0) → (K (9) I37 J38)))))) ∧ ((¬ x35 = 0) → (K (8) I33 J34)))))) ∧ ((¬ x31 = 0) → (K (7) I29 J30)))))) ∧ ((¬ x27 = 0) → (K (6) I25 J26)))))) ∧ ((¬ x23 = 0) → (K (5) I21 J22)))))) ∧ ((¬ x19 = 0) → (K (4) I17 J18)))))) ∧ ((¬ x15 = 0) → (K (3) I13 J14)))))) ∧ ((¬ x11 = 0) → (K (2) I9 J10)))))) ∧ ((¬ x7 = 0) → (K (1) I5 J6)))))) ∧ ((¬ x3 = 0) → (K (0) I1 J2))))) :
    GoI wM (d + 1) mX13_qWordHere 0 [(0, .ref (0))] [] I J K :=
  (g_aload_n dX13_qWordHere_0 0 0 rfl rfl (g_aload_n dX13_qWordHere_1 0 0 rfl rfl (g_getP dX13_qWordHere_2 fl_X13_203 rfl obM_0 rfl (g_callvI dX13_qWordHere_5 ml_X13_280 md_X13_isHere mv_X13_isHere obM_0 rfl rfl rfl (Nat.le_of_ble_eq_true rfl) (CalI.mono h (fun x3 I1 J2 h65 => (g_if_eq dX13_qWordHere_8 rfl (fun q4 => (g_aload_n dX13_qWordHere_13 0 0 rfl rfl (g_aload_n dX13_qWordHere_14 0 0 rfl rfl (g_getP dX13_qWordHere_15 fl_X13_206 rfl obM_0 rfl (g_callvI dX13_qWordHere_18 ml_X13_280 md_X13_isHere mv_X13_isHere obM_0 rfl rfl rfl (Nat.le_of_ble_eq_true rfl) (CalI.mono (h65.1 q4) (fun x7 I5 J6 h64 => (g_if_eq dX13_qWordHere_21 rfl (fun q8 => (g_aload_n dX13_qWordHere_26 0 0 rfl rfl (g_aload_n dX13_qWordHere_27 0 0 rfl rfl (g_getP dX13_qWordHere_28 fl_X13_209 rfl obM_0 rfl (g_callvI dX13_qWordHere_31 ml_X13_280 md_X13_isHere mv_X13_isHere obM_0 rfl rfl rfl (Nat.le_of_ble_eq_true rfl) (CalI.mono (h64.1 q8) (fun x11 I9 J10 h63 => (g_if_eq dX13_qWordHere_34 rfl (fun q12 => (g_aload_n dX13_qWordHere_39 0 0 rfl rfl (g_aload_n dX13_qWordHere_40 0 0 rfl rfl (g_getP dX13_qWordHere_41 fl_X13_212 rfl obM_0 rfl (g_callvI dX13_qWordHere_44 ml_X13_280 md_X13_isHere mv_X13_isHere obM_0 rfl rfl rfl (Nat.le_of_ble_eq_true rfl) (CalI.mono (h63.1 q12) (fun x15 I13 J14 h62 => (g_if_eq dX13_qWordHere_47 rfl (fun q16 => (g_aload_n dX13_qWordHere_52 0 0 rfl rfl (g_aload_n dX13_qWordHere_53 0 0 rfl rfl (g_getP dX13_qWordHere_54 fl_X13_215 rfl obM_0 rfl (g_callvI dX13_qWordHere_57 ml_X13_280 md_X13_isHere mv_X13_isHere obM_0 rfl rfl rfl (Nat.le_of_ble_eq_true rfl) (CalI.mono (h62.1 q16) (fun x19 I17 J18 h61 => (g_if_eq dX13_qWordHere_60 rfl (fun q20 => (g_aload_n dX13_qWordHere_65 0 0 rfl rfl (g_aload_n dX13_qWordHere_66 0 0 rfl rfl (g_getP dX13_qWordHere_67 fl_X13_218 rfl obM_0 rfl (g_callvI dX13_qWordHere_70 ml_X13_280 md_X13_isHere mv_X13_isHere obM_0 rfl rfl rfl (Nat.le_of_ble_eq_true rfl) (CalI.mono (h61.1 q20) (fun x23 I21 J22 h60 => (g_if_eq dX13_qWordHere_73 rfl (fun q24 => (g_aload_n dX13_qWordHere_78 0 0 rfl rfl (g_aload_n dX13_qWordHere_79 0 0 rfl rfl (g_getP dX13_qWordHere_80 fl_X13_221 rfl obM_0 rfl (g_callvI dX13_qWordHere_83 ml_X13_280 md_X13_isHere mv_X13_isHere obM_0 rfl rfl rfl (Nat.le_of_ble_eq_true rfl) (CalI.mono (h60.1 q24) (fun x27 I25 J26 h59 => (g_if_eq dX13_qWordHere_86 rfl (fun q28 => (g_aload_n dX13_qWordHere_92 0 0 rfl rfl (g_aload_n dX13_qWordHere_93 0 0 rfl rfl (g_getP dX13_qWordHere_94 fl_X13_224 rfl obM_0 rfl (g_callvI dX13_qWordHere_97 ml_X13_280 md_X13_isHere mv_X13_isHere obM_0 rfl rfl rfl (Nat.le_of_ble_eq_true rfl) (CalI.mono (h59.1 q28) (fun x31 I29 J30 h58 => (g_if_eq dX13_qWordHere_100 rfl (fun q32 => (g_aload_n dX13_qWordHere_106 0 0 rfl rfl (g_aload_n dX13_qWordHere_107 0 0 rfl rfl (g_getP dX13_qWordHere_108 fl_X13_227 rfl obM_0 rfl (g_callvI dX13_qWordHere_111 ml_X13_280 md_X13_isHere mv_X13_isHere obM_0 rfl rfl rfl (Nat.le_of_ble_eq_true rfl) (CalI.mono (h58.1 q32) (fun x35 I33 J34 h57 => (g_if_eq dX13_qWordHere_114 rfl (fun q36 => (g_aload_n dX13_qWordHere_120 0 0 rfl rfl (g_aload_n dX13_qWordHere_121 0 0 rfl rfl (g_getP dX13_qWordHere_122 fl_X13_230 rfl obM_0 rfl (g_callvI dX13_qWordHere_125 ml_X13_280 md_X13_isHere mv_X13_isHere obM_0 rfl rfl rfl (Nat.le_of_ble_eq_true rfl) (CalI.mono (h57.1 q36) (fun x39 I37 J38 h56 => (g_if_eq dX13_qWordHere_128 rfl (fun q40 => (g_aload_n dX13_qWordHere_134 0 0 rfl rfl (g_aload_n dX13_qWordHere_135 0 0 rfl rfl (g_getP dX13_qWordHere_136 fl_X13_233 rfl obM_0 rfl (g_callvI dX13_qWordHere_139 ml_X13_280 md_X13_isHere mv_X13_isHere obM_0 rfl rfl rfl (Nat.le_of_ble_eq_true rfl) (CalI.mono (h56.1 q40) (fun x43 I41 J42 h55 => (g_if_eq dX13_qWordHere_142 rfl (fun q44 => (g_aload_n dX13_qWordHere_148 0 0 rfl rfl (g_aload_n dX13_qWordHere_149 0 0 rfl rfl (g_getP dX13_qWordHere_150 fl_X13_236 rfl obM_0 rfl (g_callvI dX13_qWordHere_153 ml_X13_280 md_X13_isHere mv_X13_isHere obM_0 rfl rfl rfl (Nat.le_of_ble_eq_true rfl) (CalI.mono (h55.1 q44) (fun x47 I45 J46 h54 => (g_if_eq dX13_qWordHere_156 rfl (fun q48 => (g_aload_n dX13_qWordHere_162 0 0 rfl rfl (g_aload_n dX13_qWordHere_163 0 0 rfl rfl (g_getP dX13_qWordHere_164 fl_X13_239 rfl obM_0 rfl (g_callvI dX13_qWordHere_167 ml_X13_280 md_X13_isHere mv_X13_isHere obM_0 rfl rfl rfl (Nat.le_of_ble_eq_true rfl) (CalI.mono (h54.1 q48) (fun x51 I49 J50 h53 => (g_if_eq dX13_qWordHere_170 rfl (fun q52 => (g_iconst dX13_qWordHere_176 kc_n1 (g_ireturn dX13_qWordHere_177 rfl ⟨_, rfl, (h53.1 q52)⟩))) (fun q52 => (g_bipush dX13_qWordHere_173 kb_12 (g_ireturn dX13_qWordHere_175 rfl ⟨_, rfl, (h53.2 q52)⟩))))))))))) (fun q48 => (g_bipush dX13_qWordHere_159 kb_11 (g_ireturn dX13_qWordHere_161 rfl ⟨_, rfl, (h54.2 q48)⟩))))))))))) (fun q44 => (g_bipush dX13_qWordHere_145 kb_10 (g_ireturn dX13_qWordHere_147 rfl ⟨_, rfl, (h55.2 q44)⟩))))))))))) (fun q40 => (g_bipush dX13_qWordHere_131 kb_9 (g_ireturn dX13_qWordHere_133 rfl ⟨_, rfl, (h56.2 q40)⟩))))))))))) (fun q36 => (g_bipush dX13_qWordHere_117 kb_8 (g_ireturn dX13_qWordHere_119 rfl ⟨_, rfl, (h57.2 q36)⟩))))))))))) (fun q32 => (g_bipush dX13_qWordHere_103 kb_7 (g_ireturn dX13_qWordHere_105 rfl ⟨_, rfl, (h58.2 q32)⟩))))))))))) (fun q28 => (g_bipush dX13_qWordHere_89 kb_6 (g_ireturn dX13_qWordHere_91 rfl ⟨_, rfl, (h59.2 q28)⟩))))))))))) (fun q24 => (g_iconst dX13_qWordHere_76 kc_5 (g_ireturn dX13_qWordHere_77 rfl ⟨_, rfl, (h60.2 q24)⟩))))))))))) (fun q20 => (g_iconst dX13_qWordHere_63 kc_4 (g_ireturn dX13_qWordHere_64 rfl ⟨_, rfl, (h61.2 q20)⟩))))))))))) (fun q16 => (g_iconst dX13_qWordHere_50 kc_3 (g_ireturn dX13_qWordHere_51 rfl ⟨_, rfl, (h62.2 q16)⟩))))))))))) (fun q12 => (g_iconst dX13_qWordHere_37 kc_2 (g_ireturn dX13_qWordHere_38 rfl ⟨_, rfl, (h63.2 q12)⟩))))))))))) (fun q8 => (g_iconst dX13_qWordHere_24 kc_1 (g_ireturn dX13_qWordHere_25 rfl ⟨_, rfl, (h64.2 q8)⟩))))))))))) (fun q4 => (g_iconst dX13_qWordHere_11 kc_0 (g_ireturn dX13_qWordHere_12 rfl ⟨_, rfl, (h65.2 q4)⟩))))))))))
theorem dX13_isAllowed_0 : decode cX13_isAllowed 0 = .ok (.iload_n 1, 1) := by decide +kernel
theorem dX13_isAllowed_1 : decode cX13_isAllowed 1 = .ok (.iconst 4, 1) := by decide +kernel
theorem dX13_isAllowed_2 : decode cX13_isAllowed 2 = .ok (.if_icmp .lt 53, 3) := by decide +kernel
theorem dX13_isAllowed_5 : decode cX13_isAllowed 5 = .ok (.aload_n 0, 1) := by decide +kernel
theorem dX13_isAllowed_6 : decode cX13_isAllowed 6 = .ok (.getfield 312, 3) := by decide +kernel
theorem dX13_isAllowed_9 : decode cX13_isAllowed 9 = .ok (.ifCond .ne 12, 3) := by decide +kernel
theorem dX13_isAllowed_12 : decode cX13_isAllowed 12 = .ok (.iload_n 1, 1) := by decide +kernel
theorem dX13_isAllowed_13 : decode cX13_isAllowed 13 = .ok (.bipush 7, 2) := by decide +kernel
theorem dX13_isAllowed_15 : decode cX13_isAllowed 15 = .ok (.if_icmp .ge 44, 3) := by decide +kernel
theorem dX13_isAllowed_18 : decode cX13_isAllowed 18 = .ok (.goto 37, 3) := by decide +kernel
theorem dX13_isAllowed_21 : decode cX13_isAllowed 21 = .ok (.aload_n 0, 1) := by decide +kernel
theorem dX13_isAllowed_22 : decode cX13_isAllowed 22 = .ok (.getfield 312, 3) := by decide +kernel
theorem dX13_isAllowed_25 : decode cX13_isAllowed 25 = .ok (.iconst 1, 1) := by decide +kernel
theorem dX13_isAllowed_26 : decode cX13_isAllowed 26 = .ok (.if_icmp .ne 18, 3) := by decide +kernel
theorem dX13_isAllowed_29 : decode cX13_isAllowed 29 = .ok (.iload_n 1, 1) := by decide +kernel
theorem dX13_isAllowed_30 : decode cX13_isAllowed 30 = .ok (.bipush 7, 2) := by decide +kernel
theorem dX13_isAllowed_32 : decode cX13_isAllowed 32 = .ok (.if_icmp .eq 23, 3) := by decide +kernel
theorem dX13_isAllowed_35 : decode cX13_isAllowed 35 = .ok (.iload_n 1, 1) := by decide +kernel
theorem dX13_isAllowed_36 : decode cX13_isAllowed 36 = .ok (.bipush 8, 2) := by decide +kernel
theorem dX13_isAllowed_38 : decode cX13_isAllowed 38 = .ok (.if_icmp .ne 21, 3) := by decide +kernel
theorem dX13_isAllowed_41 : decode cX13_isAllowed 41 = .ok (.goto 14, 3) := by decide +kernel
theorem dX13_isAllowed_44 : decode cX13_isAllowed 44 = .ok (.iload_n 1, 1) := by decide +kernel
theorem dX13_isAllowed_45 : decode cX13_isAllowed 45 = .ok (.iconst 4, 1) := by decide +kernel
theorem dX13_isAllowed_46 : decode cX13_isAllowed 46 = .ok (.if_icmp .eq 9, 3) := by decide +kernel
theorem dX13_isAllowed_49 : decode cX13_isAllowed 49 = .ok (.iload_n 1, 1) := by decide +kernel
theorem dX13_isAllowed_50 : decode cX13_isAllowed 50 = .ok (.bipush 6, 2) := by decide +kernel
theorem dX13_isAllowed_52 : decode cX13_isAllowed 52 = .ok (.if_icmp .le 7, 3) := by decide +kernel
theorem dX13_isAllowed_55 : decode cX13_isAllowed 55 = .ok (.iconst 1, 1) := by decide +kernel
theorem dX13_isAllowed_56 : decode cX13_isAllowed 56 = .ok (.goto 4, 3) := by decide +kernel
theorem dX13_isAllowed_59 : decode cX13_isAllowed 59 = .ok (.iconst 0, 1) := by decide +kernel
theorem dX13_isAllowed_60 : decode cX13_isAllowed 60 = .ok (.ireturn, 1) := by decide +kernel
theorem bX13_isAllowed_0 {d : Nat}  {v1 : Int32} {I : Ii} {J : Jj} {K : KI}
    (h : ((v1 < 4) → (K (1) I J)) ∧ ((¬ v1 < 4) → (((¬ (I 0 52) = 0) → (((¬ (I 0 52) = 1) → (((v1 = 4) → (K (1) I J)) ∧ ((¬ v1 = 4) → (((v1 ≤ 6) → (K (0) I J)) ∧ ((¬ v1 ≤ 6) → (K (1) I J)))))) ∧ (((I 0 52) = 1) → (((v1 = 7) → (K (1) I J)) ∧ ((¬ v1 = 7) → (((¬ v1 = 8) → (K (0) I J)) ∧ ((v1 = 8) → (K (1) I J)))))))) ∧ (((I 0 52) = 0) → (((7 ≤ v1) → (K (0) I J)) ∧ ((¬ 7 ≤ v1) → (K (1) I J))))))) :
    GoI wM d mX13_isAllowed 0 [(0, .ref (0)), (1, .int (v1))] [] I J K :=
  (g_iload_n dX13_isAllowed_0 1 1 rfl rfl (g_iconst dX13_isAllowed_1 kc_4 (g_icmp_lt dX13_isAllowed_2 rfl (fun q1 => (g_iconst dX13_isAllowed_55 kc_1 (g_goto dX13_isAllowed_56 rfl (g_zreturn dX13_isAllowed_60 rfl (narZ (by decide)) ⟨_, rfl, (h.1 q1)⟩)))) (fun q1 => (g_aload_n dX13_isAllowed_5 0 0 rfl rfl (g_getI dX13_isAllowed_6 fl_X13_312 rfl obM_0 (g_if_ne dX13_isAllowed_9 rfl (fun q2 => (g_aload_n dX13_isAllowed_21 0 0 rfl rfl (g_getI dX13_isAllowed_22 fl_X13_312 rfl obM_0 (g_iconst dX13_isAllowed_25 kc_1 (g_icmp_ne dX13_isAllowed_26 rfl (fun q3 => (g_iload_n dX13_isAllowed_44 1 1 rfl rfl (g_iconst dX13_isAllowed_45 kc_4 (g_icmp_eq dX13_isAllowed_46 rfl (fun q4 => (g_iconst dX13_isAllowed_55 kc_1 (g_goto dX13_isAllowed_56 rfl (g_zreturn dX13_isAllowed_60 rfl (narZ (by decide)) ⟨_, rfl, ((((h.2 q1).1 q2).1 q3).1 q4)⟩)))) (fun q4 => (g_iload_n dX13_isAllowed_49 1 1 rfl rfl (g_bipush dX13_isAllowed_50 kb_6 (g_icmp_le dX13_isAllowed_52 rfl (fun q5 => (g_iconst dX13_isAllowed_59 kc_0 (g_zreturn dX13_isAllowed_60 rfl (narZ (by decide)) ⟨_, rfl, (((((h.2 q1).1 q2).1 q3).2 q4).1 q5)⟩))) (fun q5 => (g_iconst dX13_isAllowed_55 kc_1 (g_goto dX13_isAllowed_56 rfl (g_zreturn dX13_isAllowed_60 rfl (narZ (by decide)) ⟨_, rfl, (((((h.2 q1).1 q2).1 q3).2 q4).2 q5)⟩)))))))))))) (fun q3 => (g_iload_n dX13_isAllowed_29 1 1 rfl rfl (g_bipush dX13_isAllowed_30 kb_7 (g_icmp_eq dX13_isAllowed_32 rfl (fun q6 => (g_iconst dX13_isAllowed_55 kc_1 (g_goto dX13_isAllowed_56 rfl (g_zreturn dX13_isAllowed_60 rfl (narZ (by decide)) ⟨_, rfl, ((((h.2 q1).1 q2).2 q3).1 q6)⟩)))) (fun q6 => (g_iload_n dX13_isAllowed_35 1 1 rfl rfl (g_bipush dX13_isAllowed_36 kb_8 (g_icmp_ne dX13_isAllowed_38 rfl (fun q7 => (g_iconst dX13_isAllowed_59 kc_0 (g_zreturn dX13_isAllowed_60 rfl (narZ (by decide)) ⟨_, rfl, (((((h.2 q1).1 q2).2 q3).2 q6).1 q7)⟩))) (fun q7 => (g_goto dX13_isAllowed_41 rfl (g_iconst dX13_isAllowed_55 kc_1 (g_goto dX13_isAllowed_56 rfl (g_zreturn dX13_isAllowed_60 rfl (narZ (by decide)) ⟨_, rfl, (((((h.2 q1).1 q2).2 q3).2 q6).2 q7)⟩)))))))))))))))))) (fun q2 => (g_iload_n dX13_isAllowed_12 1 1 rfl rfl (g_bipush dX13_isAllowed_13 kb_7 (g_icmp_ge dX13_isAllowed_15 rfl (fun q8 => (g_iconst dX13_isAllowed_59 kc_0 (g_zreturn dX13_isAllowed_60 rfl (narZ (by decide)) ⟨_, rfl, (((h.2 q1).2 q2).1 q8)⟩))) (fun q8 => (g_goto dX13_isAllowed_18 rfl (g_iconst dX13_isAllowed_55 kc_1 (g_goto dX13_isAllowed_56 rfl (g_zreturn dX13_isAllowed_60 rfl (narZ (by decide)) ⟨_, rfl, (((h.2 q1).2 q2).2 q8)⟩))))))))))))))))
theorem dX13_asksSign_0 : decode cX13_asksSign 0 = .ok (.aload_n 0, 1) := by decide +kernel
theorem dX13_asksSign_1 : decode cX13_asksSign 1 = .ok (.getfield 257, 3) := by decide +kernel
theorem dX13_asksSign_4 : decode cX13_asksSign 4 = .ok (.ifCond .ne 20, 3) := by decide +kernel
theorem dX13_asksSign_7 : decode cX13_asksSign 7 = .ok (.aload_n 0, 1) := by decide +kernel
theorem dX13_asksSign_8 : decode cX13_asksSign 8 = .ok (.iload_n 1, 1) := by decide +kernel
theorem dX13_asksSign_9 : decode cX13_asksSign 9 = .ok (.invokevirtual 291, 3) := by decide +kernel
theorem dX13_asksSign_12 : decode cX13_asksSign 12 = .ok (.ifCond .ne 12, 3) := by decide +kernel
theorem dX13_asksSign_15 : decode cX13_asksSign 15 = .ok (.aload_n 0, 1) := by decide +kernel
theorem dX13_asksSign_16 : decode cX13_asksSign 16 = .ok (.iconst 1, 1) := by decide +kernel
theorem dX13_asksSign_17 : decode cX13_asksSign 17 = .ok (.aload_n 0, 1) := by decide +kernel
theorem dX13_asksSign_18 : decode cX13_asksSign 18 = .ok (.getfield 263, 3) := by decide +kernel
theorem dX13_asksSign_21 : decode cX13_asksSign 21 = .ok (.invokevirtual 287, 3) := by decide +kernel
theorem dX13_asksSign_24 : decode cX13_asksSign 24 = .ok (.return_, 1) := by decide +kernel
theorem bX13_asksSign_0 {d : Nat}  {v1 : Int32} {I : Ii} {J : Jj} {K : KV}
    (h : ((¬ (I 0 5) = 0) → (K I J)) ∧ (((I 0 5) = 0) → (CalI wM d mX13_takesSign [.ref (0), .int (v1)] I J (fun x4 I2 J3 => (((¬ x4 = 0) → (K I2 J3)) ∧ ((x4 = 0) → (CalV wM d mX13_fail [.ref (0), .int (1), .int (I2 0 2)] I2 J3 (fun I6 J7 => (K I6 J7))))))))) :
    GoV wM (d + 1) mX13_asksSign 0 [(0, .ref (0)), (1, .int (v1))] [] I J K :=
  (g_aload_n dX13_asksSign_0 0 0 rfl rfl (g_getI dX13_asksSign_1 fl_X13_257 rfl obM_0 (g_if_ne dX13_asksSign_4 rfl (fun q1 => (g_return dX13_asksSign_24 rfl ⟨rfl, (h.1 q1)⟩)) (fun q1 => (g_aload_n dX13_asksSign_7 0 0 rfl rfl (g_iload_n dX13_asksSign_8 1 1 rfl rfl (g_callvI dX13_asksSign_9 ml_X13_291 md_X13_takesSign mv_X13_takesSign obM_0 rfl rfl rfl (Nat.le_of_ble_eq_true rfl) (CalI.mono (h.2 q1) (fun x4 I2 J3 h9 => (g_if_ne dX13_asksSign_12 rfl (fun q5 => (g_return dX13_asksSign_24 rfl ⟨rfl, (h9.1 q5)⟩)) (fun q5 => (g_aload_n dX13_asksSign_15 0 0 rfl rfl (g_iconst dX13_asksSign_16 kc_1 (g_aload_n dX13_asksSign_17 0 0 rfl rfl (g_getI dX13_asksSign_18 fl_X13_263 rfl obM_0 (g_callvV dX13_asksSign_21 ml_X13_287 md_X13_fail mv_X13_fail obM_0 rfl rfl rfl (Nat.le_of_ble_eq_true rfl) (CalV.mono (h9.2 q5) (fun I6 J7 h8 => (g_return dX13_asksSign_24 rfl ⟨rfl, h8⟩)))))))))))))))))))
theorem dX13_takesSign_0 : decode cX13_takesSign 0 = .ok (.aload_n 0, 1) := by decide +kernel
theorem dX13_takesSign_1 : decode cX13_takesSign 1 = .ok (.getfield 257, 3) := by decide +kernel
theorem dX13_takesSign_4 : decode cX13_takesSign 4 = .ok (.ifCond .ne 11, 3) := by decide +kernel
theorem dX13_takesSign_7 : decode cX13_takesSign 7 = .ok (.aload_n 0, 1) := by decide +kernel
theorem dX13_takesSign_8 : decode cX13_takesSign 8 = .ok (.invokevirtual 269, 3) := by decide +kernel
theorem dX13_takesSign_11 : decode cX13_takesSign 11 = .ok (.iload_n 1, 1) := by decide +kernel
theorem dX13_takesSign_12 : decode cX13_takesSign 12 = .ok (.if_icmp .eq 5, 3) := by decide +kernel
theorem dX13_takesSign_15 : decode cX13_takesSign 15 = .ok (.iconst 0, 1) := by decide +kernel
theorem dX13_takesSign_16 : decode cX13_takesSign 16 = .ok (.ireturn, 1) := by decide +kernel
theorem dX13_takesSign_17 : decode cX13_takesSign 17 = .ok (.aload_n 0, 1) := by decide +kernel
theorem dX13_takesSign_18 : decode cX13_takesSign 18 = .ok (.dup, 1) := by decide +kernel
theorem dX13_takesSign_19 : decode cX13_takesSign 19 = .ok (.getfield 263, 3) := by decide +kernel
theorem dX13_takesSign_22 : decode cX13_takesSign 22 = .ok (.iconst 1, 1) := by decide +kernel
theorem dX13_takesSign_23 : decode cX13_takesSign 23 = .ok (.iadd, 1) := by decide +kernel
theorem dX13_takesSign_24 : decode cX13_takesSign 24 = .ok (.putfield 263, 3) := by decide +kernel
theorem dX13_takesSign_27 : decode cX13_takesSign 27 = .ok (.iconst 1, 1) := by decide +kernel
theorem dX13_takesSign_28 : decode cX13_takesSign 28 = .ok (.ireturn, 1) := by decide +kernel
theorem bX13_takesSign_0 {d : Nat}  {v1 : Int32} {I : Ii} {J : Jj} {K : KI}
    (h : ((¬ (I 0 5) = 0) → (K (0) I J)) ∧ (((I 0 5) = 0) → (CalI wM d mX13_look [.ref (0)] I J (fun x4 I2 J3 => (((x4 = v1) → (K (1) (u2 I2 0 2 ((I2 0 2) + 1)) J3)) ∧ ((¬ x4 = v1) → (K (0) I2 J3))))))) :
    GoI wM (d + 1) mX13_takesSign 0 [(0, .ref (0)), (1, .int (v1))] [] I J K :=
  (g_aload_n dX13_takesSign_0 0 0 rfl rfl (g_getI dX13_takesSign_1 fl_X13_257 rfl obM_0 (g_if_ne dX13_takesSign_4 rfl (fun q1 => (g_iconst dX13_takesSign_15 kc_0 (g_zreturn dX13_takesSign_16 rfl (narZ (by decide)) ⟨_, rfl, (h.1 q1)⟩))) (fun q1 => (g_aload_n dX13_takesSign_7 0 0 rfl rfl (g_callvI dX13_takesSign_8 ml_X13_269 md_X13_look mv_X13_look obM_0 rfl rfl rfl (Nat.le_of_ble_eq_true rfl) (CalI.mono (h.2 q1) (fun x4 I2 J3 h7 => (g_iload_n dX13_takesSign_11 1 1 rfl rfl (g_icmp_eq dX13_takesSign_12 rfl (fun q5 => (g_aload_n dX13_takesSign_17 0 0 rfl rfl (g_dup dX13_takesSign_18 rfl (g_getI dX13_takesSign_19 fl_X13_263 rfl obM_0 (g_iconst dX13_takesSign_22 kc_1 (g_iadd dX13_takesSign_23 (g_putI dX13_takesSign_24 fl_X13_263 rfl rfl obM_0 (g_iconst dX13_takesSign_27 kc_1 (g_zreturn dX13_takesSign_28 rfl (narZ (by decide)) ⟨_, rfl, (h7.1 q5)⟩))))))))) (fun q5 => (g_iconst dX13_takesSign_15 kc_0 (g_zreturn dX13_takesSign_16 rfl (narZ (by decide)) ⟨_, rfl, (h7.2 q5)⟩)))))))))))))
theorem dX13_qAsksWord_0 : decode cX13_qAsksWord 0 = .ok (.iload_n 1, 1) := by decide +kernel
theorem dX13_qAsksWord_1 : decode cX13_qAsksWord 1 = .ok (.tableswitch 195 0 11 #[63, 74, 85, 96, 107, 118, 129, 140, 151, 162, 173, 184], 63) := by decide +kernel
theorem dX13_qAsksWord_64 : decode cX13_qAsksWord 64 = .ok (.aload_n 0, 1) := by decide +kernel
theorem dX13_qAsksWord_65 : decode cX13_qAsksWord 65 = .ok (.aload_n 0, 1) := by decide +kernel
theorem dX13_qAsksWord_66 : decode cX13_qAsksWord 66 = .ok (.getfield 203, 3) := by decide +kernel
theorem dX13_qAsksWord_69 : decode cX13_qAsksWord 69 = .ok (.invokevirtual 330, 3) := by decide +kernel
theorem dX13_qAsksWord_72 : decode cX13_qAsksWord 72 = .ok (.goto 132, 3) := by decide +kernel
theorem dX13_qAsksWord_75 : decode cX13_qAsksWord 75 = .ok (.aload_n 0, 1) := by decide +kernel
theorem dX13_qAsksWord_76 : decode cX13_qAsksWord 76 = .ok (.aload_n 0, 1) := by decide +kernel
theorem dX13_qAsksWord_77 : decode cX13_qAsksWord 77 = .ok (.getfield 206, 3) := by decide +kernel
theorem dX13_qAsksWord_80 : decode cX13_qAsksWord 80 = .ok (.invokevirtual 330, 3) := by decide +kernel
theorem dX13_qAsksWord_83 : decode cX13_qAsksWord 83 = .ok (.goto 121, 3) := by decide +kernel
theorem dX13_qAsksWord_86 : decode cX13_qAsksWord 86 = .ok (.aload_n 0, 1) := by decide +kernel
theorem dX13_qAsksWord_87 : decode cX13_qAsksWord 87 = .ok (.aload_n 0, 1) := by decide +kernel
theorem dX13_qAsksWord_88 : decode cX13_qAsksWord 88 = .ok (.getfield 209, 3) := by decide +kernel
theorem dX13_qAsksWord_91 : decode cX13_qAsksWord 91 = .ok (.invokevirtual 330, 3) := by decide +kernel
theorem dX13_qAsksWord_94 : decode cX13_qAsksWord 94 = .ok (.goto 110, 3) := by decide +kernel
theorem dX13_qAsksWord_97 : decode cX13_qAsksWord 97 = .ok (.aload_n 0, 1) := by decide +kernel
theorem dX13_qAsksWord_98 : decode cX13_qAsksWord 98 = .ok (.aload_n 0, 1) := by decide +kernel
theorem dX13_qAsksWord_99 : decode cX13_qAsksWord 99 = .ok (.getfield 212, 3) := by decide +kernel
theorem dX13_qAsksWord_102 : decode cX13_qAsksWord 102 = .ok (.invokevirtual 330, 3) := by decide +kernel
theorem dX13_qAsksWord_105 : decode cX13_qAsksWord 105 = .ok (.goto 99, 3) := by decide +kernel
theorem dX13_qAsksWord_108 : decode cX13_qAsksWord 108 = .ok (.aload_n 0, 1) := by decide +kernel
theorem dX13_qAsksWord_109 : decode cX13_qAsksWord 109 = .ok (.aload_n 0, 1) := by decide +kernel
theorem dX13_qAsksWord_110 : decode cX13_qAsksWord 110 = .ok (.getfield 215, 3) := by decide +kernel
theorem dX13_qAsksWord_113 : decode cX13_qAsksWord 113 = .ok (.invokevirtual 330, 3) := by decide +kernel
theorem dX13_qAsksWord_116 : decode cX13_qAsksWord 116 = .ok (.goto 88, 3) := by decide +kernel
theorem dX13_qAsksWord_119 : decode cX13_qAsksWord 119 = .ok (.aload_n 0, 1) := by decide +kernel
theorem dX13_qAsksWord_120 : decode cX13_qAsksWord 120 = .ok (.aload_n 0, 1) := by decide +kernel
theorem dX13_qAsksWord_121 : decode cX13_qAsksWord 121 = .ok (.getfield 218, 3) := by decide +kernel
theorem dX13_qAsksWord_124 : decode cX13_qAsksWord 124 = .ok (.invokevirtual 330, 3) := by decide +kernel
theorem dX13_qAsksWord_127 : decode cX13_qAsksWord 127 = .ok (.goto 77, 3) := by decide +kernel
theorem dX13_qAsksWord_130 : decode cX13_qAsksWord 130 = .ok (.aload_n 0, 1) := by decide +kernel
theorem dX13_qAsksWord_131 : decode cX13_qAsksWord 131 = .ok (.aload_n 0, 1) := by decide +kernel
theorem dX13_qAsksWord_132 : decode cX13_qAsksWord 132 = .ok (.getfield 221, 3) := by decide +kernel
theorem dX13_qAsksWord_135 : decode cX13_qAsksWord 135 = .ok (.invokevirtual 330, 3) := by decide +kernel
theorem dX13_qAsksWord_138 : decode cX13_qAsksWord 138 = .ok (.goto 66, 3) := by decide +kernel
theorem dX13_qAsksWord_141 : decode cX13_qAsksWord 141 = .ok (.aload_n 0, 1) := by decide +kernel
theorem dX13_qAsksWord_142 : decode cX13_qAsksWord 142 = .ok (.aload_n 0, 1) := by decide +kernel
theorem dX13_qAsksWord_143 : decode cX13_qAsksWord 143 = .ok (.getfield 224, 3) := by decide +kernel
theorem dX13_qAsksWord_146 : decode cX13_qAsksWord 146 = .ok (.invokevirtual 330, 3) := by decide +kernel
theorem dX13_qAsksWord_149 : decode cX13_qAsksWord 149 = .ok (.goto 55, 3) := by decide +kernel
theorem dX13_qAsksWord_152 : decode cX13_qAsksWord 152 = .ok (.aload_n 0, 1) := by decide +kernel
theorem dX13_qAsksWord_153 : decode cX13_qAsksWord 153 = .ok (.aload_n 0, 1) := by decide +kernel
theorem dX13_qAsksWord_154 : decode cX13_qAsksWord 154 = .ok (.getfield 227, 3) := by decide +kernel
theorem dX13_qAsksWord_157 : decode cX13_qAsksWord 157 = .ok (.invokevirtual 330, 3) := by decide +kernel
theorem dX13_qAsksWord_160 : decode cX13_qAsksWord 160 = .ok (.goto 44, 3) := by decide +kernel
theorem dX13_qAsksWord_163 : decode cX13_qAsksWord 163 = .ok (.aload_n 0, 1) := by decide +kernel
theorem dX13_qAsksWord_164 : decode cX13_qAsksWord 164 = .ok (.aload_n 0, 1) := by decide +kernel
theorem dX13_qAsksWord_165 : decode cX13_qAsksWord 165 = .ok (.getfield 230, 3) := by decide +kernel
theorem dX13_qAsksWord_168 : decode cX13_qAsksWord 168 = .ok (.invokevirtual 330, 3) := by decide +kernel
theorem dX13_qAsksWord_171 : decode cX13_qAsksWord 171 = .ok (.goto 33, 3) := by decide +kernel
theorem dX13_qAsksWord_174 : decode cX13_qAsksWord 174 = .ok (.aload_n 0, 1) := by decide +kernel
theorem dX13_qAsksWord_175 : decode cX13_qAsksWord 175 = .ok (.aload_n 0, 1) := by decide +kernel
theorem dX13_qAsksWord_176 : decode cX13_qAsksWord 176 = .ok (.getfield 233, 3) := by decide +kernel
theorem dX13_qAsksWord_179 : decode cX13_qAsksWord 179 = .ok (.invokevirtual 330, 3) := by decide +kernel
theorem dX13_qAsksWord_182 : decode cX13_qAsksWord 182 = .ok (.goto 22, 3) := by decide +kernel
theorem dX13_qAsksWord_185 : decode cX13_qAsksWord 185 = .ok (.aload_n 0, 1) := by decide +kernel
theorem dX13_qAsksWord_186 : decode cX13_qAsksWord 186 = .ok (.aload_n 0, 1) := by decide +kernel
theorem dX13_qAsksWord_187 : decode cX13_qAsksWord 187 = .ok (.getfield 236, 3) := by decide +kernel
theorem dX13_qAsksWord_190 : decode cX13_qAsksWord 190 = .ok (.invokevirtual 330, 3) := by decide +kernel
theorem dX13_qAsksWord_193 : decode cX13_qAsksWord 193 = .ok (.goto 11, 3) := by decide +kernel
theorem dX13_qAsksWord_196 : decode cX13_qAsksWord 196 = .ok (.aload_n 0, 1) := by decide +kernel
theorem dX13_qAsksWord_197 : decode cX13_qAsksWord 197 = .ok (.aload_n 0, 1) := by decide +kernel
theorem dX13_qAsksWord_198 : decode cX13_qAsksWord 198 = .ok (.getfield 239, 3) := by decide +kernel
theorem dX13_qAsksWord_201 : decode cX13_qAsksWord 201 = .ok (.invokevirtual 330, 3) := by decide +kernel
theorem dX13_qAsksWord_204 : decode cX13_qAsksWord 204 = .ok (.return_, 1) := by decide +kernel
theorem bX13_qAsksWord_0 {d : Nat}  {v1 : Int32} {I : Ii} {J : Jj} {K : KV}
    (h : ((v1) = 0 → (CalV wM d mX13_asks [.ref (0), .ref (62)] I J (fun I1 J2 => (K I1 J2)))) ∧ ((v1) = 1 → (CalV wM d mX13_asks [.ref (0), .ref (63)] I J (fun I4 J5 => (K I4 J5)))) ∧ ((v1) = 2 → (CalV wM d mX13_asks [.ref (0), .ref (64)] I J (fun I7 J8 => (K I7 J8)))) ∧ ((v1) = 3 → (CalV wM d mX13_asks [.ref (0), .ref (65)] I J (fun I10 J11 => (K I10 J11)))) ∧ ((v1) = 4 → (CalV wM d mX13_asks [.ref (0), .ref (66)] I J (fun I13 J14 => (K I13 J14)))) ∧ ((v1) = 5 → (CalV wM d mX13_asks [.ref (0), .ref (67)] I J (fun I16 J17 => (K I16 J17)))) ∧ ((v1) = 6 → (CalV wM d mX13_asks [.ref (0), .ref (68)] I J (fun I19 J20 => (K I19 J20)))) ∧ ((v1) = 7 → (CalV wM d mX13_asks [.ref (0), .ref (69)] I J (fun I22 J23 => (K I22 J23)))) ∧ ((v1) = 8 → (CalV wM d mX13_asks [.ref (0), .ref (70)] I J (fun I25 J26 => (K I25 J26)))) ∧ ((v1) = 9 → (CalV wM d mX13_asks [.ref (0), .ref (71)] I J (fun I28 J29 => (K I28 J29)))) ∧ ((v1) = 10 → (CalV wM d mX13_asks [.ref (0), .ref (72)] I J (fun I31 J32 => (K I31 J32)))) ∧ ((v1) = 11 → (CalV wM d mX13_asks [.ref (0), .ref (73)] I J (fun I34 J35 => (K I34 J35)))) ∧ (¬ (v1) = 0 → ¬ (v1) = 1 → ¬ (v1) = 2 → ¬ (v1) = 3 → ¬ (v1) = 4 → ¬ (v1) = 5 → ¬ (v1) = 6 → ¬ (v1) = 7 → ¬ (v1) = 8 → ¬ (v1) = 9 → ¬ (v1) = 10 → ¬ (v1) = 11 → (CalV wM d mX13_asks [.ref (0), .ref (74)] I J (fun I37 J38 => (K I37 J38))))) :
    GoV wM (d + 1) mX13_qAsksWord 0 [(0, .ref (0)), (1, .int (v1))] [] I J K :=
  (g_iload_n dX13_qAsksWord_0 1 1 rfl rfl (by
      by_cases q1_0 : (v1) = 0
      · exact g_tableIn (off := 63) dX13_qAsksWord_1 (by rw [q1_0]; decide) (by rw [q1_0]; decide) (by rw [q1_0]; rfl) rfl (g_aload_n dX13_qAsksWord_64 0 0 rfl rfl (g_aload_n dX13_qAsksWord_65 0 0 rfl rfl (g_getP dX13_qAsksWord_66 fl_X13_203 rfl obM_0 rfl (g_callvV dX13_qAsksWord_69 ml_X13_330 md_X13_asks mv_X13_asks obM_0 rfl rfl rfl (Nat.le_of_ble_eq_true rfl) (CalV.mono (h.1 q1_0) (fun I1 J2 h3 => (g_goto dX13_qAsksWord_72 rfl (g_return dX13_qAsksWord_204 rfl ⟨rfl, h3⟩))))))))
      by_cases q1_1 : (v1) = 1
      · exact g_tableIn (off := 74) dX13_qAsksWord_1 (by rw [q1_1]; decide) (by rw [q1_1]; decide) (by rw [q1_1]; rfl) rfl (g_aload_n dX13_qAsksWord_75 0 0 rfl rfl (g_aload_n dX13_qAsksWord_76 0 0 rfl rfl (g_getP dX13_qAsksWord_77 fl_X13_206 rfl obM_0 rfl (g_callvV dX13_qAsksWord_80 ml_X13_330 md_X13_asks mv_X13_asks obM_0 rfl rfl rfl (Nat.le_of_ble_eq_true rfl) (CalV.mono (h.2.1 q1_1) (fun I4 J5 h6 => (g_goto dX13_qAsksWord_83 rfl (g_return dX13_qAsksWord_204 rfl ⟨rfl, h6⟩))))))))
      by_cases q1_2 : (v1) = 2
      · exact g_tableIn (off := 85) dX13_qAsksWord_1 (by rw [q1_2]; decide) (by rw [q1_2]; decide) (by rw [q1_2]; rfl) rfl (g_aload_n dX13_qAsksWord_86 0 0 rfl rfl (g_aload_n dX13_qAsksWord_87 0 0 rfl rfl (g_getP dX13_qAsksWord_88 fl_X13_209 rfl obM_0 rfl (g_callvV dX13_qAsksWord_91 ml_X13_330 md_X13_asks mv_X13_asks obM_0 rfl rfl rfl (Nat.le_of_ble_eq_true rfl) (CalV.mono (h.2.2.1 q1_2) (fun I7 J8 h9 => (g_goto dX13_qAsksWord_94 rfl (g_return dX13_qAsksWord_204 rfl ⟨rfl, h9⟩))))))))
      by_cases q1_3 : (v1) = 3
      · exact g_tableIn (off := 96) dX13_qAsksWord_1 (by rw [q1_3]; decide) (by rw [q1_3]; decide) (by rw [q1_3]; rfl) rfl (g_aload_n dX13_qAsksWord_97 0 0 rfl rfl (g_aload_n dX13_qAsksWord_98 0 0 rfl rfl (g_getP dX13_qAsksWord_99 fl_X13_212 rfl obM_0 rfl (g_callvV dX13_qAsksWord_102 ml_X13_330 md_X13_asks mv_X13_asks obM_0 rfl rfl rfl (Nat.le_of_ble_eq_true rfl) (CalV.mono (h.2.2.2.1 q1_3) (fun I10 J11 h12 => (g_goto dX13_qAsksWord_105 rfl (g_return dX13_qAsksWord_204 rfl ⟨rfl, h12⟩))))))))
      by_cases q1_4 : (v1) = 4
      · exact g_tableIn (off := 107) dX13_qAsksWord_1 (by rw [q1_4]; decide) (by rw [q1_4]; decide) (by rw [q1_4]; rfl) rfl (g_aload_n dX13_qAsksWord_108 0 0 rfl rfl (g_aload_n dX13_qAsksWord_109 0 0 rfl rfl (g_getP dX13_qAsksWord_110 fl_X13_215 rfl obM_0 rfl (g_callvV dX13_qAsksWord_113 ml_X13_330 md_X13_asks mv_X13_asks obM_0 rfl rfl rfl (Nat.le_of_ble_eq_true rfl) (CalV.mono (h.2.2.2.2.1 q1_4) (fun I13 J14 h15 => (g_goto dX13_qAsksWord_116 rfl (g_return dX13_qAsksWord_204 rfl ⟨rfl, h15⟩))))))))
      by_cases q1_5 : (v1) = 5
      · exact g_tableIn (off := 118) dX13_qAsksWord_1 (by rw [q1_5]; decide) (by rw [q1_5]; decide) (by rw [q1_5]; rfl) rfl (g_aload_n dX13_qAsksWord_119 0 0 rfl rfl (g_aload_n dX13_qAsksWord_120 0 0 rfl rfl (g_getP dX13_qAsksWord_121 fl_X13_218 rfl obM_0 rfl (g_callvV dX13_qAsksWord_124 ml_X13_330 md_X13_asks mv_X13_asks obM_0 rfl rfl rfl (Nat.le_of_ble_eq_true rfl) (CalV.mono (h.2.2.2.2.2.1 q1_5) (fun I16 J17 h18 => (g_goto dX13_qAsksWord_127 rfl (g_return dX13_qAsksWord_204 rfl ⟨rfl, h18⟩))))))))
      by_cases q1_6 : (v1) = 6
      · exact g_tableIn (off := 129) dX13_qAsksWord_1 (by rw [q1_6]; decide) (by rw [q1_6]; decide) (by rw [q1_6]; rfl) rfl (g_aload_n dX13_qAsksWord_130 0 0 rfl rfl (g_aload_n dX13_qAsksWord_131 0 0 rfl rfl (g_getP dX13_qAsksWord_132 fl_X13_221 rfl obM_0 rfl (g_callvV dX13_qAsksWord_135 ml_X13_330 md_X13_asks mv_X13_asks obM_0 rfl rfl rfl (Nat.le_of_ble_eq_true rfl) (CalV.mono (h.2.2.2.2.2.2.1 q1_6) (fun I19 J20 h21 => (g_goto dX13_qAsksWord_138 rfl (g_return dX13_qAsksWord_204 rfl ⟨rfl, h21⟩))))))))
      by_cases q1_7 : (v1) = 7
      · exact g_tableIn (off := 140) dX13_qAsksWord_1 (by rw [q1_7]; decide) (by rw [q1_7]; decide) (by rw [q1_7]; rfl) rfl (g_aload_n dX13_qAsksWord_141 0 0 rfl rfl (g_aload_n dX13_qAsksWord_142 0 0 rfl rfl (g_getP dX13_qAsksWord_143 fl_X13_224 rfl obM_0 rfl (g_callvV dX13_qAsksWord_146 ml_X13_330 md_X13_asks mv_X13_asks obM_0 rfl rfl rfl (Nat.le_of_ble_eq_true rfl) (CalV.mono (h.2.2.2.2.2.2.2.1 q1_7) (fun I22 J23 h24 => (g_goto dX13_qAsksWord_149 rfl (g_return dX13_qAsksWord_204 rfl ⟨rfl, h24⟩))))))))
      by_cases q1_8 : (v1) = 8
      · exact g_tableIn (off := 151) dX13_qAsksWord_1 (by rw [q1_8]; decide) (by rw [q1_8]; decide) (by rw [q1_8]; rfl) rfl (g_aload_n dX13_qAsksWord_152 0 0 rfl rfl (g_aload_n dX13_qAsksWord_153 0 0 rfl rfl (g_getP dX13_qAsksWord_154 fl_X13_227 rfl obM_0 rfl (g_callvV dX13_qAsksWord_157 ml_X13_330 md_X13_asks mv_X13_asks obM_0 rfl rfl rfl (Nat.le_of_ble_eq_true rfl) (CalV.mono (h.2.2.2.2.2.2.2.2.1 q1_8) (fun I25 J26 h27 => (g_goto dX13_qAsksWord_160 rfl (g_return dX13_qAsksWord_204 rfl ⟨rfl, h27⟩))))))))
      by_cases q1_9 : (v1) = 9
      · exact g_tableIn (off := 162) dX13_qAsksWord_1 (by rw [q1_9]; decide) (by rw [q1_9]; decide) (by rw [q1_9]; rfl) rfl (g_aload_n dX13_qAsksWord_163 0 0 rfl rfl (g_aload_n dX13_qAsksWord_164 0 0 rfl rfl (g_getP dX13_qAsksWord_165 fl_X13_230 rfl obM_0 rfl (g_callvV dX13_qAsksWord_168 ml_X13_330 md_X13_asks mv_X13_asks obM_0 rfl rfl rfl (Nat.le_of_ble_eq_true rfl) (CalV.mono (h.2.2.2.2.2.2.2.2.2.1 q1_9) (fun I28 J29 h30 => (g_goto dX13_qAsksWord_171 rfl (g_return dX13_qAsksWord_204 rfl ⟨rfl, h30⟩))))))))
      by_cases q1_10 : (v1) = 10
      · exact g_tableIn (off := 173) dX13_qAsksWord_1 (by rw [q1_10]; decide) (by rw [q1_10]; decide) (by rw [q1_10]; rfl) rfl (g_aload_n dX13_qAsksWord_174 0 0 rfl rfl (g_aload_n dX13_qAsksWord_175 0 0 rfl rfl (g_getP dX13_qAsksWord_176 fl_X13_233 rfl obM_0 rfl (g_callvV dX13_qAsksWord_179 ml_X13_330 md_X13_asks mv_X13_asks obM_0 rfl rfl rfl (Nat.le_of_ble_eq_true rfl) (CalV.mono (h.2.2.2.2.2.2.2.2.2.2.1 q1_10) (fun I31 J32 h33 => (g_goto dX13_qAsksWord_182 rfl (g_return dX13_qAsksWord_204 rfl ⟨rfl, h33⟩))))))))
      by_cases q1_11 : (v1) = 11
      · exact g_tableIn (off := 184) dX13_qAsksWord_1 (by rw [q1_11]; decide) (by rw [q1_11]; decide) (by rw [q1_11]; rfl) rfl (g_aload_n dX13_qAsksWord_185 0 0 rfl rfl (g_aload_n dX13_qAsksWord_186 0 0 rfl rfl (g_getP dX13_qAsksWord_187 fl_X13_236 rfl obM_0 rfl (g_callvV dX13_qAsksWord_190 ml_X13_330 md_X13_asks mv_X13_asks obM_0 rfl rfl rfl (Nat.le_of_ble_eq_true rfl) (CalV.mono (h.2.2.2.2.2.2.2.2.2.2.2.1 q1_11) (fun I34 J35 h36 => (g_goto dX13_qAsksWord_193 rfl (g_return dX13_qAsksWord_204 rfl ⟨rfl, h36⟩))))))))
      have e1_0 : (v1).toInt ≠ 0 := fun e => q1_0 (Int32.toInt_inj.mp e)
      have e1_1 : (v1).toInt ≠ 1 := fun e => q1_1 (Int32.toInt_inj.mp e)
      have e1_2 : (v1).toInt ≠ 2 := fun e => q1_2 (Int32.toInt_inj.mp e)
      have e1_3 : (v1).toInt ≠ 3 := fun e => q1_3 (Int32.toInt_inj.mp e)
      have e1_4 : (v1).toInt ≠ 4 := fun e => q1_4 (Int32.toInt_inj.mp e)
      have e1_5 : (v1).toInt ≠ 5 := fun e => q1_5 (Int32.toInt_inj.mp e)
      have e1_6 : (v1).toInt ≠ 6 := fun e => q1_6 (Int32.toInt_inj.mp e)
      have e1_7 : (v1).toInt ≠ 7 := fun e => q1_7 (Int32.toInt_inj.mp e)
      have e1_8 : (v1).toInt ≠ 8 := fun e => q1_8 (Int32.toInt_inj.mp e)
      have e1_9 : (v1).toInt ≠ 9 := fun e => q1_9 (Int32.toInt_inj.mp e)
      have e1_10 : (v1).toInt ≠ 10 := fun e => q1_10 (Int32.toInt_inj.mp e)
      have e1_11 : (v1).toInt ≠ 11 := fun e => q1_11 (Int32.toInt_inj.mp e)
      exact g_tableOut dX13_qAsksWord_1 (by omega) rfl (g_aload_n dX13_qAsksWord_196 0 0 rfl rfl (g_aload_n dX13_qAsksWord_197 0 0 rfl rfl (g_getP dX13_qAsksWord_198 fl_X13_239 rfl obM_0 rfl (g_callvV dX13_qAsksWord_201 ml_X13_330 md_X13_asks mv_X13_asks obM_0 rfl rfl rfl (Nat.le_of_ble_eq_true rfl) (CalV.mono (h.2.2.2.2.2.2.2.2.2.2.2.2 q1_0 q1_1 q1_2 q1_3 q1_4 q1_5 q1_6 q1_7 q1_8 q1_9 q1_10 q1_11) (fun I37 J38 h39 => (g_return dX13_qAsksWord_204 rfl ⟨rfl, h39⟩)))))))))
theorem dX13_qEndsPart_0 : decode cX13_qEndsPart 0 = .ok (.aload_n 0, 1) := by decide +kernel
theorem dX13_qEndsPart_1 : decode cX13_qEndsPart 1 = .ok (.getfield 257, 3) := by decide +kernel
theorem dX13_qEndsPart_4 : decode cX13_qEndsPart 4 = .ok (.ifCond .ne 47, 3) := by decide +kernel
theorem dX13_qEndsPart_7 : decode cX13_qEndsPart 7 = .ok (.aload_n 0, 1) := by decide +kernel
theorem dX13_qEndsPart_8 : decode cX13_qEndsPart 8 = .ok (.getfield 345, 3) := by decide +kernel
theorem dX13_qEndsPart_11 : decode cX13_qEndsPart 11 = .ok (.aload_n 0, 1) := by decide +kernel
theorem dX13_qEndsPart_12 : decode cX13_qEndsPart 12 = .ok (.getfield 351, 3) := by decide +kernel
theorem dX13_qEndsPart_15 : decode cX13_qEndsPart 15 = .ok (.if_icmp .le 36, 3) := by decide +kernel
theorem dX13_qEndsPart_18 : decode cX13_qEndsPart 18 = .ok (.aload_n 0, 1) := by decide +kernel
theorem dX13_qEndsPart_19 : decode cX13_qEndsPart 19 = .ok (.getfield 245, 3) := by decide +kernel
theorem dX13_qEndsPart_22 : decode cX13_qEndsPart 22 = .ok (.aload_n 0, 1) := by decide +kernel
theorem dX13_qEndsPart_23 : decode cX13_qEndsPart 23 = .ok (.getfield 345, 3) := by decide +kernel
theorem dX13_qEndsPart_26 : decode cX13_qEndsPart 26 = .ok (.iconst 1, 1) := by decide +kernel
theorem dX13_qEndsPart_27 : decode cX13_qEndsPart 27 = .ok (.isub, 1) := by decide +kernel
theorem dX13_qEndsPart_28 : decode cX13_qEndsPart 28 = .ok (.iaload, 1) := by decide +kernel
theorem dX13_qEndsPart_29 : decode cX13_qEndsPart 29 = .ok (.bipush 60, 2) := by decide +kernel
theorem dX13_qEndsPart_31 : decode cX13_qEndsPart 31 = .ok (.if_icmp .lt 20, 3) := by decide +kernel
theorem dX13_qEndsPart_34 : decode cX13_qEndsPart 34 = .ok (.aload_n 0, 1) := by decide +kernel
theorem dX13_qEndsPart_35 : decode cX13_qEndsPart 35 = .ok (.dup, 1) := by decide +kernel
theorem dX13_qEndsPart_36 : decode cX13_qEndsPart 36 = .ok (.getfield 348, 3) := by decide +kernel
theorem dX13_qEndsPart_39 : decode cX13_qEndsPart 39 = .ok (.iconst 1, 1) := by decide +kernel
theorem dX13_qEndsPart_40 : decode cX13_qEndsPart 40 = .ok (.isub, 1) := by decide +kernel
theorem dX13_qEndsPart_41 : decode cX13_qEndsPart 41 = .ok (.putfield 348, 3) := by decide +kernel
theorem dX13_qEndsPart_44 : decode cX13_qEndsPart 44 = .ok (.aload_n 0, 1) := by decide +kernel
theorem dX13_qEndsPart_45 : decode cX13_qEndsPart 45 = .ok (.invokevirtual 567, 3) := by decide +kernel
theorem dX13_qEndsPart_48 : decode cX13_qEndsPart 48 = .ok (.goto (-48), 3) := by decide +kernel
theorem dX13_qEndsPart_51 : decode cX13_qEndsPart 51 = .ok (.return_, 1) := by decide +kernel
theorem bX13_qEndsPart_0 {d : Nat}   {I : Ii} {J : Jj} {K : KV}
    (h : ((¬ (I 0 5) = 0) → (K I J)) ∧ (((I 0 5) = 0) → ((((I 0 96) ≤ (I 0 98)) → (K I J)) ∧ ((¬ (I 0 96) ≤ (I 0 98)) → (vp_in ((I 0 96) - 1) 1700 ∧ ((((I 76 ((I 0 96) - 1).toNatClampNeg) < 60) → (K I J)) ∧ ((¬ (I 76 ((I 0 96) - 1).toNatClampNeg) < 60) → (CalV wM d mX13_qDrops [.ref (0)] (u2 I 0 97 ((I 0 97) - 1)) J (fun I6 J7 => (GoV wM (d + 1) mX13_qEndsPart 0 [(0, .ref (0))] [] I6 J7 K)))))))))) :
    GoV wM (d + 1) mX13_qEndsPart 0 [(0, .ref (0))] [] I J K :=
  (g_aload_n dX13_qEndsPart_0 0 0 rfl rfl (g_getI dX13_qEndsPart_1 fl_X13_257 rfl obM_0 (g_if_ne dX13_qEndsPart_4 rfl (fun q1 => (g_return dX13_qEndsPart_51 rfl ⟨rfl, (h.1 q1)⟩)) (fun q1 => (g_aload_n dX13_qEndsPart_7 0 0 rfl rfl (g_getI dX13_qEndsPart_8 fl_X13_345 rfl obM_0 (g_aload_n dX13_qEndsPart_11 0 0 rfl rfl (g_getI dX13_qEndsPart_12 fl_X13_351 rfl obM_0 (g_icmp_le dX13_qEndsPart_15 rfl (fun q2 => (g_return dX13_qEndsPart_51 rfl ⟨rfl, ((h.2 q1).1 q2)⟩)) (fun q2 => (g_aload_n dX13_qEndsPart_18 0 0 rfl rfl (g_getP dX13_qEndsPart_19 fl_X13_245 rfl obM_0 rfl (g_aload_n dX13_qEndsPart_22 0 0 rfl rfl (g_getI dX13_qEndsPart_23 fl_X13_345 rfl obM_0 (g_iconst dX13_qEndsPart_26 kc_1 (g_isub dX13_qEndsPart_27 (have b3 := ((h.2 q1).2 q2).1; g_iald dX13_qEndsPart_28 arM_76 b3 (g_bipush dX13_qEndsPart_29 kb_60 (g_icmp_lt dX13_qEndsPart_31 rfl (fun q4 => (g_return dX13_qEndsPart_51 rfl ⟨rfl, (((h.2 q1).2 q2).2.1 q4)⟩)) (fun q4 => (g_aload_n dX13_qEndsPart_34 0 0 rfl rfl (g_dup dX13_qEndsPart_35 rfl (g_getI dX13_qEndsPart_36 fl_X13_348 rfl obM_0 (g_iconst dX13_qEndsPart_39 kc_1 (g_isub dX13_qEndsPart_40 (g_putI dX13_qEndsPart_41 fl_X13_348 rfl rfl obM_0 (g_aload_n dX13_qEndsPart_44 0 0 rfl rfl (g_callvV dX13_qEndsPart_45 ml_X13_567 md_X13_qDrops mv_X13_qDrops obM_0 rfl rfl rfl (Nat.le_of_ble_eq_true rfl) (CalV.mono (((h.2 q1).2 q2).2.2 q4) (fun I6 J7 h8 => (g_goto dX13_qEndsPart_48 rfl h8)))))))))))))))))))))))))))))))
theorem dX13_qDrops_0 : decode cX13_qDrops 0 = .ok (.aload_n 0, 1) := by decide +kernel
theorem dX13_qDrops_1 : decode cX13_qDrops 1 = .ok (.dup, 1) := by decide +kernel
theorem dX13_qDrops_2 : decode cX13_qDrops 2 = .ok (.getfield 345, 3) := by decide +kernel
theorem dX13_qDrops_5 : decode cX13_qDrops 5 = .ok (.iconst 1, 1) := by decide +kernel
theorem dX13_qDrops_6 : decode cX13_qDrops 6 = .ok (.isub, 1) := by decide +kernel
theorem dX13_qDrops_7 : decode cX13_qDrops 7 = .ok (.putfield 345, 3) := by decide +kernel
theorem dX13_qDrops_10 : decode cX13_qDrops 10 = .ok (.aload_n 0, 1) := by decide +kernel
theorem dX13_qDrops_11 : decode cX13_qDrops 11 = .ok (.aload_n 0, 1) := by decide +kernel
theorem dX13_qDrops_12 : decode cX13_qDrops 12 = .ok (.getfield 245, 3) := by decide +kernel
theorem dX13_qDrops_15 : decode cX13_qDrops 15 = .ok (.aload_n 0, 1) := by decide +kernel
theorem dX13_qDrops_16 : decode cX13_qDrops 16 = .ok (.getfield 345, 3) := by decide +kernel
theorem dX13_qDrops_19 : decode cX13_qDrops 19 = .ok (.iaload, 1) := by decide +kernel
theorem dX13_qDrops_20 : decode cX13_qDrops 20 = .ok (.invokevirtual 561, 3) := by decide +kernel
theorem dX13_qDrops_23 : decode cX13_qDrops 23 = .ok (.return_, 1) := by decide +kernel
theorem bX13_qDrops_0 {d : Nat}   {I : Ii} {J : Jj} {K : KV}
    (h : ∀ I1 : Ii, I1 = u2 I 0 96 ((I 0 96) - 1) → (vp_in (I1 0 96) 1700 ∧ (CalV wM d mX13_qCode [.ref (0), .int (I1 76 (I1 0 96).toNatClampNeg)] I1 J (fun I3 J4 => (K I3 J4))))) :
    GoV wM (d + 1) mX13_qDrops 0 [(0, .ref (0))] [] I J K :=
  (g_aload_n dX13_qDrops_0 0 0 rfl rfl (g_dup dX13_qDrops_1 rfl (g_getI dX13_qDrops_2 fl_X13_345 rfl obM_0 (g_iconst dX13_qDrops_5 kc_1 (g_isub dX13_qDrops_6 (g_putI dX13_qDrops_7 fl_X13_345 rfl rfl obM_0 (g_aload_n dX13_qDrops_10 0 0 rfl rfl (g_aload_n dX13_qDrops_11 0 0 rfl rfl (g_getP dX13_qDrops_12 fl_X13_245 rfl obM_0 rfl (g_aload_n dX13_qDrops_15 0 0 rfl rfl (g_getI dX13_qDrops_16 fl_X13_345 rfl obM_0 (have b2 := (h _ rfl).1; g_iald dX13_qDrops_19 arM_76 b2 (g_callvV dX13_qDrops_20 ml_X13_561 md_X13_qCode mv_X13_qCode obM_0 rfl rfl rfl (Nat.le_of_ble_eq_true rfl) (CalV.mono (h _ rfl).2 (fun I3 J4 h5 => (g_return dX13_qDrops_23 rfl ⟨rfl, h5⟩))))))))))))))))
theorem dX13_qGoesOn_0 : decode cX13_qGoesOn 0 = .ok (.aload_n 0, 1) := by decide +kernel
theorem dX13_qGoesOn_1 : decode cX13_qGoesOn 1 = .ok (.getfield 257, 3) := by decide +kernel
theorem dX13_qGoesOn_4 : decode cX13_qGoesOn 4 = .ok (.ifCond .ne 118, 3) := by decide +kernel
theorem dX13_qGoesOn_7 : decode cX13_qGoesOn 7 = .ok (.aload_n 0, 1) := by decide +kernel
theorem dX13_qGoesOn_8 : decode cX13_qGoesOn 8 = .ok (.invokevirtual 269, 3) := by decide +kernel
theorem dX13_qGoesOn_11 : decode cX13_qGoesOn 11 = .ok (.bipush 41, 2) := by decide +kernel
theorem dX13_qGoesOn_13 : decode cX13_qGoesOn 13 = .ok (.if_icmp .ne 109, 3) := by decide +kernel
theorem dX13_qGoesOn_16 : decode cX13_qGoesOn 16 = .ok (.aload_n 0, 1) := by decide +kernel
theorem dX13_qGoesOn_17 : decode cX13_qGoesOn 17 = .ok (.invokevirtual 588, 3) := by decide +kernel
theorem dX13_qGoesOn_20 : decode cX13_qGoesOn 20 = .ok (.bipush 20, 2) := by decide +kernel
theorem dX13_qGoesOn_22 : decode cX13_qGoesOn 22 = .ok (.if_icmp .eq 21, 3) := by decide +kernel
theorem dX13_qGoesOn_25 : decode cX13_qGoesOn 25 = .ok (.aload_n 0, 1) := by decide +kernel
theorem dX13_qGoesOn_26 : decode cX13_qGoesOn 26 = .ok (.invokevirtual 588, 3) := by decide +kernel
theorem dX13_qGoesOn_29 : decode cX13_qGoesOn 29 = .ok (.bipush 23, 2) := by decide +kernel
theorem dX13_qGoesOn_31 : decode cX13_qGoesOn 31 = .ok (.if_icmp .eq 12, 3) := by decide +kernel
theorem dX13_qGoesOn_34 : decode cX13_qGoesOn 34 = .ok (.aload_n 0, 1) := by decide +kernel
theorem dX13_qGoesOn_35 : decode cX13_qGoesOn 35 = .ok (.invokevirtual 588, 3) := by decide +kernel
theorem dX13_qGoesOn_38 : decode cX13_qGoesOn 38 = .ok (.bipush 24, 2) := by decide +kernel
theorem dX13_qGoesOn_40 : decode cX13_qGoesOn 40 = .ok (.if_icmp .ne 82, 3) := by decide +kernel
theorem dX13_qGoesOn_43 : decode cX13_qGoesOn 43 = .ok (.aload_n 0, 1) := by decide +kernel
theorem dX13_qGoesOn_44 : decode cX13_qGoesOn 44 = .ok (.dup, 1) := by decide +kernel
theorem dX13_qGoesOn_45 : decode cX13_qGoesOn 45 = .ok (.getfield 263, 3) := by decide +kernel
theorem dX13_qGoesOn_48 : decode cX13_qGoesOn 48 = .ok (.iconst 1, 1) := by decide +kernel
theorem dX13_qGoesOn_49 : decode cX13_qGoesOn 49 = .ok (.iadd, 1) := by decide +kernel
theorem dX13_qGoesOn_50 : decode cX13_qGoesOn 50 = .ok (.putfield 263, 3) := by decide +kernel
theorem dX13_qGoesOn_53 : decode cX13_qGoesOn 53 = .ok (.aload_n 0, 1) := by decide +kernel
theorem dX13_qGoesOn_54 : decode cX13_qGoesOn 54 = .ok (.invokevirtual 591, 3) := by decide +kernel
theorem dX13_qGoesOn_57 : decode cX13_qGoesOn 57 = .ok (.aload_n 0, 1) := by decide +kernel
theorem dX13_qGoesOn_58 : decode cX13_qGoesOn 58 = .ok (.dup, 1) := by decide +kernel
theorem dX13_qGoesOn_59 : decode cX13_qGoesOn 59 = .ok (.getfield 345, 3) := by decide +kernel
theorem dX13_qGoesOn_62 : decode cX13_qGoesOn 62 = .ok (.iconst 1, 1) := by decide +kernel
theorem dX13_qGoesOn_63 : decode cX13_qGoesOn 63 = .ok (.isub, 1) := by decide +kernel
theorem dX13_qGoesOn_64 : decode cX13_qGoesOn 64 = .ok (.putfield 345, 3) := by decide +kernel
theorem dX13_qGoesOn_67 : decode cX13_qGoesOn 67 = .ok (.aload_n 0, 1) := by decide +kernel
theorem dX13_qGoesOn_68 : decode cX13_qGoesOn 68 = .ok (.dup, 1) := by decide +kernel
theorem dX13_qGoesOn_69 : decode cX13_qGoesOn 69 = .ok (.getfield 348, 3) := by decide +kernel
theorem dX13_qGoesOn_72 : decode cX13_qGoesOn 72 = .ok (.iconst 1, 1) := by decide +kernel
theorem dX13_qGoesOn_73 : decode cX13_qGoesOn 73 = .ok (.isub, 1) := by decide +kernel
theorem dX13_qGoesOn_74 : decode cX13_qGoesOn 74 = .ok (.putfield 348, 3) := by decide +kernel
theorem dX13_qGoesOn_77 : decode cX13_qGoesOn 77 = .ok (.aload_n 0, 1) := by decide +kernel
theorem dX13_qGoesOn_78 : decode cX13_qGoesOn 78 = .ok (.getfield 245, 3) := by decide +kernel
theorem dX13_qGoesOn_81 : decode cX13_qGoesOn 81 = .ok (.aload_n 0, 1) := by decide +kernel
theorem dX13_qGoesOn_82 : decode cX13_qGoesOn 82 = .ok (.getfield 345, 3) := by decide +kernel
theorem dX13_qGoesOn_85 : decode cX13_qGoesOn 85 = .ok (.iaload, 1) := by decide +kernel
theorem dX13_qGoesOn_86 : decode cX13_qGoesOn 86 = .ok (.bipush 20, 2) := by decide +kernel
theorem dX13_qGoesOn_88 : decode cX13_qGoesOn 88 = .ok (.if_icmp .eq 27, 3) := by decide +kernel
theorem dX13_qGoesOn_91 : decode cX13_qGoesOn 91 = .ok (.aload_n 0, 1) := by decide +kernel
theorem dX13_qGoesOn_92 : decode cX13_qGoesOn 92 = .ok (.aload_n 0, 1) := by decide +kernel
theorem dX13_qGoesOn_93 : decode cX13_qGoesOn 93 = .ok (.getfield 245, 3) := by decide +kernel
theorem dX13_qGoesOn_96 : decode cX13_qGoesOn 96 = .ok (.aload_n 0, 1) := by decide +kernel
theorem dX13_qGoesOn_97 : decode cX13_qGoesOn 97 = .ok (.getfield 345, 3) := by decide +kernel
theorem dX13_qGoesOn_100 : decode cX13_qGoesOn 100 = .ok (.iaload, 1) := by decide +kernel
theorem dX13_qGoesOn_101 : decode cX13_qGoesOn 101 = .ok (.bipush 23, 2) := by decide +kernel
theorem dX13_qGoesOn_103 : decode cX13_qGoesOn 103 = .ok (.if_icmp .ne 7, 3) := by decide +kernel
theorem dX13_qGoesOn_106 : decode cX13_qGoesOn 106 = .ok (.iconst 5, 1) := by decide +kernel
theorem dX13_qGoesOn_107 : decode cX13_qGoesOn 107 = .ok (.goto 5, 3) := by decide +kernel
theorem dX13_qGoesOn_110 : decode cX13_qGoesOn 110 = .ok (.bipush 6, 2) := by decide +kernel
theorem dX13_qGoesOn_112 : decode cX13_qGoesOn 112 = .ok (.invokevirtual 561, 3) := by decide +kernel
theorem dX13_qGoesOn_115 : decode cX13_qGoesOn 115 = .ok (.aload_n 0, 1) := by decide +kernel
theorem dX13_qGoesOn_116 : decode cX13_qGoesOn 116 = .ok (.invokevirtual 585, 3) := by decide +kernel
theorem dX13_qGoesOn_119 : decode cX13_qGoesOn 119 = .ok (.goto (-119), 3) := by decide +kernel
theorem dX13_qGoesOn_122 : decode cX13_qGoesOn 122 = .ok (.aload_n 0, 1) := by decide +kernel
theorem dX13_qGoesOn_123 : decode cX13_qGoesOn 123 = .ok (.bipush 42, 2) := by decide +kernel
theorem dX13_qGoesOn_125 : decode cX13_qGoesOn 125 = .ok (.invokevirtual 291, 3) := by decide +kernel
theorem dX13_qGoesOn_128 : decode cX13_qGoesOn 128 = .ok (.ifCond .ne 12, 3) := by decide +kernel
theorem dX13_qGoesOn_131 : decode cX13_qGoesOn 131 = .ok (.aload_n 0, 1) := by decide +kernel
theorem dX13_qGoesOn_132 : decode cX13_qGoesOn 132 = .ok (.bipush 47, 2) := by decide +kernel
theorem dX13_qGoesOn_134 : decode cX13_qGoesOn 134 = .ok (.invokevirtual 291, 3) := by decide +kernel
theorem dX13_qGoesOn_137 : decode cX13_qGoesOn 137 = .ok (.ifCond .eq 70, 3) := by decide +kernel
theorem dX13_qGoesOn_140 : decode cX13_qGoesOn 140 = .ok (.aload_n 0, 1) := by decide +kernel
theorem dX13_qGoesOn_141 : decode cX13_qGoesOn 141 = .ok (.getfield 7, 3) := by decide +kernel
theorem dX13_qGoesOn_144 : decode cX13_qGoesOn 144 = .ok (.aload_n 0, 1) := by decide +kernel
theorem dX13_qGoesOn_145 : decode cX13_qGoesOn 145 = .ok (.getfield 263, 3) := by decide +kernel
theorem dX13_qGoesOn_148 : decode cX13_qGoesOn 148 = .ok (.iconst 1, 1) := by decide +kernel
theorem dX13_qGoesOn_149 : decode cX13_qGoesOn 149 = .ok (.isub, 1) := by decide +kernel
theorem dX13_qGoesOn_150 : decode cX13_qGoesOn 150 = .ok (.iaload, 1) := by decide +kernel
theorem dX13_qGoesOn_151 : decode cX13_qGoesOn 151 = .ok (.bipush 42, 2) := by decide +kernel
theorem dX13_qGoesOn_153 : decode cX13_qGoesOn 153 = .ok (.if_icmp .ne 7, 3) := by decide +kernel
theorem dX13_qGoesOn_156 : decode cX13_qGoesOn 156 = .ok (.iconst 3, 1) := by decide +kernel
theorem dX13_qGoesOn_157 : decode cX13_qGoesOn 157 = .ok (.goto 4, 3) := by decide +kernel
theorem dX13_qGoesOn_160 : decode cX13_qGoesOn 160 = .ok (.iconst 4, 1) := by decide +kernel
theorem dX13_qGoesOn_161 : decode cX13_qGoesOn 161 = .ok (.istore_n 1, 1) := by decide +kernel
theorem dX13_qGoesOn_162 : decode cX13_qGoesOn 162 = .ok (.aload_n 0, 1) := by decide +kernel
theorem dX13_qGoesOn_163 : decode cX13_qGoesOn 163 = .ok (.iconst 3, 1) := by decide +kernel
theorem dX13_qGoesOn_164 : decode cX13_qGoesOn 164 = .ok (.invokevirtual 594, 3) := by decide +kernel
theorem dX13_qGoesOn_167 : decode cX13_qGoesOn 167 = .ok (.ifCond .ne 11, 3) := by decide +kernel
theorem dX13_qGoesOn_170 : decode cX13_qGoesOn 170 = .ok (.aload_n 0, 1) := by decide +kernel
theorem dX13_qGoesOn_171 : decode cX13_qGoesOn 171 = .ok (.iconst 4, 1) := by decide +kernel
theorem dX13_qGoesOn_172 : decode cX13_qGoesOn 172 = .ok (.invokevirtual 594, 3) := by decide +kernel
theorem dX13_qGoesOn_175 : decode cX13_qGoesOn 175 = .ok (.ifCond .eq 10, 3) := by decide +kernel
theorem dX13_qGoesOn_178 : decode cX13_qGoesOn 178 = .ok (.aload_n 0, 1) := by decide +kernel
theorem dX13_qGoesOn_179 : decode cX13_qGoesOn 179 = .ok (.invokevirtual 567, 3) := by decide +kernel
theorem dX13_qGoesOn_182 : decode cX13_qGoesOn 182 = .ok (.goto (-20), 3) := by decide +kernel
theorem dX13_qGoesOn_185 : decode cX13_qGoesOn 185 = .ok (.aload_n 0, 1) := by decide +kernel
theorem dX13_qGoesOn_186 : decode cX13_qGoesOn 186 = .ok (.getfield 245, 3) := by decide +kernel
theorem dX13_qGoesOn_189 : decode cX13_qGoesOn 189 = .ok (.aload_n 0, 1) := by decide +kernel
theorem dX13_qGoesOn_190 : decode cX13_qGoesOn 190 = .ok (.getfield 345, 3) := by decide +kernel
theorem dX13_qGoesOn_193 : decode cX13_qGoesOn 193 = .ok (.iload_n 1, 1) := by decide +kernel
theorem dX13_qGoesOn_194 : decode cX13_qGoesOn 194 = .ok (.iastore, 1) := by decide +kernel
theorem dX13_qGoesOn_195 : decode cX13_qGoesOn 195 = .ok (.aload_n 0, 1) := by decide +kernel
theorem dX13_qGoesOn_196 : decode cX13_qGoesOn 196 = .ok (.dup, 1) := by decide +kernel
theorem dX13_qGoesOn_197 : decode cX13_qGoesOn 197 = .ok (.getfield 345, 3) := by decide +kernel
theorem dX13_qGoesOn_200 : decode cX13_qGoesOn 200 = .ok (.iconst 1, 1) := by decide +kernel
theorem dX13_qGoesOn_201 : decode cX13_qGoesOn 201 = .ok (.iadd, 1) := by decide +kernel
theorem dX13_qGoesOn_202 : decode cX13_qGoesOn 202 = .ok (.putfield 345, 3) := by decide +kernel
theorem dX13_qGoesOn_205 : decode cX13_qGoesOn 205 = .ok (.iconst 1, 1) := by decide +kernel
theorem dX13_qGoesOn_206 : decode cX13_qGoesOn 206 = .ok (.ireturn, 1) := by decide +kernel
theorem dX13_qGoesOn_207 : decode cX13_qGoesOn 207 = .ok (.aload_n 0, 1) := by decide +kernel
theorem dX13_qGoesOn_208 : decode cX13_qGoesOn 208 = .ok (.bipush 43, 2) := by decide +kernel
theorem dX13_qGoesOn_210 : decode cX13_qGoesOn 210 = .ok (.invokevirtual 291, 3) := by decide +kernel
theorem dX13_qGoesOn_213 : decode cX13_qGoesOn 213 = .ok (.ifCond .ne 12, 3) := by decide +kernel
theorem dX13_qGoesOn_216 : decode cX13_qGoesOn 216 = .ok (.aload_n 0, 1) := by decide +kernel
theorem dX13_qGoesOn_217 : decode cX13_qGoesOn 217 = .ok (.bipush 45, 2) := by decide +kernel
theorem dX13_qGoesOn_219 : decode cX13_qGoesOn 219 = .ok (.invokevirtual 291, 3) := by decide +kernel
theorem dX13_qGoesOn_222 : decode cX13_qGoesOn 222 = .ok (.ifCond .eq 86, 3) := by decide +kernel
theorem dX13_qGoesOn_225 : decode cX13_qGoesOn 225 = .ok (.aload_n 0, 1) := by decide +kernel
theorem dX13_qGoesOn_226 : decode cX13_qGoesOn 226 = .ok (.getfield 7, 3) := by decide +kernel
theorem dX13_qGoesOn_229 : decode cX13_qGoesOn 229 = .ok (.aload_n 0, 1) := by decide +kernel
theorem dX13_qGoesOn_230 : decode cX13_qGoesOn 230 = .ok (.getfield 263, 3) := by decide +kernel
theorem dX13_qGoesOn_233 : decode cX13_qGoesOn 233 = .ok (.iconst 1, 1) := by decide +kernel
theorem dX13_qGoesOn_234 : decode cX13_qGoesOn 234 = .ok (.isub, 1) := by decide +kernel
theorem dX13_qGoesOn_235 : decode cX13_qGoesOn 235 = .ok (.iaload, 1) := by decide +kernel
theorem dX13_qGoesOn_236 : decode cX13_qGoesOn 236 = .ok (.bipush 43, 2) := by decide +kernel
theorem dX13_qGoesOn_238 : decode cX13_qGoesOn 238 = .ok (.if_icmp .ne 7, 3) := by decide +kernel
theorem dX13_qGoesOn_241 : decode cX13_qGoesOn 241 = .ok (.iconst 1, 1) := by decide +kernel
theorem dX13_qGoesOn_242 : decode cX13_qGoesOn 242 = .ok (.goto 4, 3) := by decide +kernel
theorem dX13_qGoesOn_245 : decode cX13_qGoesOn 245 = .ok (.iconst 2, 1) := by decide +kernel
theorem dX13_qGoesOn_246 : decode cX13_qGoesOn 246 = .ok (.istore_n 1, 1) := by decide +kernel
theorem dX13_qGoesOn_247 : decode cX13_qGoesOn 247 = .ok (.aload_n 0, 1) := by decide +kernel
theorem dX13_qGoesOn_248 : decode cX13_qGoesOn 248 = .ok (.iconst 3, 1) := by decide +kernel
theorem dX13_qGoesOn_249 : decode cX13_qGoesOn 249 = .ok (.invokevirtual 594, 3) := by decide +kernel
theorem dX13_qGoesOn_252 : decode cX13_qGoesOn 252 = .ok (.ifCond .ne 27, 3) := by decide +kernel
theorem dX13_qGoesOn_255 : decode cX13_qGoesOn 255 = .ok (.aload_n 0, 1) := by decide +kernel
theorem dX13_qGoesOn_256 : decode cX13_qGoesOn 256 = .ok (.iconst 4, 1) := by decide +kernel
theorem dX13_qGoesOn_257 : decode cX13_qGoesOn 257 = .ok (.invokevirtual 594, 3) := by decide +kernel
theorem dX13_qGoesOn_260 : decode cX13_qGoesOn 260 = .ok (.ifCond .ne 19, 3) := by decide +kernel
theorem dX13_qGoesOn_263 : decode cX13_qGoesOn 263 = .ok (.aload_n 0, 1) := by decide +kernel
theorem dX13_qGoesOn_264 : decode cX13_qGoesOn 264 = .ok (.iconst 1, 1) := by decide +kernel
theorem dX13_qGoesOn_265 : decode cX13_qGoesOn 265 = .ok (.invokevirtual 594, 3) := by decide +kernel
theorem dX13_qGoesOn_268 : decode cX13_qGoesOn 268 = .ok (.ifCond .ne 11, 3) := by decide +kernel
theorem dX13_qGoesOn_271 : decode cX13_qGoesOn 271 = .ok (.aload_n 0, 1) := by decide +kernel
theorem dX13_qGoesOn_272 : decode cX13_qGoesOn 272 = .ok (.iconst 2, 1) := by decide +kernel
theorem dX13_qGoesOn_273 : decode cX13_qGoesOn 273 = .ok (.invokevirtual 594, 3) := by decide +kernel
theorem dX13_qGoesOn_276 : decode cX13_qGoesOn 276 = .ok (.ifCond .eq 10, 3) := by decide +kernel
theorem dX13_qGoesOn_279 : decode cX13_qGoesOn 279 = .ok (.aload_n 0, 1) := by decide +kernel
theorem dX13_qGoesOn_280 : decode cX13_qGoesOn 280 = .ok (.invokevirtual 567, 3) := by decide +kernel
theorem dX13_qGoesOn_283 : decode cX13_qGoesOn 283 = .ok (.goto (-36), 3) := by decide +kernel
theorem dX13_qGoesOn_286 : decode cX13_qGoesOn 286 = .ok (.aload_n 0, 1) := by decide +kernel
theorem dX13_qGoesOn_287 : decode cX13_qGoesOn 287 = .ok (.getfield 245, 3) := by decide +kernel
theorem dX13_qGoesOn_290 : decode cX13_qGoesOn 290 = .ok (.aload_n 0, 1) := by decide +kernel
theorem dX13_qGoesOn_291 : decode cX13_qGoesOn 291 = .ok (.getfield 345, 3) := by decide +kernel
theorem dX13_qGoesOn_294 : decode cX13_qGoesOn 294 = .ok (.iload_n 1, 1) := by decide +kernel
theorem dX13_qGoesOn_295 : decode cX13_qGoesOn 295 = .ok (.iastore, 1) := by decide +kernel
theorem dX13_qGoesOn_296 : decode cX13_qGoesOn 296 = .ok (.aload_n 0, 1) := by decide +kernel
theorem dX13_qGoesOn_297 : decode cX13_qGoesOn 297 = .ok (.dup, 1) := by decide +kernel
theorem dX13_qGoesOn_298 : decode cX13_qGoesOn 298 = .ok (.getfield 345, 3) := by decide +kernel
theorem dX13_qGoesOn_301 : decode cX13_qGoesOn 301 = .ok (.iconst 1, 1) := by decide +kernel
theorem dX13_qGoesOn_302 : decode cX13_qGoesOn 302 = .ok (.iadd, 1) := by decide +kernel
theorem dX13_qGoesOn_303 : decode cX13_qGoesOn 303 = .ok (.putfield 345, 3) := by decide +kernel
theorem dX13_qGoesOn_306 : decode cX13_qGoesOn 306 = .ok (.iconst 1, 1) := by decide +kernel
theorem dX13_qGoesOn_307 : decode cX13_qGoesOn 307 = .ok (.ireturn, 1) := by decide +kernel
theorem dX13_qGoesOn_308 : decode cX13_qGoesOn 308 = .ok (.aload_n 0, 1) := by decide +kernel
theorem dX13_qGoesOn_309 : decode cX13_qGoesOn 309 = .ok (.invokevirtual 588, 3) := by decide +kernel
theorem dX13_qGoesOn_312 : decode cX13_qGoesOn 312 = .ok (.bipush 21, 2) := by decide +kernel
theorem dX13_qGoesOn_314 : decode cX13_qGoesOn 314 = .ok (.if_icmp .eq 12, 3) := by decide +kernel
theorem dX13_qGoesOn_317 : decode cX13_qGoesOn 317 = .ok (.aload_n 0, 1) := by decide +kernel
theorem dX13_qGoesOn_318 : decode cX13_qGoesOn 318 = .ok (.invokevirtual 588, 3) := by decide +kernel
theorem dX13_qGoesOn_321 : decode cX13_qGoesOn 321 = .ok (.bipush 22, 2) := by decide +kernel
theorem dX13_qGoesOn_323 : decode cX13_qGoesOn 323 = .ok (.if_icmp .ne 39, 3) := by decide +kernel
theorem dX13_qGoesOn_326 : decode cX13_qGoesOn 326 = .ok (.aload_n 0, 1) := by decide +kernel
theorem dX13_qGoesOn_327 : decode cX13_qGoesOn 327 = .ok (.bipush 44, 2) := by decide +kernel
theorem dX13_qGoesOn_329 : decode cX13_qGoesOn 329 = .ok (.invokevirtual 380, 3) := by decide +kernel
theorem dX13_qGoesOn_332 : decode cX13_qGoesOn 332 = .ok (.aload_n 0, 1) := by decide +kernel
theorem dX13_qGoesOn_333 : decode cX13_qGoesOn 333 = .ok (.getfield 257, 3) := by decide +kernel
theorem dX13_qGoesOn_336 : decode cX13_qGoesOn 336 = .ok (.ifCond .eq 5, 3) := by decide +kernel
theorem dX13_qGoesOn_339 : decode cX13_qGoesOn 339 = .ok (.iconst 0, 1) := by decide +kernel
theorem dX13_qGoesOn_340 : decode cX13_qGoesOn 340 = .ok (.ireturn, 1) := by decide +kernel
theorem dX13_qGoesOn_341 : decode cX13_qGoesOn 341 = .ok (.aload_n 0, 1) := by decide +kernel
theorem dX13_qGoesOn_342 : decode cX13_qGoesOn 342 = .ok (.invokevirtual 591, 3) := by decide +kernel
theorem dX13_qGoesOn_345 : decode cX13_qGoesOn 345 = .ok (.aload_n 0, 1) := by decide +kernel
theorem dX13_qGoesOn_346 : decode cX13_qGoesOn 346 = .ok (.getfield 245, 3) := by decide +kernel
theorem dX13_qGoesOn_349 : decode cX13_qGoesOn 349 = .ok (.aload_n 0, 1) := by decide +kernel
theorem dX13_qGoesOn_350 : decode cX13_qGoesOn 350 = .ok (.getfield 345, 3) := by decide +kernel
theorem dX13_qGoesOn_353 : decode cX13_qGoesOn 353 = .ok (.iconst 1, 1) := by decide +kernel
theorem dX13_qGoesOn_354 : decode cX13_qGoesOn 354 = .ok (.isub, 1) := by decide +kernel
theorem dX13_qGoesOn_355 : decode cX13_qGoesOn 355 = .ok (.dup2, 1) := by decide +kernel
theorem dX13_qGoesOn_356 : decode cX13_qGoesOn 356 = .ok (.iaload, 1) := by decide +kernel
theorem dX13_qGoesOn_357 : decode cX13_qGoesOn 357 = .ok (.iconst 2, 1) := by decide +kernel
theorem dX13_qGoesOn_358 : decode cX13_qGoesOn 358 = .ok (.iadd, 1) := by decide +kernel
theorem dX13_qGoesOn_359 : decode cX13_qGoesOn 359 = .ok (.iastore, 1) := by decide +kernel
theorem dX13_qGoesOn_360 : decode cX13_qGoesOn 360 = .ok (.iconst 1, 1) := by decide +kernel
theorem dX13_qGoesOn_361 : decode cX13_qGoesOn 361 = .ok (.ireturn, 1) := by decide +kernel
theorem dX13_qGoesOn_362 : decode cX13_qGoesOn 362 = .ok (.aload_n 0, 1) := by decide +kernel
theorem dX13_qGoesOn_363 : decode cX13_qGoesOn 363 = .ok (.invokevirtual 588, 3) := by decide +kernel
theorem dX13_qGoesOn_366 : decode cX13_qGoesOn 366 = .ok (.iconst (-1), 1) := by decide +kernel
theorem dX13_qGoesOn_367 : decode cX13_qGoesOn 367 = .ok (.if_icmp .eq 19, 3) := by decide +kernel
theorem dX13_qGoesOn_370 : decode cX13_qGoesOn 370 = .ok (.aload_n 0, 1) := by decide +kernel
theorem dX13_qGoesOn_371 : decode cX13_qGoesOn 371 = .ok (.getfield 257, 3) := by decide +kernel
theorem dX13_qGoesOn_374 : decode cX13_qGoesOn 374 = .ok (.ifCond .ne 12, 3) := by decide +kernel
theorem dX13_qGoesOn_377 : decode cX13_qGoesOn 377 = .ok (.aload_n 0, 1) := by decide +kernel
theorem dX13_qGoesOn_378 : decode cX13_qGoesOn 378 = .ok (.iconst 1, 1) := by decide +kernel
theorem dX13_qGoesOn_379 : decode cX13_qGoesOn 379 = .ok (.aload_n 0, 1) := by decide +kernel
theorem dX13_qGoesOn_380 : decode cX13_qGoesOn 380 = .ok (.getfield 263, 3) := by decide +kernel
theorem dX13_qGoesOn_383 : decode cX13_qGoesOn 383 = .ok (.invokevirtual 287, 3) := by decide +kernel
theorem dX13_qGoesOn_386 : decode cX13_qGoesOn 386 = .ok (.iconst 0, 1) := by decide +kernel
theorem dX13_qGoesOn_387 : decode cX13_qGoesOn 387 = .ok (.ireturn, 1) := by decide +kernel
theorem bX13_qGoesOn_0 {d : Nat}   {I : Ii} {J : Jj} {K : KI}
    (h : ((¬ (I 0 5) = 0) → (GoI wM (d + 1) mX13_qGoesOn 122 [(0, .ref (0))] [] I J K)) ∧ (((I 0 5) = 0) → (CalI wM d mX13_look [.ref (0)] I J (fun x4 I2 J3 => (((¬ x4 = 41) → (GoI wM (d + 1) mX13_qGoesOn 122 [(0, .ref (0))] [] I2 J3 K)) ∧ ((x4 = 41) → (CalI wM d mX13_qBracket [.ref (0)] I2 J3 (fun x8 I6 J7 => (((x8 = 20) → (GoI wM (d + 1) mX13_qGoesOn 43 [(0, .ref (0))] [] I6 J7 K)) ∧ ((¬ x8 = 20) → (CalI wM d mX13_qBracket [.ref (0)] I6 J7 (fun x12 I10 J11 => (((x12 = 23) → (GoI wM (d + 1) mX13_qGoesOn 43 [(0, .ref (0))] [] I10 J11 K)) ∧ ((¬ x12 = 23) → (CalI wM d mX13_qBracket [.ref (0)] I10 J11 (fun x16 I14 J15 => (((¬ x16 = 24) → (GoI wM (d + 1) mX13_qGoesOn 122 [(0, .ref (0))] [] I14 J15 K)) ∧ ((x16 = 24) → (GoI wM (d + 1) mX13_qGoesOn 43 [(0, .ref (0))] [] I14 J15 K))))))))))))))))))) :
    GoI wM (d + 1) mX13_qGoesOn 0 [(0, .ref (0))] [] I J K :=
  (g_aload_n dX13_qGoesOn_0 0 0 rfl rfl (g_getI dX13_qGoesOn_1 fl_X13_257 rfl obM_0 (g_if_ne dX13_qGoesOn_4 rfl (fun q1 => (h.1 q1)) (fun q1 => (g_aload_n dX13_qGoesOn_7 0 0 rfl rfl (g_callvI dX13_qGoesOn_8 ml_X13_269 md_X13_look mv_X13_look obM_0 rfl rfl rfl (Nat.le_of_ble_eq_true rfl) (CalI.mono (h.2 q1) (fun x4 I2 J3 h21 => (g_bipush dX13_qGoesOn_11 kb_41 (g_icmp_ne dX13_qGoesOn_13 rfl (fun q5 => (h21.1 q5)) (fun q5 => (g_aload_n dX13_qGoesOn_16 0 0 rfl rfl (g_callvI dX13_qGoesOn_17 ml_X13_588 md_X13_qBracket mv_X13_qBracket obM_0 rfl rfl rfl (Nat.le_of_ble_eq_true rfl) (CalI.mono (h21.2 q5) (fun x8 I6 J7 h20 => (g_bipush dX13_qGoesOn_20 kb_20 (g_icmp_eq dX13_qGoesOn_22 rfl (fun q9 => (h20.1 q9)) (fun q9 => (g_aload_n dX13_qGoesOn_25 0 0 rfl rfl (g_callvI dX13_qGoesOn_26 ml_X13_588 md_X13_qBracket mv_X13_qBracket obM_0 rfl rfl rfl (Nat.le_of_ble_eq_true rfl) (CalI.mono (h20.2 q9) (fun x12 I10 J11 h19 => (g_bipush dX13_qGoesOn_29 kb_23 (g_icmp_eq dX13_qGoesOn_31 rfl (fun q13 => (h19.1 q13)) (fun q13 => (g_aload_n dX13_qGoesOn_34 0 0 rfl rfl (g_callvI dX13_qGoesOn_35 ml_X13_588 md_X13_qBracket mv_X13_qBracket obM_0 rfl rfl rfl (Nat.le_of_ble_eq_true rfl) (CalI.mono (h19.2 q13) (fun x16 I14 J15 h18 => (g_bipush dX13_qGoesOn_38 kb_24 (g_icmp_ne dX13_qGoesOn_40 rfl (fun q17 => (h18.1 q17)) (fun q17 => (h18.2 q17)))))))))))))))))))))))))))))))))
theorem bX13_qGoesOn_122 {d : Nat}   {I : Ii} {J : Jj} {K : KI}
    (h : CalI wM d mX13_takesSign [.ref (0), .int (42)] I J (fun x3 I1 J2 => (((¬ x3 = 0) → (GoI wM (d + 1) mX13_qGoesOn 140 [(0, .ref (0))] [] I1 J2 K)) ∧ ((x3 = 0) → (CalI wM d mX13_takesSign [.ref (0), .int (47)] I1 J2 (fun x7 I5 J6 => (((x7 = 0) → (CalI wM d mX13_takesSign [.ref (0), .int (43)] I5 J6 (fun x11 I9 J10 => (((¬ x11 = 0) → (GoI wM (d + 1) mX13_qGoesOn 225 [(0, .ref (0))] [] I9 J10 K)) ∧ ((x11 = 0) → (CalI wM d mX13_takesSign [.ref (0), .int (45)] I9 J10 (fun x15 I13 J14 => (((x15 = 0) → (CalI wM d mX13_qBracket [.ref (0)] I13 J14 (fun x19 I17 J18 => (((x19 = 21) → (GoI wM (d + 1) mX13_qGoesOn 326 [(0, .ref (0))] [] I17 J18 K)) ∧ ((¬ x19 = 21) → (CalI wM d mX13_qBracket [.ref (0)] I17 J18 (fun x23 I21 J22 => (((¬ x23 = 22) → (CalI wM d mX13_qBracket [.ref (0)] I21 J22 (fun x27 I25 J26 => (((x27 = ((-1))) → (GoI wM (d + 1) mX13_qGoesOn 386 [] [] I25 J26 K)) ∧ ((¬ x27 = ((-1))) → (((¬ (I25 0 5) = 0) → (GoI wM (d + 1) mX13_qGoesOn 386 [] [] I25 J26 K)) ∧ (((I25 0 5) = 0) → (CalV wM d mX13_fail [.ref (0), .int (1), .int (I25 0 2)] I25 J26 (fun I30 J31 => (GoI wM (d + 1) mX13_qGoesOn 386 [] [] I30 J31 K)))))))))) ∧ ((x23 = 22) → (GoI wM (d + 1) mX13_qGoesOn 326 [(0, .ref (0))] [] I21 J22 K)))))))))) ∧ ((¬ x15 = 0) → (GoI wM (d + 1) mX13_qGoesOn 225 [(0, .ref (0))] [] I13 J14 K)))))))))) ∧ ((¬ x7 = 0) → (GoI wM (d + 1) mX13_qGoesOn 140 [(0, .ref (0))] [] I5 J6 K))))))))) :
    GoI wM (d + 1) mX13_qGoesOn 122 [(0, .ref (0))] [] I J K :=
  (g_aload_n dX13_qGoesOn_122 0 0 rfl rfl (g_bipush dX13_qGoesOn_123 kb_42 (g_callvI dX13_qGoesOn_125 ml_X13_291 md_X13_takesSign mv_X13_takesSign obM_0 rfl rfl rfl (Nat.le_of_ble_eq_true rfl) (CalI.mono h (fun x3 I1 J2 h39 => (g_if_ne dX13_qGoesOn_128 rfl (fun q4 => (h39.1 q4)) (fun q4 => (g_aload_n dX13_qGoesOn_131 0 0 rfl rfl (g_bipush dX13_qGoesOn_132 kb_47 (g_callvI dX13_qGoesOn_134 ml_X13_291 md_X13_takesSign mv_X13_takesSign obM_0 rfl rfl rfl (Nat.le_of_ble_eq_true rfl) (CalI.mono (h39.2 q4) (fun x7 I5 J6 h38 => (g_if_eq dX13_qGoesOn_137 rfl (fun q8 => (g_aload_n dX13_qGoesOn_207 0 0 rfl rfl (g_bipush dX13_qGoesOn_208 kb_43 (g_callvI dX13_qGoesOn_210 ml_X13_291 md_X13_takesSign mv_X13_takesSign obM_0 rfl rfl rfl (Nat.le_of_ble_eq_true rfl) (CalI.mono (h38.1 q8) (fun x11 I9 J10 h37 => (g_if_ne dX13_qGoesOn_213 rfl (fun q12 => (h37.1 q12)) (fun q12 => (g_aload_n dX13_qGoesOn_216 0 0 rfl rfl (g_bipush dX13_qGoesOn_217 kb_45 (g_callvI dX13_qGoesOn_219 ml_X13_291 md_X13_takesSign mv_X13_takesSign obM_0 rfl rfl rfl (Nat.le_of_ble_eq_true rfl) (CalI.mono (h37.2 q12) (fun x15 I13 J14 h36 => (g_if_eq dX13_qGoesOn_222 rfl (fun q16 => (g_aload_n dX13_qGoesOn_308 0 0 rfl rfl (g_callvI dX13_qGoesOn_309 ml_X13_588 md_X13_qBracket mv_X13_qBracket obM_0 rfl rfl rfl (Nat.le_of_ble_eq_true rfl) (CalI.mono (h36.1 q16) (fun x19 I17 J18 h35 => (g_bipush dX13_qGoesOn_312 kb_21 (g_icmp_eq dX13_qGoesOn_314 rfl (fun q20 => (h35.1 q20)) (fun q20 => (g_aload_n dX13_qGoesOn_317 0 0 rfl rfl (g_callvI dX13_qGoesOn_318 ml_X13_588 md_X13_qBracket mv_X13_qBracket obM_0 rfl rfl rfl (Nat.le_of_ble_eq_true rfl) (CalI.mono (h35.2 q20) (fun x23 I21 J22 h34 => (g_bipush dX13_qGoesOn_321 kb_22 (g_icmp_ne dX13_qGoesOn_323 rfl (fun q24 => (g_aload_n dX13_qGoesOn_362 0 0 rfl rfl (g_callvI dX13_qGoesOn_363 ml_X13_588 md_X13_qBracket mv_X13_qBracket obM_0 rfl rfl rfl (Nat.le_of_ble_eq_true rfl) (CalI.mono (h34.1 q24) (fun x27 I25 J26 h33 => (g_iconst dX13_qGoesOn_366 kc_n1 (g_icmp_eq dX13_qGoesOn_367 rfl (fun q28 => (g_sub [] rfl (h33.1 q28))) (fun q28 => (g_aload_n dX13_qGoesOn_370 0 0 rfl rfl (g_getI dX13_qGoesOn_371 fl_X13_257 rfl obM_0 (g_if_ne dX13_qGoesOn_374 rfl (fun q29 => (g_sub [] rfl ((h33.2 q28).1 q29))) (fun q29 => (g_aload_n dX13_qGoesOn_377 0 0 rfl rfl (g_iconst dX13_qGoesOn_378 kc_1 (g_aload_n dX13_qGoesOn_379 0 0 rfl rfl (g_getI dX13_qGoesOn_380 fl_X13_263 rfl obM_0 (g_callvV dX13_qGoesOn_383 ml_X13_287 md_X13_fail mv_X13_fail obM_0 rfl rfl rfl (Nat.le_of_ble_eq_true rfl) (CalV.mono ((h33.2 q28).2 q29) (fun I30 J31 h32 => (g_sub [] rfl h32)))))))))))))))))))) (fun q24 => (h34.2 q24)))))))))))))))) (fun q16 => (h36.2 q16)))))))))))))))) (fun q8 => (h38.2 q8)))))))))))))))
theorem bX13_qGoesOn_43 {d : Nat}   {I : Ii} {J : Jj} {K : KI}
    (h : CalV wM d mX13_qDropsToBracket [.ref (0)] (u2 I 0 2 ((I 0 2) + 1)) J (fun I2 J3 => (∀ I4 : Ii, I4 = u2 I2 0 96 ((I2 0 96) - 1) → (∀ I5 : Ii, I5 = u2 I4 0 97 ((I4 0 97) - 1) → (vp_in (I5 0 96) 1700 ∧ ((((I5 76 (I5 0 96).toNatClampNeg) = 20) → (GoI wM (d + 1) mX13_qGoesOn 115 [(0, .ref (0))] [] I5 J3 K)) ∧ ((¬ (I5 76 (I5 0 96).toNatClampNeg) = 20) → (((¬ (I5 76 (I5 0 96).toNatClampNeg) = 23) → (GoI wM (d + 1) mX13_qGoesOn 112 [(0, .ref (0))] [.int (6), .ref (0)] I5 J3 K)) ∧ (((I5 76 (I5 0 96).toNatClampNeg) = 23) → (GoI wM (d + 1) mX13_qGoesOn 112 [(0, .ref (0))] [.int (5), .ref (0)] I5 J3 K)))))))))) :
    GoI wM (d + 1) mX13_qGoesOn 43 [(0, .ref (0))] [] I J K :=
  (g_aload_n dX13_qGoesOn_43 0 0 rfl rfl (g_dup dX13_qGoesOn_44 rfl (g_getI dX13_qGoesOn_45 fl_X13_263 rfl obM_0 (g_iconst dX13_qGoesOn_48 kc_1 (g_iadd dX13_qGoesOn_49 (g_putI dX13_qGoesOn_50 fl_X13_263 rfl rfl obM_0 (g_aload_n dX13_qGoesOn_53 0 0 rfl rfl (g_callvV dX13_qGoesOn_54 ml_X13_591 md_X13_qDropsToBracket mv_X13_qDropsToBracket obM_0 rfl rfl rfl (Nat.le_of_ble_eq_true rfl) (CalV.mono h (fun I2 J3 h9 => (g_aload_n dX13_qGoesOn_57 0 0 rfl rfl (g_dup dX13_qGoesOn_58 rfl (g_getI dX13_qGoesOn_59 fl_X13_345 rfl obM_0 (g_iconst dX13_qGoesOn_62 kc_1 (g_isub dX13_qGoesOn_63 (g_putI dX13_qGoesOn_64 fl_X13_345 rfl rfl obM_0 (g_aload_n dX13_qGoesOn_67 0 0 rfl rfl (g_dup dX13_qGoesOn_68 rfl (g_getI dX13_qGoesOn_69 fl_X13_348 rfl obM_0 (g_iconst dX13_qGoesOn_72 kc_1 (g_isub dX13_qGoesOn_73 (g_putI dX13_qGoesOn_74 fl_X13_348 rfl rfl obM_0 (g_aload_n dX13_qGoesOn_77 0 0 rfl rfl (g_getP dX13_qGoesOn_78 fl_X13_245 rfl obM_0 rfl (g_aload_n dX13_qGoesOn_81 0 0 rfl rfl (g_getI dX13_qGoesOn_82 fl_X13_345 rfl obM_0 (have b6 := ((h9 _ rfl) _ rfl).1; g_iald dX13_qGoesOn_85 arM_76 b6 (g_bipush dX13_qGoesOn_86 kb_20 (g_icmp_eq dX13_qGoesOn_88 rfl (fun q7 => (((h9 _ rfl) _ rfl).2.1 q7)) (fun q7 => (g_aload_n dX13_qGoesOn_91 0 0 rfl rfl (g_aload_n dX13_qGoesOn_92 0 0 rfl rfl (g_getP dX13_qGoesOn_93 fl_X13_245 rfl obM_0 rfl (g_aload_n dX13_qGoesOn_96 0 0 rfl rfl (g_getI dX13_qGoesOn_97 fl_X13_345 rfl obM_0 (g_iald dX13_qGoesOn_100 arM_76 b6 (g_bipush dX13_qGoesOn_101 kb_23 (g_icmp_ne dX13_qGoesOn_103 rfl (fun q8 => (g_bipush dX13_qGoesOn_110 kb_6 ((((h9 _ rfl) _ rfl).2.2 q7).1 q8))) (fun q8 => (g_iconst dX13_qGoesOn_106 kc_5 (g_goto dX13_qGoesOn_107 rfl ((((h9 _ rfl) _ rfl).2.2 q7).2 q8))))))))))))))))))))))))))))))))))))))))))
theorem bX13_qGoesOn_140 {d : Nat}   {I : Ii} {J : Jj} {K : KI}
    (h : vp_in ((I 0 2) - 1) 1600 ∧ (((¬ (I 1 ((I 0 2) - 1).toNatClampNeg) = 42) → (GoI wM (d + 1) mX13_qGoesOn 161 [(0, .ref (0))] [.int (4)] I J K)) ∧ (((I 1 ((I 0 2) - 1).toNatClampNeg) = 42) → (GoI wM (d + 1) mX13_qGoesOn 161 [(0, .ref (0))] [.int (3)] I J K)))) :
    GoI wM (d + 1) mX13_qGoesOn 140 [(0, .ref (0))] [] I J K :=
  (g_aload_n dX13_qGoesOn_140 0 0 rfl rfl (g_getP dX13_qGoesOn_141 fl_X13_7 rfl obM_0 rfl (g_aload_n dX13_qGoesOn_144 0 0 rfl rfl (g_getI dX13_qGoesOn_145 fl_X13_263 rfl obM_0 (g_iconst dX13_qGoesOn_148 kc_1 (g_isub dX13_qGoesOn_149 (have b1 := h.1; g_iald dX13_qGoesOn_150 arM_1 b1 (g_bipush dX13_qGoesOn_151 kb_42 (g_icmp_ne dX13_qGoesOn_153 rfl (fun q2 => (g_iconst dX13_qGoesOn_160 kc_4 (h.2.1 q2))) (fun q2 => (g_iconst dX13_qGoesOn_156 kc_3 (g_goto dX13_qGoesOn_157 rfl (h.2.2 q2)))))))))))))
theorem bX13_qGoesOn_225 {d : Nat}   {I : Ii} {J : Jj} {K : KI}
    (h : vp_in ((I 0 2) - 1) 1600 ∧ (((¬ (I 1 ((I 0 2) - 1).toNatClampNeg) = 43) → (GoI wM (d + 1) mX13_qGoesOn 246 [(0, .ref (0))] [.int (2)] I J K)) ∧ (((I 1 ((I 0 2) - 1).toNatClampNeg) = 43) → (GoI wM (d + 1) mX13_qGoesOn 246 [(0, .ref (0))] [.int (1)] I J K)))) :
    GoI wM (d + 1) mX13_qGoesOn 225 [(0, .ref (0))] [] I J K :=
  (g_aload_n dX13_qGoesOn_225 0 0 rfl rfl (g_getP dX13_qGoesOn_226 fl_X13_7 rfl obM_0 rfl (g_aload_n dX13_qGoesOn_229 0 0 rfl rfl (g_getI dX13_qGoesOn_230 fl_X13_263 rfl obM_0 (g_iconst dX13_qGoesOn_233 kc_1 (g_isub dX13_qGoesOn_234 (have b1 := h.1; g_iald dX13_qGoesOn_235 arM_1 b1 (g_bipush dX13_qGoesOn_236 kb_43 (g_icmp_ne dX13_qGoesOn_238 rfl (fun q2 => (g_iconst dX13_qGoesOn_245 kc_2 (h.2.1 q2))) (fun q2 => (g_iconst dX13_qGoesOn_241 kc_1 (g_goto dX13_qGoesOn_242 rfl (h.2.2 q2)))))))))))))
theorem bX13_qGoesOn_326 {d : Nat}   {I : Ii} {J : Jj} {K : KI}
    (h : CalV wM d mX13_asksSign [.ref (0), .int (44)] I J (fun I1 J2 => ((((I1 0 5) = 0) → (CalV wM d mX13_qDropsToBracket [.ref (0)] I1 J2 (fun I4 J5 => (vp_in ((I4 0 96) - 1) 1700 ∧ (K (1) (u2 I4 76 ((I4 0 96) - 1).toNatClampNeg ((I4 76 ((I4 0 96) - 1).toNatClampNeg) + 2)) J5))))) ∧ ((¬ (I1 0 5) = 0) → (K (0) I1 J2))))) :
    GoI wM (d + 1) mX13_qGoesOn 326 [(0, .ref (0))] [] I J K :=
  (g_aload_n dX13_qGoesOn_326 0 0 rfl rfl (g_bipush dX13_qGoesOn_327 kb_44 (g_callvV dX13_qGoesOn_329 ml_X13_380 md_X13_asksSign mv_X13_asksSign obM_0 rfl rfl rfl (Nat.le_of_ble_eq_true rfl) (CalV.mono h (fun I1 J2 h9 => (g_aload_n dX13_qGoesOn_332 0 0 rfl rfl (g_getI dX13_qGoesOn_333 fl_X13_257 rfl obM_0 (g_if_eq dX13_qGoesOn_336 rfl (fun q3 => (g_aload_n dX13_qGoesOn_341 0 0 rfl rfl (g_callvV dX13_qGoesOn_342 ml_X13_591 md_X13_qDropsToBracket mv_X13_qDropsToBracket obM_0 rfl rfl rfl (Nat.le_of_ble_eq_true rfl) (CalV.mono (h9.1 q3) (fun I4 J5 h8 => (g_aload_n dX13_qGoesOn_345 0 0 rfl rfl (g_getP dX13_qGoesOn_346 fl_X13_245 rfl obM_0 rfl (g_aload_n dX13_qGoesOn_349 0 0 rfl rfl (g_getI dX13_qGoesOn_350 fl_X13_345 rfl obM_0 (g_iconst dX13_qGoesOn_353 kc_1 (g_isub dX13_qGoesOn_354 (g_dup2_11 dX13_qGoesOn_355 rfl rfl (have b6 := h8.1; g_iald dX13_qGoesOn_356 arM_76 b6 (g_iconst dX13_qGoesOn_357 kc_2 (g_iadd dX13_qGoesOn_358 (g_iast dX13_qGoesOn_359 arM_76 b6 (g_iconst dX13_qGoesOn_360 kc_1 (g_zreturn dX13_qGoesOn_361 rfl (narZ (by decide)) ⟨_, rfl, h8.2⟩)))))))))))))))))) (fun q3 => (g_iconst dX13_qGoesOn_339 kc_0 (g_zreturn dX13_qGoesOn_340 rfl (narZ (by decide)) ⟨_, rfl, (h9.2 q3)⟩)))))))))))
theorem bX13_qGoesOn_386 {d : Nat}   {I : Ii} {J : Jj} {K : KI}
    (h : K (0) I J) :
    GoI wM (d + 1) mX13_qGoesOn 386 [] [] I J K :=
  (g_iconst dX13_qGoesOn_386 kc_0 (g_zreturn dX13_qGoesOn_387 rfl (narZ (by decide)) ⟨_, rfl, h⟩))
theorem bX13_qGoesOn_115 {d : Nat}   {I : Ii} {J : Jj} {K : KI}
    (h : CalV wM d mX13_qEndsPart [.ref (0)] I J (fun I1 J2 => (GoI wM (d + 1) mX13_qGoesOn 0 [(0, .ref (0))] [] I1 J2 K))) :
    GoI wM (d + 1) mX13_qGoesOn 115 [(0, .ref (0))] [] I J K :=
  (g_aload_n dX13_qGoesOn_115 0 0 rfl rfl (g_callvV dX13_qGoesOn_116 ml_X13_585 md_X13_qEndsPart mv_X13_qEndsPart obM_0 rfl rfl rfl (Nat.le_of_ble_eq_true rfl) (CalV.mono h (fun I1 J2 h3 => (g_goto dX13_qGoesOn_119 rfl h3)))))
theorem bX13_qGoesOn_112 {d : Nat}  {s0 : Int32} {I : Ii} {J : Jj} {K : KI}
    (h : CalV wM d mX13_qCode [.ref (0), .int (s0)] I J (fun I1 J2 => (GoI wM (d + 1) mX13_qGoesOn 115 [(0, .ref (0))] [] I1 J2 K))) :
    GoI wM (d + 1) mX13_qGoesOn 112 [(0, .ref (0))] [.int (s0), .ref (0)] I J K :=
  (g_callvV dX13_qGoesOn_112 ml_X13_561 md_X13_qCode mv_X13_qCode obM_0 rfl rfl rfl (Nat.le_of_ble_eq_true rfl) (CalV.mono h (fun I1 J2 h3 => h3)))
theorem bX13_qGoesOn_161 {d : Nat}  {s0 : Int32} {I : Ii} {J : Jj} {K : KI}
    (h : GoI wM (d + 1) mX13_qGoesOn 162 [(0, .ref (0)), (1, .int (s0))] [] I J K) :
    GoI wM (d + 1) mX13_qGoesOn 161 [(0, .ref (0))] [.int (s0)] I J K :=
  (g_istore_n dX13_qGoesOn_161 rfl (by decide) rfl (g_sub [1, 0] rfl h))
theorem bX13_qGoesOn_246 {d : Nat}  {s0 : Int32} {I : Ii} {J : Jj} {K : KI}
    (h : GoI wM (d + 1) mX13_qGoesOn 247 [(0, .ref (0)), (1, .int (s0))] [] I J K) :
    GoI wM (d + 1) mX13_qGoesOn 246 [(0, .ref (0))] [.int (s0)] I J K :=
  (g_istore_n dX13_qGoesOn_246 rfl (by decide) rfl (g_sub [1, 0] rfl h))
theorem bX13_qGoesOn_162 {d : Nat}  {v1 : Int32} {I : Ii} {J : Jj} {K : KI}
    (h : CalI wM d mX13_qIsOn [.ref (0), .int (3)] I J (fun x3 I1 J2 => (((¬ x3 = 0) → (GoI wM (d + 1) mX13_qGoesOn 178 [(0, .ref (0)), (1, .int (v1))] [] I1 J2 K)) ∧ ((x3 = 0) → (CalI wM d mX13_qIsOn [.ref (0), .int (4)] I1 J2 (fun x7 I5 J6 => (((x7 = 0) → (vp_in (I5 0 96) 1700 ∧ (∀ I10 : Ii, I10 = u2 I5 76 (I5 0 96).toNatClampNeg v1 → (K (1) (u2 I10 0 96 ((I10 0 96) + 1)) J6)))) ∧ ((¬ x7 = 0) → (GoI wM (d + 1) mX13_qGoesOn 178 [(0, .ref (0)), (1, .int (v1))] [] I5 J6 K))))))))) :
    GoI wM (d + 1) mX13_qGoesOn 162 [(0, .ref (0)), (1, .int (v1))] [] I J K :=
  (g_aload_n dX13_qGoesOn_162 0 0 rfl rfl (g_iconst dX13_qGoesOn_163 kc_3 (g_callvI dX13_qGoesOn_164 ml_X13_594 md_X13_qIsOn mv_X13_qIsOn obM_0 rfl rfl rfl (Nat.le_of_ble_eq_true rfl) (CalI.mono h (fun x3 I1 J2 h13 => (g_if_ne dX13_qGoesOn_167 rfl (fun q4 => (h13.1 q4)) (fun q4 => (g_aload_n dX13_qGoesOn_170 0 0 rfl rfl (g_iconst dX13_qGoesOn_171 kc_4 (g_callvI dX13_qGoesOn_172 ml_X13_594 md_X13_qIsOn mv_X13_qIsOn obM_0 rfl rfl rfl (Nat.le_of_ble_eq_true rfl) (CalI.mono (h13.2 q4) (fun x7 I5 J6 h12 => (g_if_eq dX13_qGoesOn_175 rfl (fun q8 => (g_aload_n dX13_qGoesOn_185 0 0 rfl rfl (g_getP dX13_qGoesOn_186 fl_X13_245 rfl obM_0 rfl (g_aload_n dX13_qGoesOn_189 0 0 rfl rfl (g_getI dX13_qGoesOn_190 fl_X13_345 rfl obM_0 (g_iload_n dX13_qGoesOn_193 1 1 rfl rfl (have b9 := (h12.1 q8).1; g_iast dX13_qGoesOn_194 arM_76 b9 (g_aload_n dX13_qGoesOn_195 0 0 rfl rfl (g_dup dX13_qGoesOn_196 rfl (g_getI dX13_qGoesOn_197 fl_X13_345 rfl obM_0 (g_iconst dX13_qGoesOn_200 kc_1 (g_iadd dX13_qGoesOn_201 (g_putI dX13_qGoesOn_202 fl_X13_345 rfl rfl obM_0 (g_iconst dX13_qGoesOn_205 kc_1 (g_zreturn dX13_qGoesOn_206 rfl (narZ (by decide)) ⟨_, rfl, ((h12.1 q8).2 _ rfl)⟩))))))))))))))) (fun q8 => (h12.2 q8)))))))))))))))
theorem bX13_qGoesOn_247 {d : Nat}  {v1 : Int32} {I : Ii} {J : Jj} {K : KI}
    (h : CalI wM d mX13_qIsOn [.ref (0), .int (3)] I J (fun x3 I1 J2 => (((¬ x3 = 0) → (GoI wM (d + 1) mX13_qGoesOn 279 [(0, .ref (0)), (1, .int (v1))] [] I1 J2 K)) ∧ ((x3 = 0) → (CalI wM d mX13_qIsOn [.ref (0), .int (4)] I1 J2 (fun x7 I5 J6 => (((¬ x7 = 0) → (GoI wM (d + 1) mX13_qGoesOn 279 [(0, .ref (0)), (1, .int (v1))] [] I5 J6 K)) ∧ ((x7 = 0) → (CalI wM d mX13_qIsOn [.ref (0), .int (1)] I5 J6 (fun x11 I9 J10 => (((¬ x11 = 0) → (GoI wM (d + 1) mX13_qGoesOn 279 [(0, .ref (0)), (1, .int (v1))] [] I9 J10 K)) ∧ ((x11 = 0) → (CalI wM d mX13_qIsOn [.ref (0), .int (2)] I9 J10 (fun x15 I13 J14 => (((x15 = 0) → (vp_in (I13 0 96) 1700 ∧ (∀ I18 : Ii, I18 = u2 I13 76 (I13 0 96).toNatClampNeg v1 → (K (1) (u2 I18 0 96 ((I18 0 96) + 1)) J14)))) ∧ ((¬ x15 = 0) → (GoI wM (d + 1) mX13_qGoesOn 279 [(0, .ref (0)), (1, .int (v1))] [] I13 J14 K))))))))))))))))) :
    GoI wM (d + 1) mX13_qGoesOn 247 [(0, .ref (0)), (1, .int (v1))] [] I J K :=
  (g_aload_n dX13_qGoesOn_247 0 0 rfl rfl (g_iconst dX13_qGoesOn_248 kc_3 (g_callvI dX13_qGoesOn_249 ml_X13_594 md_X13_qIsOn mv_X13_qIsOn obM_0 rfl rfl rfl (Nat.le_of_ble_eq_true rfl) (CalI.mono h (fun x3 I1 J2 h23 => (g_if_ne dX13_qGoesOn_252 rfl (fun q4 => (h23.1 q4)) (fun q4 => (g_aload_n dX13_qGoesOn_255 0 0 rfl rfl (g_iconst dX13_qGoesOn_256 kc_4 (g_callvI dX13_qGoesOn_257 ml_X13_594 md_X13_qIsOn mv_X13_qIsOn obM_0 rfl rfl rfl (Nat.le_of_ble_eq_true rfl) (CalI.mono (h23.2 q4) (fun x7 I5 J6 h22 => (g_if_ne dX13_qGoesOn_260 rfl (fun q8 => (h22.1 q8)) (fun q8 => (g_aload_n dX13_qGoesOn_263 0 0 rfl rfl (g_iconst dX13_qGoesOn_264 kc_1 (g_callvI dX13_qGoesOn_265 ml_X13_594 md_X13_qIsOn mv_X13_qIsOn obM_0 rfl rfl rfl (Nat.le_of_ble_eq_true rfl) (CalI.mono (h22.2 q8) (fun x11 I9 J10 h21 => (g_if_ne dX13_qGoesOn_268 rfl (fun q12 => (h21.1 q12)) (fun q12 => (g_aload_n dX13_qGoesOn_271 0 0 rfl rfl (g_iconst dX13_qGoesOn_272 kc_2 (g_callvI dX13_qGoesOn_273 ml_X13_594 md_X13_qIsOn mv_X13_qIsOn obM_0 rfl rfl rfl (Nat.le_of_ble_eq_true rfl) (CalI.mono (h21.2 q12) (fun x15 I13 J14 h20 => (g_if_eq dX13_qGoesOn_276 rfl (fun q16 => (g_aload_n dX13_qGoesOn_286 0 0 rfl rfl (g_getP dX13_qGoesOn_287 fl_X13_245 rfl obM_0 rfl (g_aload_n dX13_qGoesOn_290 0 0 rfl rfl (g_getI dX13_qGoesOn_291 fl_X13_345 rfl obM_0 (g_iload_n dX13_qGoesOn_294 1 1 rfl rfl (have b17 := (h20.1 q16).1; g_iast dX13_qGoesOn_295 arM_76 b17 (g_aload_n dX13_qGoesOn_296 0 0 rfl rfl (g_dup dX13_qGoesOn_297 rfl (g_getI dX13_qGoesOn_298 fl_X13_345 rfl obM_0 (g_iconst dX13_qGoesOn_301 kc_1 (g_iadd dX13_qGoesOn_302 (g_putI dX13_qGoesOn_303 fl_X13_345 rfl rfl obM_0 (g_iconst dX13_qGoesOn_306 kc_1 (g_zreturn dX13_qGoesOn_307 rfl (narZ (by decide)) ⟨_, rfl, ((h20.1 q16).2 _ rfl)⟩))))))))))))))) (fun q16 => (h20.2 q16)))))))))))))))))))))))))))))
theorem bX13_qGoesOn_178 {d : Nat}  {v1 : Int32} {I : Ii} {J : Jj} {K : KI}
    (h : CalV wM d mX13_qDrops [.ref (0)] I J (fun I1 J2 => (GoI wM (d + 1) mX13_qGoesOn 162 [(0, .ref (0)), (1, .int (v1))] [] I1 J2 K))) :
    GoI wM (d + 1) mX13_qGoesOn 178 [(0, .ref (0)), (1, .int (v1))] [] I J K :=
  (g_aload_n dX13_qGoesOn_178 0 0 rfl rfl (g_callvV dX13_qGoesOn_179 ml_X13_567 md_X13_qDrops mv_X13_qDrops obM_0 rfl rfl rfl (Nat.le_of_ble_eq_true rfl) (CalV.mono h (fun I1 J2 h3 => (g_goto dX13_qGoesOn_182 rfl h3)))))
theorem bX13_qGoesOn_279 {d : Nat}  {v1 : Int32} {I : Ii} {J : Jj} {K : KI}
    (h : CalV wM d mX13_qDrops [.ref (0)] I J (fun I1 J2 => (GoI wM (d + 1) mX13_qGoesOn 247 [(0, .ref (0)), (1, .int (v1))] [] I1 J2 K))) :
    GoI wM (d + 1) mX13_qGoesOn 279 [(0, .ref (0)), (1, .int (v1))] [] I J K :=
  (g_aload_n dX13_qGoesOn_279 0 0 rfl rfl (g_callvV dX13_qGoesOn_280 ml_X13_567 md_X13_qDrops mv_X13_qDrops obM_0 rfl rfl rfl (Nat.le_of_ble_eq_true rfl) (CalV.mono h (fun I1 J2 h3 => (g_goto dX13_qGoesOn_283 rfl h3)))))
theorem dX13_qBracket_0 : decode cX13_qBracket 0 = .ok (.aload_n 0, 1) := by decide +kernel
theorem dX13_qBracket_1 : decode cX13_qBracket 1 = .ok (.getfield 345, 3) := by decide +kernel
theorem dX13_qBracket_4 : decode cX13_qBracket 4 = .ok (.iconst 1, 1) := by decide +kernel
theorem dX13_qBracket_5 : decode cX13_qBracket 5 = .ok (.isub, 1) := by decide +kernel
theorem dX13_qBracket_6 : decode cX13_qBracket 6 = .ok (.istore_n 1, 1) := by decide +kernel
theorem dX13_qBracket_7 : decode cX13_qBracket 7 = .ok (.iload_n 1, 1) := by decide +kernel
theorem dX13_qBracket_8 : decode cX13_qBracket 8 = .ok (.aload_n 0, 1) := by decide +kernel
theorem dX13_qBracket_9 : decode cX13_qBracket 9 = .ok (.getfield 351, 3) := by decide +kernel
theorem dX13_qBracket_12 : decode cX13_qBracket 12 = .ok (.if_icmp .lt 21, 3) := by decide +kernel
theorem dX13_qBracket_15 : decode cX13_qBracket 15 = .ok (.aload_n 0, 1) := by decide +kernel
theorem dX13_qBracket_16 : decode cX13_qBracket 16 = .ok (.getfield 245, 3) := by decide +kernel
theorem dX13_qBracket_19 : decode cX13_qBracket 19 = .ok (.iload_n 1, 1) := by decide +kernel
theorem dX13_qBracket_20 : decode cX13_qBracket 20 = .ok (.iaload, 1) := by decide +kernel
theorem dX13_qBracket_21 : decode cX13_qBracket 21 = .ok (.invokestatic 564, 3) := by decide +kernel
theorem dX13_qBracket_24 : decode cX13_qBracket 24 = .ok (.ifCond .ne 9, 3) := by decide +kernel
theorem dX13_qBracket_27 : decode cX13_qBracket 27 = .ok (.iinc 1 (-1), 3) := by decide +kernel
theorem dX13_qBracket_30 : decode cX13_qBracket 30 = .ok (.goto (-23), 3) := by decide +kernel
theorem dX13_qBracket_33 : decode cX13_qBracket 33 = .ok (.iload_n 1, 1) := by decide +kernel
theorem dX13_qBracket_34 : decode cX13_qBracket 34 = .ok (.aload_n 0, 1) := by decide +kernel
theorem dX13_qBracket_35 : decode cX13_qBracket 35 = .ok (.getfield 351, 3) := by decide +kernel
theorem dX13_qBracket_38 : decode cX13_qBracket 38 = .ok (.if_icmp .lt 12, 3) := by decide +kernel
theorem dX13_qBracket_41 : decode cX13_qBracket 41 = .ok (.aload_n 0, 1) := by decide +kernel
theorem dX13_qBracket_42 : decode cX13_qBracket 42 = .ok (.getfield 245, 3) := by decide +kernel
theorem dX13_qBracket_45 : decode cX13_qBracket 45 = .ok (.iload_n 1, 1) := by decide +kernel
theorem dX13_qBracket_46 : decode cX13_qBracket 46 = .ok (.iaload, 1) := by decide +kernel
theorem dX13_qBracket_47 : decode cX13_qBracket 47 = .ok (.goto 4, 3) := by decide +kernel
theorem dX13_qBracket_50 : decode cX13_qBracket 50 = .ok (.iconst (-1), 1) := by decide +kernel
theorem dX13_qBracket_51 : decode cX13_qBracket 51 = .ok (.ireturn, 1) := by decide +kernel
theorem bX13_qBracket_0 {d : Nat}   {I : Ii} {J : Jj} {K : KI}
    (h : GoI wM (d + 1) mX13_qBracket 7 [(0, .ref (0)), (1, .int ((I 0 96) - 1))] [] I J K) :
    GoI wM (d + 1) mX13_qBracket 0 [(0, .ref (0))] [] I J K :=
  (g_aload_n dX13_qBracket_0 0 0 rfl rfl (g_getI dX13_qBracket_1 fl_X13_345 rfl obM_0 (g_iconst dX13_qBracket_4 kc_1 (g_isub dX13_qBracket_5 (g_istore_n dX13_qBracket_6 rfl (by decide) rfl (g_sub [1, 0] rfl h))))))
theorem bX13_qBracket_7 {d : Nat}  {v1 : Int32} {I : Ii} {J : Jj} {K : KI}
    (h : ((v1 < (I 0 98)) → (K ((-1)) I J)) ∧ ((¬ v1 < (I 0 98)) → (vp_in (v1) 1700 ∧ (CalI wM d mX13_qIsBracket [.int (I 76 v1.toNatClampNeg)] I J (fun x5 I3 J4 => (((¬ x5 = 0) → (((v1 < (I3 0 98)) → (K ((-1)) I3 J4)) ∧ ((¬ v1 < (I3 0 98)) → (K (I3 76 v1.toNatClampNeg) I3 J4)))) ∧ ((x5 = 0) → (GoI wM (d + 1) mX13_qBracket 7 [(0, .ref (0)), (1, .int (v1 + (Int32.ofInt (-1))))] [] I3 J4 K)))))))) :
    GoI wM (d + 1) mX13_qBracket 7 [(0, .ref (0)), (1, .int (v1))] [] I J K :=
  (g_iload_n dX13_qBracket_7 1 1 rfl rfl (g_aload_n dX13_qBracket_8 0 0 rfl rfl (g_getI dX13_qBracket_9 fl_X13_351 rfl obM_0 (g_icmp_lt dX13_qBracket_12 rfl (fun q1 => (g_iload_n dX13_qBracket_33 1 1 rfl rfl (g_aload_n dX13_qBracket_34 0 0 rfl rfl (g_getI dX13_qBracket_35 fl_X13_351 rfl obM_0 (g_icmp_lt dX13_qBracket_38 rfl (fun _ => (g_iconst dX13_qBracket_50 kc_n1 (g_ireturn dX13_qBracket_51 rfl ⟨_, rfl, (h.1 q1)⟩))) (fun q => absurd q1 q)))))) (fun q1 => (g_aload_n dX13_qBracket_15 0 0 rfl rfl (g_getP dX13_qBracket_16 fl_X13_245 rfl obM_0 rfl (g_iload_n dX13_qBracket_19 1 1 rfl rfl (have b2 := (h.2 q1).1; g_iald dX13_qBracket_20 arM_76 b2 (g_callsI dX13_qBracket_21 ml_X13_564 md_X13_qIsBracket ms_X13_qIsBracket rfl rfl (Nat.le_of_ble_eq_true rfl) (CalI.mono (h.2 q1).2 (fun x5 I3 J4 h8 => (g_if_ne dX13_qBracket_24 rfl (fun q6 => (g_iload_n dX13_qBracket_33 1 1 rfl rfl (g_aload_n dX13_qBracket_34 0 0 rfl rfl (g_getI dX13_qBracket_35 fl_X13_351 rfl obM_0 (g_icmp_lt dX13_qBracket_38 rfl (fun q7 => (g_iconst dX13_qBracket_50 kc_n1 (g_ireturn dX13_qBracket_51 rfl ⟨_, rfl, ((h8.1 q6).1 q7)⟩))) (fun q7 => (g_aload_n dX13_qBracket_41 0 0 rfl rfl (g_getP dX13_qBracket_42 fl_X13_245 rfl obM_0 rfl (g_iload_n dX13_qBracket_45 1 1 rfl rfl (g_iald dX13_qBracket_46 arM_76 b2 (g_goto dX13_qBracket_47 rfl (g_ireturn dX13_qBracket_51 rfl ⟨_, rfl, ((h8.1 q6).2 q7)⟩)))))))))))) (fun q6 => (g_iinc dX13_qBracket_27 1 rfl rfl (by decide) rfl (g_goto dX13_qBracket_30 rfl (g_sub [1, 0] rfl (h8.2 q6))))))))))))))))))
theorem dX13_qIsBracket_0 : decode cX13_qIsBracket 0 = .ok (.iload_n 0, 1) := by decide +kernel
theorem dX13_qIsBracket_1 : decode cX13_qIsBracket 1 = .ok (.bipush 20, 2) := by decide +kernel
theorem dX13_qIsBracket_3 : decode cX13_qIsBracket 3 = .ok (.if_icmp .lt 13, 3) := by decide +kernel
theorem dX13_qIsBracket_6 : decode cX13_qIsBracket 6 = .ok (.iload_n 0, 1) := by decide +kernel
theorem dX13_qIsBracket_7 : decode cX13_qIsBracket 7 = .ok (.bipush 24, 2) := by decide +kernel
theorem dX13_qIsBracket_9 : decode cX13_qIsBracket 9 = .ok (.if_icmp .gt 7, 3) := by decide +kernel
theorem dX13_qIsBracket_12 : decode cX13_qIsBracket 12 = .ok (.iconst 1, 1) := by decide +kernel
theorem dX13_qIsBracket_13 : decode cX13_qIsBracket 13 = .ok (.goto 4, 3) := by decide +kernel
theorem dX13_qIsBracket_16 : decode cX13_qIsBracket 16 = .ok (.iconst 0, 1) := by decide +kernel
theorem dX13_qIsBracket_17 : decode cX13_qIsBracket 17 = .ok (.ireturn, 1) := by decide +kernel
theorem bX13_qIsBracket_0 {d : Nat}  {v0 : Int32} {I : Ii} {J : Jj} {K : KI}
    (h : ((v0 < 20) → (K (0) I J)) ∧ ((¬ v0 < 20) → (((24 < v0) → (K (0) I J)) ∧ ((¬ 24 < v0) → (K (1) I J))))) :
    GoI wM d mX13_qIsBracket 0 [(0, .int (v0))] [] I J K :=
  (g_iload_n dX13_qIsBracket_0 0 0 rfl rfl (g_bipush dX13_qIsBracket_1 kb_20 (g_icmp_lt dX13_qIsBracket_3 rfl (fun q1 => (g_iconst dX13_qIsBracket_16 kc_0 (g_zreturn dX13_qIsBracket_17 rfl (narZ (by decide)) ⟨_, rfl, (h.1 q1)⟩))) (fun q1 => (g_iload_n dX13_qIsBracket_6 0 0 rfl rfl (g_bipush dX13_qIsBracket_7 kb_24 (g_icmp_gt dX13_qIsBracket_9 rfl (fun q2 => (g_iconst dX13_qIsBracket_16 kc_0 (g_zreturn dX13_qIsBracket_17 rfl (narZ (by decide)) ⟨_, rfl, ((h.2 q1).1 q2)⟩))) (fun q2 => (g_iconst dX13_qIsBracket_12 kc_1 (g_goto dX13_qIsBracket_13 rfl (g_zreturn dX13_qIsBracket_17 rfl (narZ (by decide)) ⟨_, rfl, ((h.2 q1).2 q2)⟩)))))))))))
theorem dX13_qDropsToBracket_0 : decode cX13_qDropsToBracket 0 = .ok (.aload_n 0, 1) := by decide +kernel
theorem dX13_qDropsToBracket_1 : decode cX13_qDropsToBracket 1 = .ok (.getfield 345, 3) := by decide +kernel
theorem dX13_qDropsToBracket_4 : decode cX13_qDropsToBracket 4 = .ok (.aload_n 0, 1) := by decide +kernel
theorem dX13_qDropsToBracket_5 : decode cX13_qDropsToBracket 5 = .ok (.getfield 351, 3) := by decide +kernel
theorem dX13_qDropsToBracket_8 : decode cX13_qDropsToBracket 8 = .ok (.if_icmp .le 27, 3) := by decide +kernel
theorem dX13_qDropsToBracket_11 : decode cX13_qDropsToBracket 11 = .ok (.aload_n 0, 1) := by decide +kernel
theorem dX13_qDropsToBracket_12 : decode cX13_qDropsToBracket 12 = .ok (.getfield 245, 3) := by decide +kernel
theorem dX13_qDropsToBracket_15 : decode cX13_qDropsToBracket 15 = .ok (.aload_n 0, 1) := by decide +kernel
theorem dX13_qDropsToBracket_16 : decode cX13_qDropsToBracket 16 = .ok (.getfield 345, 3) := by decide +kernel
theorem dX13_qDropsToBracket_19 : decode cX13_qDropsToBracket 19 = .ok (.iconst 1, 1) := by decide +kernel
theorem dX13_qDropsToBracket_20 : decode cX13_qDropsToBracket 20 = .ok (.isub, 1) := by decide +kernel
theorem dX13_qDropsToBracket_21 : decode cX13_qDropsToBracket 21 = .ok (.iaload, 1) := by decide +kernel
theorem dX13_qDropsToBracket_22 : decode cX13_qDropsToBracket 22 = .ok (.invokestatic 564, 3) := by decide +kernel
theorem dX13_qDropsToBracket_25 : decode cX13_qDropsToBracket 25 = .ok (.ifCond .ne 10, 3) := by decide +kernel
theorem dX13_qDropsToBracket_28 : decode cX13_qDropsToBracket 28 = .ok (.aload_n 0, 1) := by decide +kernel
theorem dX13_qDropsToBracket_29 : decode cX13_qDropsToBracket 29 = .ok (.invokevirtual 567, 3) := by decide +kernel
theorem dX13_qDropsToBracket_32 : decode cX13_qDropsToBracket 32 = .ok (.goto (-32), 3) := by decide +kernel
theorem dX13_qDropsToBracket_35 : decode cX13_qDropsToBracket 35 = .ok (.return_, 1) := by decide +kernel
theorem bX13_qDropsToBracket_0 {d : Nat}   {I : Ii} {J : Jj} {K : KV}
    (h : (((I 0 96) ≤ (I 0 98)) → (K I J)) ∧ ((¬ (I 0 96) ≤ (I 0 98)) → (vp_in ((I 0 96) - 1) 1700 ∧ (CalI wM d mX13_qIsBracket [.int (I 76 ((I 0 96) - 1).toNatClampNeg)] I J (fun x5 I3 J4 => (((¬ x5 = 0) → (K I3 J4)) ∧ ((x5 = 0) → (CalV wM d mX13_qDrops [.ref (0)] I3 J4 (fun I7 J8 => (GoV wM (d + 1) mX13_qDropsToBracket 0 [(0, .ref (0))] [] I7 J8 K)))))))))) :
    GoV wM (d + 1) mX13_qDropsToBracket 0 [(0, .ref (0))] [] I J K :=
  (g_aload_n dX13_qDropsToBracket_0 0 0 rfl rfl (g_getI dX13_qDropsToBracket_1 fl_X13_345 rfl obM_0 (g_aload_n dX13_qDropsToBracket_4 0 0 rfl rfl (g_getI dX13_qDropsToBracket_5 fl_X13_351 rfl obM_0 (g_icmp_le dX13_qDropsToBracket_8 rfl (fun q1 => (g_return dX13_qDropsToBracket_35 rfl ⟨rfl, (h.1 q1)⟩)) (fun q1 => (g_aload_n dX13_qDropsToBracket_11 0 0 rfl rfl (g_getP dX13_qDropsToBracket_12 fl_X13_245 rfl obM_0 rfl (g_aload_n dX13_qDropsToBracket_15 0 0 rfl rfl (g_getI dX13_qDropsToBracket_16 fl_X13_345 rfl obM_0 (g_iconst dX13_qDropsToBracket_19 kc_1 (g_isub dX13_qDropsToBracket_20 (have b2 := (h.2 q1).1; g_iald dX13_qDropsToBracket_21 arM_76 b2 (g_callsI dX13_qDropsToBracket_22 ml_X13_564 md_X13_qIsBracket ms_X13_qIsBracket rfl rfl (Nat.le_of_ble_eq_true rfl) (CalI.mono (h.2 q1).2 (fun x5 I3 J4 h10 => (g_if_ne dX13_qDropsToBracket_25 rfl (fun q6 => (g_return dX13_qDropsToBracket_35 rfl ⟨rfl, (h10.1 q6)⟩)) (fun q6 => (g_aload_n dX13_qDropsToBracket_28 0 0 rfl rfl (g_callvV dX13_qDropsToBracket_29 ml_X13_567 md_X13_qDrops mv_X13_qDrops obM_0 rfl rfl rfl (Nat.le_of_ble_eq_true rfl) (CalV.mono (h10.2 q6) (fun I7 J8 h9 => (g_goto dX13_qDropsToBracket_32 rfl h9)))))))))))))))))))))))
theorem dX13_qIsOn_0 : decode cX13_qIsOn 0 = .ok (.aload_n 0, 1) := by decide +kernel
theorem dX13_qIsOn_1 : decode cX13_qIsOn 1 = .ok (.getfield 345, 3) := by decide +kernel
theorem dX13_qIsOn_4 : decode cX13_qIsOn 4 = .ok (.ifCond .le 22, 3) := by decide +kernel
theorem dX13_qIsOn_7 : decode cX13_qIsOn 7 = .ok (.aload_n 0, 1) := by decide +kernel
theorem dX13_qIsOn_8 : decode cX13_qIsOn 8 = .ok (.getfield 245, 3) := by decide +kernel
theorem dX13_qIsOn_11 : decode cX13_qIsOn 11 = .ok (.aload_n 0, 1) := by decide +kernel
theorem dX13_qIsOn_12 : decode cX13_qIsOn 12 = .ok (.getfield 345, 3) := by decide +kernel
theorem dX13_qIsOn_15 : decode cX13_qIsOn 15 = .ok (.iconst 1, 1) := by decide +kernel
theorem dX13_qIsOn_16 : decode cX13_qIsOn 16 = .ok (.isub, 1) := by decide +kernel
theorem dX13_qIsOn_17 : decode cX13_qIsOn 17 = .ok (.iaload, 1) := by decide +kernel
theorem dX13_qIsOn_18 : decode cX13_qIsOn 18 = .ok (.iload_n 1, 1) := by decide +kernel
theorem dX13_qIsOn_19 : decode cX13_qIsOn 19 = .ok (.if_icmp .ne 7, 3) := by decide +kernel
theorem dX13_qIsOn_22 : decode cX13_qIsOn 22 = .ok (.iconst 1, 1) := by decide +kernel
theorem dX13_qIsOn_23 : decode cX13_qIsOn 23 = .ok (.goto 4, 3) := by decide +kernel
theorem dX13_qIsOn_26 : decode cX13_qIsOn 26 = .ok (.iconst 0, 1) := by decide +kernel
theorem dX13_qIsOn_27 : decode cX13_qIsOn 27 = .ok (.ireturn, 1) := by decide +kernel
theorem bX13_qIsOn_0 {d : Nat}  {v1 : Int32} {I : Ii} {J : Jj} {K : KI}
    (h : (((I 0 96) ≤ 0) → (K (0) I J)) ∧ ((¬ (I 0 96) ≤ 0) → (vp_in ((I 0 96) - 1) 1700 ∧ (((¬ (I 76 ((I 0 96) - 1).toNatClampNeg) = v1) → (K (0) I J)) ∧ (((I 76 ((I 0 96) - 1).toNatClampNeg) = v1) → (K (1) I J)))))) :
    GoI wM d mX13_qIsOn 0 [(0, .ref (0)), (1, .int (v1))] [] I J K :=
  (g_aload_n dX13_qIsOn_0 0 0 rfl rfl (g_getI dX13_qIsOn_1 fl_X13_345 rfl obM_0 (g_if_le dX13_qIsOn_4 rfl (fun q1 => (g_iconst dX13_qIsOn_26 kc_0 (g_zreturn dX13_qIsOn_27 rfl (narZ (by decide)) ⟨_, rfl, (h.1 q1)⟩))) (fun q1 => (g_aload_n dX13_qIsOn_7 0 0 rfl rfl (g_getP dX13_qIsOn_8 fl_X13_245 rfl obM_0 rfl (g_aload_n dX13_qIsOn_11 0 0 rfl rfl (g_getI dX13_qIsOn_12 fl_X13_345 rfl obM_0 (g_iconst dX13_qIsOn_15 kc_1 (g_isub dX13_qIsOn_16 (have b2 := (h.2 q1).1; g_iald dX13_qIsOn_17 arM_76 b2 (g_iload_n dX13_qIsOn_18 1 1 rfl rfl (g_icmp_ne dX13_qIsOn_19 rfl (fun q3 => (g_iconst dX13_qIsOn_26 kc_0 (g_zreturn dX13_qIsOn_27 rfl (narZ (by decide)) ⟨_, rfl, ((h.2 q1).2.1 q3)⟩))) (fun q3 => (g_iconst dX13_qIsOn_22 kc_1 (g_goto dX13_qIsOn_23 rfl (g_zreturn dX13_qIsOn_27 rfl (narZ (by decide)) ⟨_, rfl, ((h.2 q1).2.2 q3)⟩)))))))))))))))))
theorem dX13_qDropsNots_0 : decode cX13_qDropsNots 0 = .ok (.aload_n 0, 1) := by decide +kernel
theorem dX13_qDropsNots_1 : decode cX13_qDropsNots 1 = .ok (.getfield 257, 3) := by decide +kernel
theorem dX13_qDropsNots_4 : decode cX13_qDropsNots 4 = .ok (.ifCond .ne 29, 3) := by decide +kernel
theorem dX13_qDropsNots_7 : decode cX13_qDropsNots 7 = .ok (.aload_n 0, 1) := by decide +kernel
theorem dX13_qDropsNots_8 : decode cX13_qDropsNots 8 = .ok (.bipush 12, 2) := by decide +kernel
theorem dX13_qDropsNots_10 : decode cX13_qDropsNots 10 = .ok (.invokevirtual 594, 3) := by decide +kernel
theorem dX13_qDropsNots_13 : decode cX13_qDropsNots 13 = .ok (.ifCond .eq 20, 3) := by decide +kernel
theorem dX13_qDropsNots_16 : decode cX13_qDropsNots 16 = .ok (.aload_n 0, 1) := by decide +kernel
theorem dX13_qDropsNots_17 : decode cX13_qDropsNots 17 = .ok (.dup, 1) := by decide +kernel
theorem dX13_qDropsNots_18 : decode cX13_qDropsNots 18 = .ok (.getfield 348, 3) := by decide +kernel
theorem dX13_qDropsNots_21 : decode cX13_qDropsNots 21 = .ok (.iconst 1, 1) := by decide +kernel
theorem dX13_qDropsNots_22 : decode cX13_qDropsNots 22 = .ok (.isub, 1) := by decide +kernel
theorem dX13_qDropsNots_23 : decode cX13_qDropsNots 23 = .ok (.putfield 348, 3) := by decide +kernel
theorem dX13_qDropsNots_26 : decode cX13_qDropsNots 26 = .ok (.aload_n 0, 1) := by decide +kernel
theorem dX13_qDropsNots_27 : decode cX13_qDropsNots 27 = .ok (.invokevirtual 567, 3) := by decide +kernel
theorem dX13_qDropsNots_30 : decode cX13_qDropsNots 30 = .ok (.goto (-30), 3) := by decide +kernel
theorem dX13_qDropsNots_33 : decode cX13_qDropsNots 33 = .ok (.return_, 1) := by decide +kernel
theorem bX13_qDropsNots_0 {d : Nat}   {I : Ii} {J : Jj} {K : KV}
    (h : ((¬ (I 0 5) = 0) → (K I J)) ∧ (((I 0 5) = 0) → (CalI wM d mX13_qIsOn [.ref (0), .int (12)] I J (fun x4 I2 J3 => (((x4 = 0) → (K I2 J3)) ∧ ((¬ x4 = 0) → (CalV wM d mX13_qDrops [.ref (0)] (u2 I2 0 97 ((I2 0 97) - 1)) J3 (fun I7 J8 => (GoV wM (d + 1) mX13_qDropsNots 0 [(0, .ref (0))] [] I7 J8 K))))))))) :
    GoV wM (d + 1) mX13_qDropsNots 0 [(0, .ref (0))] [] I J K :=
  (g_aload_n dX13_qDropsNots_0 0 0 rfl rfl (g_getI dX13_qDropsNots_1 fl_X13_257 rfl obM_0 (g_if_ne dX13_qDropsNots_4 rfl (fun q1 => (g_return dX13_qDropsNots_33 rfl ⟨rfl, (h.1 q1)⟩)) (fun q1 => (g_aload_n dX13_qDropsNots_7 0 0 rfl rfl (g_bipush dX13_qDropsNots_8 kb_12 (g_callvI dX13_qDropsNots_10 ml_X13_594 md_X13_qIsOn mv_X13_qIsOn obM_0 rfl rfl rfl (Nat.le_of_ble_eq_true rfl) (CalI.mono (h.2 q1) (fun x4 I2 J3 h10 => (g_if_eq dX13_qDropsNots_13 rfl (fun q5 => (g_return dX13_qDropsNots_33 rfl ⟨rfl, (h10.1 q5)⟩)) (fun q5 => (g_aload_n dX13_qDropsNots_16 0 0 rfl rfl (g_dup dX13_qDropsNots_17 rfl (g_getI dX13_qDropsNots_18 fl_X13_348 rfl obM_0 (g_iconst dX13_qDropsNots_21 kc_1 (g_isub dX13_qDropsNots_22 (g_putI dX13_qDropsNots_23 fl_X13_348 rfl rfl obM_0 (g_aload_n dX13_qDropsNots_26 0 0 rfl rfl (g_callvV dX13_qDropsNots_27 ml_X13_567 md_X13_qDrops mv_X13_qDrops obM_0 rfl rfl rfl (Nat.le_of_ble_eq_true rfl) (CalV.mono (h10.2 q5) (fun I7 J8 h9 => (g_goto dX13_qDropsNots_30 rfl h9))))))))))))))))))))))
theorem dX13_qGoesOnTest_0 : decode cX13_qGoesOnTest 0 = .ok (.aload_n 0, 1) := by decide +kernel
theorem dX13_qGoesOnTest_1 : decode cX13_qGoesOnTest 1 = .ok (.getfield 257, 3) := by decide +kernel
theorem dX13_qGoesOnTest_4 : decode cX13_qGoesOnTest 4 = .ok (.ifCond .ne 72, 3) := by decide +kernel
theorem dX13_qGoesOnTest_7 : decode cX13_qGoesOnTest 7 = .ok (.aload_n 0, 1) := by decide +kernel
theorem dX13_qGoesOnTest_8 : decode cX13_qGoesOnTest 8 = .ok (.invokevirtual 269, 3) := by decide +kernel
theorem dX13_qGoesOnTest_11 : decode cX13_qGoesOnTest 11 = .ok (.bipush 93, 2) := by decide +kernel
theorem dX13_qGoesOnTest_13 : decode cX13_qGoesOnTest 13 = .ok (.if_icmp .ne 63, 3) := by decide +kernel
theorem dX13_qGoesOnTest_16 : decode cX13_qGoesOnTest 16 = .ok (.aload_n 0, 1) := by decide +kernel
theorem dX13_qGoesOnTest_17 : decode cX13_qGoesOnTest 17 = .ok (.invokevirtual 615, 3) := by decide +kernel
theorem dX13_qGoesOnTest_20 : decode cX13_qGoesOnTest 20 = .ok (.ifCond .eq 56, 3) := by decide +kernel
theorem dX13_qGoesOnTest_23 : decode cX13_qGoesOnTest 23 = .ok (.aload_n 0, 1) := by decide +kernel
theorem dX13_qGoesOnTest_24 : decode cX13_qGoesOnTest 24 = .ok (.dup, 1) := by decide +kernel
theorem dX13_qGoesOnTest_25 : decode cX13_qGoesOnTest 25 = .ok (.getfield 263, 3) := by decide +kernel
theorem dX13_qGoesOnTest_28 : decode cX13_qGoesOnTest 28 = .ok (.iconst 1, 1) := by decide +kernel
theorem dX13_qGoesOnTest_29 : decode cX13_qGoesOnTest 29 = .ok (.iadd, 1) := by decide +kernel
theorem dX13_qGoesOnTest_30 : decode cX13_qGoesOnTest 30 = .ok (.putfield 263, 3) := by decide +kernel
theorem dX13_qGoesOnTest_33 : decode cX13_qGoesOnTest 33 = .ok (.aload_n 0, 1) := by decide +kernel
theorem dX13_qGoesOnTest_34 : decode cX13_qGoesOnTest 34 = .ok (.bipush 25, 2) := by decide +kernel
theorem dX13_qGoesOnTest_36 : decode cX13_qGoesOnTest 36 = .ok (.invokevirtual 594, 3) := by decide +kernel
theorem dX13_qGoesOnTest_39 : decode cX13_qGoesOnTest 39 = .ok (.ifCond .ne 10, 3) := by decide +kernel
theorem dX13_qGoesOnTest_42 : decode cX13_qGoesOnTest 42 = .ok (.aload_n 0, 1) := by decide +kernel
theorem dX13_qGoesOnTest_43 : decode cX13_qGoesOnTest 43 = .ok (.invokevirtual 567, 3) := by decide +kernel
theorem dX13_qGoesOnTest_46 : decode cX13_qGoesOnTest 46 = .ok (.goto (-13), 3) := by decide +kernel
theorem dX13_qGoesOnTest_49 : decode cX13_qGoesOnTest 49 = .ok (.aload_n 0, 1) := by decide +kernel
theorem dX13_qGoesOnTest_50 : decode cX13_qGoesOnTest 50 = .ok (.dup, 1) := by decide +kernel
theorem dX13_qGoesOnTest_51 : decode cX13_qGoesOnTest 51 = .ok (.getfield 345, 3) := by decide +kernel
theorem dX13_qGoesOnTest_54 : decode cX13_qGoesOnTest 54 = .ok (.iconst 1, 1) := by decide +kernel
theorem dX13_qGoesOnTest_55 : decode cX13_qGoesOnTest 55 = .ok (.isub, 1) := by decide +kernel
theorem dX13_qGoesOnTest_56 : decode cX13_qGoesOnTest 56 = .ok (.putfield 345, 3) := by decide +kernel
theorem dX13_qGoesOnTest_59 : decode cX13_qGoesOnTest 59 = .ok (.aload_n 0, 1) := by decide +kernel
theorem dX13_qGoesOnTest_60 : decode cX13_qGoesOnTest 60 = .ok (.dup, 1) := by decide +kernel
theorem dX13_qGoesOnTest_61 : decode cX13_qGoesOnTest 61 = .ok (.getfield 348, 3) := by decide +kernel
theorem dX13_qGoesOnTest_64 : decode cX13_qGoesOnTest 64 = .ok (.iconst 1, 1) := by decide +kernel
theorem dX13_qGoesOnTest_65 : decode cX13_qGoesOnTest 65 = .ok (.isub, 1) := by decide +kernel
theorem dX13_qGoesOnTest_66 : decode cX13_qGoesOnTest 66 = .ok (.putfield 348, 3) := by decide +kernel
theorem dX13_qGoesOnTest_69 : decode cX13_qGoesOnTest 69 = .ok (.aload_n 0, 1) := by decide +kernel
theorem dX13_qGoesOnTest_70 : decode cX13_qGoesOnTest 70 = .ok (.invokevirtual 609, 3) := by decide +kernel
theorem dX13_qGoesOnTest_73 : decode cX13_qGoesOnTest 73 = .ok (.goto (-73), 3) := by decide +kernel
theorem dX13_qGoesOnTest_76 : decode cX13_qGoesOnTest 76 = .ok (.aload_n 0, 1) := by decide +kernel
theorem dX13_qGoesOnTest_77 : decode cX13_qGoesOnTest 77 = .ok (.aload_n 0, 1) := by decide +kernel
theorem dX13_qGoesOnTest_78 : decode cX13_qGoesOnTest 78 = .ok (.getfield 188, 3) := by decide +kernel
theorem dX13_qGoesOnTest_81 : decode cX13_qGoesOnTest 81 = .ok (.invokevirtual 284, 3) := by decide +kernel
theorem dX13_qGoesOnTest_84 : decode cX13_qGoesOnTest 84 = .ok (.ifCond .eq 42, 3) := by decide +kernel
theorem dX13_qGoesOnTest_87 : decode cX13_qGoesOnTest 87 = .ok (.aload_n 0, 1) := by decide +kernel
theorem dX13_qGoesOnTest_88 : decode cX13_qGoesOnTest 88 = .ok (.bipush 10, 2) := by decide +kernel
theorem dX13_qGoesOnTest_90 : decode cX13_qGoesOnTest 90 = .ok (.invokevirtual 594, 3) := by decide +kernel
theorem dX13_qGoesOnTest_93 : decode cX13_qGoesOnTest 93 = .ok (.ifCond .eq 10, 3) := by decide +kernel
theorem dX13_qGoesOnTest_96 : decode cX13_qGoesOnTest 96 = .ok (.aload_n 0, 1) := by decide +kernel
theorem dX13_qGoesOnTest_97 : decode cX13_qGoesOnTest 97 = .ok (.invokevirtual 567, 3) := by decide +kernel
theorem dX13_qGoesOnTest_100 : decode cX13_qGoesOnTest 100 = .ok (.goto (-13), 3) := by decide +kernel
theorem dX13_qGoesOnTest_103 : decode cX13_qGoesOnTest 103 = .ok (.aload_n 0, 1) := by decide +kernel
theorem dX13_qGoesOnTest_104 : decode cX13_qGoesOnTest 104 = .ok (.getfield 245, 3) := by decide +kernel
theorem dX13_qGoesOnTest_107 : decode cX13_qGoesOnTest 107 = .ok (.aload_n 0, 1) := by decide +kernel
theorem dX13_qGoesOnTest_108 : decode cX13_qGoesOnTest 108 = .ok (.getfield 345, 3) := by decide +kernel
theorem dX13_qGoesOnTest_111 : decode cX13_qGoesOnTest 111 = .ok (.bipush 10, 2) := by decide +kernel
theorem dX13_qGoesOnTest_113 : decode cX13_qGoesOnTest 113 = .ok (.iastore, 1) := by decide +kernel
theorem dX13_qGoesOnTest_114 : decode cX13_qGoesOnTest 114 = .ok (.aload_n 0, 1) := by decide +kernel
theorem dX13_qGoesOnTest_115 : decode cX13_qGoesOnTest 115 = .ok (.dup, 1) := by decide +kernel
theorem dX13_qGoesOnTest_116 : decode cX13_qGoesOnTest 116 = .ok (.getfield 345, 3) := by decide +kernel
theorem dX13_qGoesOnTest_119 : decode cX13_qGoesOnTest 119 = .ok (.iconst 1, 1) := by decide +kernel
theorem dX13_qGoesOnTest_120 : decode cX13_qGoesOnTest 120 = .ok (.iadd, 1) := by decide +kernel
theorem dX13_qGoesOnTest_121 : decode cX13_qGoesOnTest 121 = .ok (.putfield 345, 3) := by decide +kernel
theorem dX13_qGoesOnTest_124 : decode cX13_qGoesOnTest 124 = .ok (.iconst 1, 1) := by decide +kernel
theorem dX13_qGoesOnTest_125 : decode cX13_qGoesOnTest 125 = .ok (.ireturn, 1) := by decide +kernel
theorem dX13_qGoesOnTest_126 : decode cX13_qGoesOnTest 126 = .ok (.aload_n 0, 1) := by decide +kernel
theorem dX13_qGoesOnTest_127 : decode cX13_qGoesOnTest 127 = .ok (.aload_n 0, 1) := by decide +kernel
theorem dX13_qGoesOnTest_128 : decode cX13_qGoesOnTest 128 = .ok (.getfield 191, 3) := by decide +kernel
theorem dX13_qGoesOnTest_131 : decode cX13_qGoesOnTest 131 = .ok (.invokevirtual 284, 3) := by decide +kernel
theorem dX13_qGoesOnTest_134 : decode cX13_qGoesOnTest 134 = .ok (.ifCond .eq 51, 3) := by decide +kernel
theorem dX13_qGoesOnTest_137 : decode cX13_qGoesOnTest 137 = .ok (.aload_n 0, 1) := by decide +kernel
theorem dX13_qGoesOnTest_138 : decode cX13_qGoesOnTest 138 = .ok (.bipush 10, 2) := by decide +kernel
theorem dX13_qGoesOnTest_140 : decode cX13_qGoesOnTest 140 = .ok (.invokevirtual 594, 3) := by decide +kernel
theorem dX13_qGoesOnTest_143 : decode cX13_qGoesOnTest 143 = .ok (.ifCond .ne 12, 3) := by decide +kernel
theorem dX13_qGoesOnTest_146 : decode cX13_qGoesOnTest 146 = .ok (.aload_n 0, 1) := by decide +kernel
theorem dX13_qGoesOnTest_147 : decode cX13_qGoesOnTest 147 = .ok (.bipush 11, 2) := by decide +kernel
theorem dX13_qGoesOnTest_149 : decode cX13_qGoesOnTest 149 = .ok (.invokevirtual 594, 3) := by decide +kernel
theorem dX13_qGoesOnTest_152 : decode cX13_qGoesOnTest 152 = .ok (.ifCond .eq 10, 3) := by decide +kernel
theorem dX13_qGoesOnTest_155 : decode cX13_qGoesOnTest 155 = .ok (.aload_n 0, 1) := by decide +kernel
theorem dX13_qGoesOnTest_156 : decode cX13_qGoesOnTest 156 = .ok (.invokevirtual 567, 3) := by decide +kernel
theorem dX13_qGoesOnTest_159 : decode cX13_qGoesOnTest 159 = .ok (.goto (-22), 3) := by decide +kernel
theorem dX13_qGoesOnTest_162 : decode cX13_qGoesOnTest 162 = .ok (.aload_n 0, 1) := by decide +kernel
theorem dX13_qGoesOnTest_163 : decode cX13_qGoesOnTest 163 = .ok (.getfield 245, 3) := by decide +kernel
theorem dX13_qGoesOnTest_166 : decode cX13_qGoesOnTest 166 = .ok (.aload_n 0, 1) := by decide +kernel
theorem dX13_qGoesOnTest_167 : decode cX13_qGoesOnTest 167 = .ok (.getfield 345, 3) := by decide +kernel
theorem dX13_qGoesOnTest_170 : decode cX13_qGoesOnTest 170 = .ok (.bipush 11, 2) := by decide +kernel
theorem dX13_qGoesOnTest_172 : decode cX13_qGoesOnTest 172 = .ok (.iastore, 1) := by decide +kernel
theorem dX13_qGoesOnTest_173 : decode cX13_qGoesOnTest 173 = .ok (.aload_n 0, 1) := by decide +kernel
theorem dX13_qGoesOnTest_174 : decode cX13_qGoesOnTest 174 = .ok (.dup, 1) := by decide +kernel
theorem dX13_qGoesOnTest_175 : decode cX13_qGoesOnTest 175 = .ok (.getfield 345, 3) := by decide +kernel
theorem dX13_qGoesOnTest_178 : decode cX13_qGoesOnTest 178 = .ok (.iconst 1, 1) := by decide +kernel
theorem dX13_qGoesOnTest_179 : decode cX13_qGoesOnTest 179 = .ok (.iadd, 1) := by decide +kernel
theorem dX13_qGoesOnTest_180 : decode cX13_qGoesOnTest 180 = .ok (.putfield 345, 3) := by decide +kernel
theorem dX13_qGoesOnTest_183 : decode cX13_qGoesOnTest 183 = .ok (.iconst 1, 1) := by decide +kernel
theorem dX13_qGoesOnTest_184 : decode cX13_qGoesOnTest 184 = .ok (.ireturn, 1) := by decide +kernel
theorem dX13_qGoesOnTest_185 : decode cX13_qGoesOnTest 185 = .ok (.aload_n 0, 1) := by decide +kernel
theorem dX13_qGoesOnTest_186 : decode cX13_qGoesOnTest 186 = .ok (.getfield 257, 3) := by decide +kernel
theorem dX13_qGoesOnTest_189 : decode cX13_qGoesOnTest 189 = .ok (.ifCond .ne 19, 3) := by decide +kernel
theorem dX13_qGoesOnTest_192 : decode cX13_qGoesOnTest 192 = .ok (.aload_n 0, 1) := by decide +kernel
theorem dX13_qGoesOnTest_193 : decode cX13_qGoesOnTest 193 = .ok (.invokevirtual 615, 3) := by decide +kernel
theorem dX13_qGoesOnTest_196 : decode cX13_qGoesOnTest 196 = .ok (.ifCond .eq 12, 3) := by decide +kernel
theorem dX13_qGoesOnTest_199 : decode cX13_qGoesOnTest 199 = .ok (.aload_n 0, 1) := by decide +kernel
theorem dX13_qGoesOnTest_200 : decode cX13_qGoesOnTest 200 = .ok (.iconst 1, 1) := by decide +kernel
theorem dX13_qGoesOnTest_201 : decode cX13_qGoesOnTest 201 = .ok (.aload_n 0, 1) := by decide +kernel
theorem dX13_qGoesOnTest_202 : decode cX13_qGoesOnTest 202 = .ok (.getfield 263, 3) := by decide +kernel
theorem dX13_qGoesOnTest_205 : decode cX13_qGoesOnTest 205 = .ok (.invokevirtual 287, 3) := by decide +kernel
theorem dX13_qGoesOnTest_208 : decode cX13_qGoesOnTest 208 = .ok (.iconst 0, 1) := by decide +kernel
theorem dX13_qGoesOnTest_209 : decode cX13_qGoesOnTest 209 = .ok (.ireturn, 1) := by decide +kernel
theorem bX13_qGoesOnTest_0 {d : Nat}   {I : Ii} {J : Jj} {K : KI}
    (h : ((¬ (I 0 5) = 0) → (CalI wM d mX13_takes [.ref (0), .ref (57)] I J (fun x4 I2 J3 => (((x4 = 0) → (CalI wM d mX13_takes [.ref (0), .ref (58)] I2 J3 (fun x8 I6 J7 => (((x8 = 0) → (((¬ (I6 0 5) = 0) → (K (0) I6 J7)) ∧ (((I6 0 5) = 0) → (CalI wM d mX13_qHasSquare [.ref (0)] I6 J7 (fun x13 I11 J12 => (((x13 = 0) → (K (0) I11 J12)) ∧ ((¬ x13 = 0) → (CalV wM d mX13_fail [.ref (0), .int (1), .int (I11 0 2)] I11 J12 (fun I15 J16 => (K (0) I15 J16)))))))))) ∧ ((¬ x8 = 0) → (GoI wM (d + 1) mX13_qGoesOnTest 137 [(0, .ref (0))] [] I6 J7 K)))))) ∧ ((¬ x4 = 0) → (GoI wM (d + 1) mX13_qGoesOnTest 87 [(0, .ref (0))] [] I2 J3 K)))))) ∧ (((I 0 5) = 0) → (CalI wM d mX13_look [.ref (0)] I J (fun x23 I21 J22 => (((¬ x23 = 93) → (CalI wM d mX13_takes [.ref (0), .ref (57)] I21 J22 (fun x27 I25 J26 => (((x27 = 0) → (CalI wM d mX13_takes [.ref (0), .ref (58)] I25 J26 (fun x31 I29 J30 => (((x31 = 0) → (((¬ (I29 0 5) = 0) → (K (0) I29 J30)) ∧ (((I29 0 5) = 0) → (CalI wM d mX13_qHasSquare [.ref (0)] I29 J30 (fun x36 I34 J35 => (((x36 = 0) → (K (0) I34 J35)) ∧ ((¬ x36 = 0) → (CalV wM d mX13_fail [.ref (0), .int (1), .int (I34 0 2)] I34 J35 (fun I38 J39 => (K (0) I38 J39)))))))))) ∧ ((¬ x31 = 0) → (GoI wM (d + 1) mX13_qGoesOnTest 137 [(0, .ref (0))] [] I29 J30 K)))))) ∧ ((¬ x27 = 0) → (GoI wM (d + 1) mX13_qGoesOnTest 87 [(0, .ref (0))] [] I25 J26 K)))))) ∧ ((x23 = 93) → (CalI wM d mX13_qHasSquare [.ref (0)] I21 J22 (fun x46 I44 J45 => (((x46 = 0) → (CalI wM d mX13_takes [.ref (0), .ref (57)] I44 J45 (fun x50 I48 J49 => (((x50 = 0) → (CalI wM d mX13_takes [.ref (0), .ref (58)] I48 J49 (fun x54 I52 J53 => (((x54 = 0) → (((¬ (I52 0 5) = 0) → (K (0) I52 J53)) ∧ (((I52 0 5) = 0) → (CalI wM d mX13_qHasSquare [.ref (0)] I52 J53 (fun x59 I57 J58 => (((x59 = 0) → (K (0) I57 J58)) ∧ ((¬ x59 = 0) → (CalV wM d mX13_fail [.ref (0), .int (1), .int (I57 0 2)] I57 J58 (fun I61 J62 => (K (0) I61 J62)))))))))) ∧ ((¬ x54 = 0) → (GoI wM (d + 1) mX13_qGoesOnTest 137 [(0, .ref (0))] [] I52 J53 K)))))) ∧ ((¬ x50 = 0) → (GoI wM (d + 1) mX13_qGoesOnTest 87 [(0, .ref (0))] [] I48 J49 K)))))) ∧ ((¬ x46 = 0) → (GoI wM (d + 1) mX13_qGoesOnTest 33 [(0, .ref (0))] [] (u2 I44 0 2 ((I44 0 2) + 1)) J45 K))))))))))) :
    GoI wM (d + 1) mX13_qGoesOnTest 0 [(0, .ref (0))] [] I J K :=
  (g_aload_n dX13_qGoesOnTest_0 0 0 rfl rfl (g_getI dX13_qGoesOnTest_1 fl_X13_257 rfl obM_0 (g_if_ne dX13_qGoesOnTest_4 rfl (fun q1 => (g_aload_n dX13_qGoesOnTest_76 0 0 rfl rfl (g_aload_n dX13_qGoesOnTest_77 0 0 rfl rfl (g_getP dX13_qGoesOnTest_78 fl_X13_188 rfl obM_0 rfl (g_callvI dX13_qGoesOnTest_81 ml_X13_284 md_X13_takes mv_X13_takes obM_0 rfl rfl rfl (Nat.le_of_ble_eq_true rfl) (CalI.mono (h.1 q1) (fun x4 I2 J3 h20 => (g_if_eq dX13_qGoesOnTest_84 rfl (fun q5 => (g_aload_n dX13_qGoesOnTest_126 0 0 rfl rfl (g_aload_n dX13_qGoesOnTest_127 0 0 rfl rfl (g_getP dX13_qGoesOnTest_128 fl_X13_191 rfl obM_0 rfl (g_callvI dX13_qGoesOnTest_131 ml_X13_284 md_X13_takes mv_X13_takes obM_0 rfl rfl rfl (Nat.le_of_ble_eq_true rfl) (CalI.mono (h20.1 q5) (fun x8 I6 J7 h19 => (g_if_eq dX13_qGoesOnTest_134 rfl (fun q9 => (g_aload_n dX13_qGoesOnTest_185 0 0 rfl rfl (g_getI dX13_qGoesOnTest_186 fl_X13_257 rfl obM_0 (g_if_ne dX13_qGoesOnTest_189 rfl (fun q10 => (g_iconst dX13_qGoesOnTest_208 kc_0 (g_zreturn dX13_qGoesOnTest_209 rfl (narZ (by decide)) ⟨_, rfl, ((h19.1 q9).1 q10)⟩))) (fun q10 => (g_aload_n dX13_qGoesOnTest_192 0 0 rfl rfl (g_callvI dX13_qGoesOnTest_193 ml_X13_615 md_X13_qHasSquare mv_X13_qHasSquare obM_0 rfl rfl rfl (Nat.le_of_ble_eq_true rfl) (CalI.mono ((h19.1 q9).2 q10) (fun x13 I11 J12 h18 => (g_if_eq dX13_qGoesOnTest_196 rfl (fun q14 => (g_iconst dX13_qGoesOnTest_208 kc_0 (g_zreturn dX13_qGoesOnTest_209 rfl (narZ (by decide)) ⟨_, rfl, (h18.1 q14)⟩))) (fun q14 => (g_aload_n dX13_qGoesOnTest_199 0 0 rfl rfl (g_iconst dX13_qGoesOnTest_200 kc_1 (g_aload_n dX13_qGoesOnTest_201 0 0 rfl rfl (g_getI dX13_qGoesOnTest_202 fl_X13_263 rfl obM_0 (g_callvV dX13_qGoesOnTest_205 ml_X13_287 md_X13_fail mv_X13_fail obM_0 rfl rfl rfl (Nat.le_of_ble_eq_true rfl) (CalV.mono (h18.2 q14) (fun I15 J16 h17 => (g_iconst dX13_qGoesOnTest_208 kc_0 (g_zreturn dX13_qGoesOnTest_209 rfl (narZ (by decide)) ⟨_, rfl, h17⟩)))))))))))))))))))) (fun q9 => (h19.2 q9)))))))))) (fun q5 => (h20.2 q5)))))))))) (fun q1 => (g_aload_n dX13_qGoesOnTest_7 0 0 rfl rfl (g_callvI dX13_qGoesOnTest_8 ml_X13_269 md_X13_look mv_X13_look obM_0 rfl rfl rfl (Nat.le_of_ble_eq_true rfl) (CalI.mono (h.2 q1) (fun x23 I21 J22 h69 => (g_bipush dX13_qGoesOnTest_11 kb_93 (g_icmp_ne dX13_qGoesOnTest_13 rfl (fun q24 => (g_aload_n dX13_qGoesOnTest_76 0 0 rfl rfl (g_aload_n dX13_qGoesOnTest_77 0 0 rfl rfl (g_getP dX13_qGoesOnTest_78 fl_X13_188 rfl obM_0 rfl (g_callvI dX13_qGoesOnTest_81 ml_X13_284 md_X13_takes mv_X13_takes obM_0 rfl rfl rfl (Nat.le_of_ble_eq_true rfl) (CalI.mono (h69.1 q24) (fun x27 I25 J26 h43 => (g_if_eq dX13_qGoesOnTest_84 rfl (fun q28 => (g_aload_n dX13_qGoesOnTest_126 0 0 rfl rfl (g_aload_n dX13_qGoesOnTest_127 0 0 rfl rfl (g_getP dX13_qGoesOnTest_128 fl_X13_191 rfl obM_0 rfl (g_callvI dX13_qGoesOnTest_131 ml_X13_284 md_X13_takes mv_X13_takes obM_0 rfl rfl rfl (Nat.le_of_ble_eq_true rfl) (CalI.mono (h43.1 q28) (fun x31 I29 J30 h42 => (g_if_eq dX13_qGoesOnTest_134 rfl (fun q32 => (g_aload_n dX13_qGoesOnTest_185 0 0 rfl rfl (g_getI dX13_qGoesOnTest_186 fl_X13_257 rfl obM_0 (g_if_ne dX13_qGoesOnTest_189 rfl (fun q33 => (g_iconst dX13_qGoesOnTest_208 kc_0 (g_zreturn dX13_qGoesOnTest_209 rfl (narZ (by decide)) ⟨_, rfl, ((h42.1 q32).1 q33)⟩))) (fun q33 => (g_aload_n dX13_qGoesOnTest_192 0 0 rfl rfl (g_callvI dX13_qGoesOnTest_193 ml_X13_615 md_X13_qHasSquare mv_X13_qHasSquare obM_0 rfl rfl rfl (Nat.le_of_ble_eq_true rfl) (CalI.mono ((h42.1 q32).2 q33) (fun x36 I34 J35 h41 => (g_if_eq dX13_qGoesOnTest_196 rfl (fun q37 => (g_iconst dX13_qGoesOnTest_208 kc_0 (g_zreturn dX13_qGoesOnTest_209 rfl (narZ (by decide)) ⟨_, rfl, (h41.1 q37)⟩))) (fun q37 => (g_aload_n dX13_qGoesOnTest_199 0 0 rfl rfl (g_iconst dX13_qGoesOnTest_200 kc_1 (g_aload_n dX13_qGoesOnTest_201 0 0 rfl rfl (g_getI dX13_qGoesOnTest_202 fl_X13_263 rfl obM_0 (g_callvV dX13_qGoesOnTest_205 ml_X13_287 md_X13_fail mv_X13_fail obM_0 rfl rfl rfl (Nat.le_of_ble_eq_true rfl) (CalV.mono (h41.2 q37) (fun I38 J39 h40 => (g_iconst dX13_qGoesOnTest_208 kc_0 (g_zreturn dX13_qGoesOnTest_209 rfl (narZ (by decide)) ⟨_, rfl, h40⟩)))))))))))))))))))) (fun q32 => (h42.2 q32)))))))))) (fun q28 => (h43.2 q28)))))))))) (fun q24 => (g_aload_n dX13_qGoesOnTest_16 0 0 rfl rfl (g_callvI dX13_qGoesOnTest_17 ml_X13_615 md_X13_qHasSquare mv_X13_qHasSquare obM_0 rfl rfl rfl (Nat.le_of_ble_eq_true rfl) (CalI.mono (h69.2 q24) (fun x46 I44 J45 h68 => (g_if_eq dX13_qGoesOnTest_20 rfl (fun q47 => (g_aload_n dX13_qGoesOnTest_76 0 0 rfl rfl (g_aload_n dX13_qGoesOnTest_77 0 0 rfl rfl (g_getP dX13_qGoesOnTest_78 fl_X13_188 rfl obM_0 rfl (g_callvI dX13_qGoesOnTest_81 ml_X13_284 md_X13_takes mv_X13_takes obM_0 rfl rfl rfl (Nat.le_of_ble_eq_true rfl) (CalI.mono (h68.1 q47) (fun x50 I48 J49 h66 => (g_if_eq dX13_qGoesOnTest_84 rfl (fun q51 => (g_aload_n dX13_qGoesOnTest_126 0 0 rfl rfl (g_aload_n dX13_qGoesOnTest_127 0 0 rfl rfl (g_getP dX13_qGoesOnTest_128 fl_X13_191 rfl obM_0 rfl (g_callvI dX13_qGoesOnTest_131 ml_X13_284 md_X13_takes mv_X13_takes obM_0 rfl rfl rfl (Nat.le_of_ble_eq_true rfl) (CalI.mono (h66.1 q51) (fun x54 I52 J53 h65 => (g_if_eq dX13_qGoesOnTest_134 rfl (fun q55 => (g_aload_n dX13_qGoesOnTest_185 0 0 rfl rfl (g_getI dX13_qGoesOnTest_186 fl_X13_257 rfl obM_0 (g_if_ne dX13_qGoesOnTest_189 rfl (fun q56 => (g_iconst dX13_qGoesOnTest_208 kc_0 (g_zreturn dX13_qGoesOnTest_209 rfl (narZ (by decide)) ⟨_, rfl, ((h65.1 q55).1 q56)⟩))) (fun q56 => (g_aload_n dX13_qGoesOnTest_192 0 0 rfl rfl (g_callvI dX13_qGoesOnTest_193 ml_X13_615 md_X13_qHasSquare mv_X13_qHasSquare obM_0 rfl rfl rfl (Nat.le_of_ble_eq_true rfl) (CalI.mono ((h65.1 q55).2 q56) (fun x59 I57 J58 h64 => (g_if_eq dX13_qGoesOnTest_196 rfl (fun q60 => (g_iconst dX13_qGoesOnTest_208 kc_0 (g_zreturn dX13_qGoesOnTest_209 rfl (narZ (by decide)) ⟨_, rfl, (h64.1 q60)⟩))) (fun q60 => (g_aload_n dX13_qGoesOnTest_199 0 0 rfl rfl (g_iconst dX13_qGoesOnTest_200 kc_1 (g_aload_n dX13_qGoesOnTest_201 0 0 rfl rfl (g_getI dX13_qGoesOnTest_202 fl_X13_263 rfl obM_0 (g_callvV dX13_qGoesOnTest_205 ml_X13_287 md_X13_fail mv_X13_fail obM_0 rfl rfl rfl (Nat.le_of_ble_eq_true rfl) (CalV.mono (h64.2 q60) (fun I61 J62 h63 => (g_iconst dX13_qGoesOnTest_208 kc_0 (g_zreturn dX13_qGoesOnTest_209 rfl (narZ (by decide)) ⟨_, rfl, h63⟩)))))))))))))))))))) (fun q55 => (h65.2 q55)))))))))) (fun q51 => (h66.2 q51)))))))))) (fun q47 => (g_aload_n dX13_qGoesOnTest_23 0 0 rfl rfl (g_dup dX13_qGoesOnTest_24 rfl (g_getI dX13_qGoesOnTest_25 fl_X13_263 rfl obM_0 (g_iconst dX13_qGoesOnTest_28 kc_1 (g_iadd dX13_qGoesOnTest_29 (g_putI dX13_qGoesOnTest_30 fl_X13_263 rfl rfl obM_0 (h68.2 q47))))))))))))))))))))))))
theorem bX13_qGoesOnTest_137 {d : Nat}   {I : Ii} {J : Jj} {K : KI}
    (h : CalI wM d mX13_qIsOn [.ref (0), .int (10)] I J (fun x3 I1 J2 => (((¬ x3 = 0) → (CalV wM d mX13_qDrops [.ref (0)] I1 J2 (fun I5 J6 => (GoI wM (d + 1) mX13_qGoesOnTest 137 [(0, .ref (0))] [] I5 J6 K)))) ∧ ((x3 = 0) → (CalI wM d mX13_qIsOn [.ref (0), .int (11)] I1 J2 (fun x10 I8 J9 => (((x10 = 0) → (vp_in (I8 0 96) 1700 ∧ (∀ I13 : Ii, I13 = u2 I8 76 (I8 0 96).toNatClampNeg 11 → (K (1) (u2 I13 0 96 ((I13 0 96) + 1)) J9)))) ∧ ((¬ x10 = 0) → (CalV wM d mX13_qDrops [.ref (0)] I8 J9 (fun I15 J16 => (GoI wM (d + 1) mX13_qGoesOnTest 137 [(0, .ref (0))] [] I15 J16 K))))))))))) :
    GoI wM (d + 1) mX13_qGoesOnTest 137 [(0, .ref (0))] [] I J K :=
  (g_aload_n dX13_qGoesOnTest_137 0 0 rfl rfl (g_bipush dX13_qGoesOnTest_138 kb_10 (g_callvI dX13_qGoesOnTest_140 ml_X13_594 md_X13_qIsOn mv_X13_qIsOn obM_0 rfl rfl rfl (Nat.le_of_ble_eq_true rfl) (CalI.mono h (fun x3 I1 J2 h19 => (g_if_ne dX13_qGoesOnTest_143 rfl (fun q4 => (g_aload_n dX13_qGoesOnTest_155 0 0 rfl rfl (g_callvV dX13_qGoesOnTest_156 ml_X13_567 md_X13_qDrops mv_X13_qDrops obM_0 rfl rfl rfl (Nat.le_of_ble_eq_true rfl) (CalV.mono (h19.1 q4) (fun I5 J6 h7 => (g_goto dX13_qGoesOnTest_159 rfl h7)))))) (fun q4 => (g_aload_n dX13_qGoesOnTest_146 0 0 rfl rfl (g_bipush dX13_qGoesOnTest_147 kb_11 (g_callvI dX13_qGoesOnTest_149 ml_X13_594 md_X13_qIsOn mv_X13_qIsOn obM_0 rfl rfl rfl (Nat.le_of_ble_eq_true rfl) (CalI.mono (h19.2 q4) (fun x10 I8 J9 h18 => (g_if_eq dX13_qGoesOnTest_152 rfl (fun q11 => (g_aload_n dX13_qGoesOnTest_162 0 0 rfl rfl (g_getP dX13_qGoesOnTest_163 fl_X13_245 rfl obM_0 rfl (g_aload_n dX13_qGoesOnTest_166 0 0 rfl rfl (g_getI dX13_qGoesOnTest_167 fl_X13_345 rfl obM_0 (g_bipush dX13_qGoesOnTest_170 kb_11 (have b12 := (h18.1 q11).1; g_iast dX13_qGoesOnTest_172 arM_76 b12 (g_aload_n dX13_qGoesOnTest_173 0 0 rfl rfl (g_dup dX13_qGoesOnTest_174 rfl (g_getI dX13_qGoesOnTest_175 fl_X13_345 rfl obM_0 (g_iconst dX13_qGoesOnTest_178 kc_1 (g_iadd dX13_qGoesOnTest_179 (g_putI dX13_qGoesOnTest_180 fl_X13_345 rfl rfl obM_0 (g_iconst dX13_qGoesOnTest_183 kc_1 (g_zreturn dX13_qGoesOnTest_184 rfl (narZ (by decide)) ⟨_, rfl, ((h18.1 q11).2 _ rfl)⟩))))))))))))))) (fun q11 => (g_aload_n dX13_qGoesOnTest_155 0 0 rfl rfl (g_callvV dX13_qGoesOnTest_156 ml_X13_567 md_X13_qDrops mv_X13_qDrops obM_0 rfl rfl rfl (Nat.le_of_ble_eq_true rfl) (CalV.mono (h18.2 q11) (fun I15 J16 h17 => (g_goto dX13_qGoesOnTest_159 rfl h17)))))))))))))))))))
theorem bX13_qGoesOnTest_87 {d : Nat}   {I : Ii} {J : Jj} {K : KI}
    (h : CalI wM d mX13_qIsOn [.ref (0), .int (10)] I J (fun x3 I1 J2 => (((x3 = 0) → (vp_in (I1 0 96) 1700 ∧ (∀ I6 : Ii, I6 = u2 I1 76 (I1 0 96).toNatClampNeg 10 → (K (1) (u2 I6 0 96 ((I6 0 96) + 1)) J2)))) ∧ ((¬ x3 = 0) → (CalV wM d mX13_qDrops [.ref (0)] I1 J2 (fun I8 J9 => (GoI wM (d + 1) mX13_qGoesOnTest 87 [(0, .ref (0))] [] I8 J9 K))))))) :
    GoI wM (d + 1) mX13_qGoesOnTest 87 [(0, .ref (0))] [] I J K :=
  (g_aload_n dX13_qGoesOnTest_87 0 0 rfl rfl (g_bipush dX13_qGoesOnTest_88 kb_10 (g_callvI dX13_qGoesOnTest_90 ml_X13_594 md_X13_qIsOn mv_X13_qIsOn obM_0 rfl rfl rfl (Nat.le_of_ble_eq_true rfl) (CalI.mono h (fun x3 I1 J2 h11 => (g_if_eq dX13_qGoesOnTest_93 rfl (fun q4 => (g_aload_n dX13_qGoesOnTest_103 0 0 rfl rfl (g_getP dX13_qGoesOnTest_104 fl_X13_245 rfl obM_0 rfl (g_aload_n dX13_qGoesOnTest_107 0 0 rfl rfl (g_getI dX13_qGoesOnTest_108 fl_X13_345 rfl obM_0 (g_bipush dX13_qGoesOnTest_111 kb_10 (have b5 := (h11.1 q4).1; g_iast dX13_qGoesOnTest_113 arM_76 b5 (g_aload_n dX13_qGoesOnTest_114 0 0 rfl rfl (g_dup dX13_qGoesOnTest_115 rfl (g_getI dX13_qGoesOnTest_116 fl_X13_345 rfl obM_0 (g_iconst dX13_qGoesOnTest_119 kc_1 (g_iadd dX13_qGoesOnTest_120 (g_putI dX13_qGoesOnTest_121 fl_X13_345 rfl rfl obM_0 (g_iconst dX13_qGoesOnTest_124 kc_1 (g_zreturn dX13_qGoesOnTest_125 rfl (narZ (by decide)) ⟨_, rfl, ((h11.1 q4).2 _ rfl)⟩))))))))))))))) (fun q4 => (g_aload_n dX13_qGoesOnTest_96 0 0 rfl rfl (g_callvV dX13_qGoesOnTest_97 ml_X13_567 md_X13_qDrops mv_X13_qDrops obM_0 rfl rfl rfl (Nat.le_of_ble_eq_true rfl) (CalV.mono (h11.2 q4) (fun I8 J9 h10 => (g_goto dX13_qGoesOnTest_100 rfl h10))))))))))))
theorem bX13_qGoesOnTest_33 {d : Nat}   {I : Ii} {J : Jj} {K : KI}
    (h : CalI wM d mX13_qIsOn [.ref (0), .int (25)] I J (fun x3 I1 J2 => (((¬ x3 = 0) → (∀ I5 : Ii, I5 = u2 I1 0 96 ((I1 0 96) - 1) → (CalV wM d mX13_qDropsNots [.ref (0)] (u2 I5 0 97 ((I5 0 97) - 1)) J2 (fun I7 J8 => (GoI wM (d + 1) mX13_qGoesOnTest 0 [(0, .ref (0))] [] I7 J8 K))))) ∧ ((x3 = 0) → (CalV wM d mX13_qDrops [.ref (0)] I1 J2 (fun I10 J11 => (GoI wM (d + 1) mX13_qGoesOnTest 33 [(0, .ref (0))] [] I10 J11 K))))))) :
    GoI wM (d + 1) mX13_qGoesOnTest 33 [(0, .ref (0))] [] I J K :=
  (g_aload_n dX13_qGoesOnTest_33 0 0 rfl rfl (g_bipush dX13_qGoesOnTest_34 kb_25 (g_callvI dX13_qGoesOnTest_36 ml_X13_594 md_X13_qIsOn mv_X13_qIsOn obM_0 rfl rfl rfl (Nat.le_of_ble_eq_true rfl) (CalI.mono h (fun x3 I1 J2 h13 => (g_if_ne dX13_qGoesOnTest_39 rfl (fun q4 => (g_aload_n dX13_qGoesOnTest_49 0 0 rfl rfl (g_dup dX13_qGoesOnTest_50 rfl (g_getI dX13_qGoesOnTest_51 fl_X13_345 rfl obM_0 (g_iconst dX13_qGoesOnTest_54 kc_1 (g_isub dX13_qGoesOnTest_55 (g_putI dX13_qGoesOnTest_56 fl_X13_345 rfl rfl obM_0 (g_aload_n dX13_qGoesOnTest_59 0 0 rfl rfl (g_dup dX13_qGoesOnTest_60 rfl (g_getI dX13_qGoesOnTest_61 fl_X13_348 rfl obM_0 (g_iconst dX13_qGoesOnTest_64 kc_1 (g_isub dX13_qGoesOnTest_65 (g_putI dX13_qGoesOnTest_66 fl_X13_348 rfl rfl obM_0 (g_aload_n dX13_qGoesOnTest_69 0 0 rfl rfl (g_callvV dX13_qGoesOnTest_70 ml_X13_609 md_X13_qDropsNots mv_X13_qDropsNots obM_0 rfl rfl rfl (Nat.le_of_ble_eq_true rfl) (CalV.mono ((h13.1 q4) _ rfl) (fun I7 J8 h9 => (g_goto dX13_qGoesOnTest_73 rfl h9)))))))))))))))))) (fun q4 => (g_aload_n dX13_qGoesOnTest_42 0 0 rfl rfl (g_callvV dX13_qGoesOnTest_43 ml_X13_567 md_X13_qDrops mv_X13_qDrops obM_0 rfl rfl rfl (Nat.le_of_ble_eq_true rfl) (CalV.mono (h13.2 q4) (fun I10 J11 h12 => (g_goto dX13_qGoesOnTest_46 rfl h12))))))))))))
theorem dX13_qHasSquare_0 : decode cX13_qHasSquare 0 = .ok (.iconst 0, 1) := by decide +kernel
theorem dX13_qHasSquare_1 : decode cX13_qHasSquare 1 = .ok (.istore_n 1, 1) := by decide +kernel
theorem dX13_qHasSquare_2 : decode cX13_qHasSquare 2 = .ok (.iload_n 1, 1) := by decide +kernel
theorem dX13_qHasSquare_3 : decode cX13_qHasSquare 3 = .ok (.aload_n 0, 1) := by decide +kernel
theorem dX13_qHasSquare_4 : decode cX13_qHasSquare 4 = .ok (.getfield 345, 3) := by decide +kernel
theorem dX13_qHasSquare_7 : decode cX13_qHasSquare 7 = .ok (.if_icmp .ge 22, 3) := by decide +kernel
theorem dX13_qHasSquare_10 : decode cX13_qHasSquare 10 = .ok (.aload_n 0, 1) := by decide +kernel
theorem dX13_qHasSquare_11 : decode cX13_qHasSquare 11 = .ok (.getfield 245, 3) := by decide +kernel
theorem dX13_qHasSquare_14 : decode cX13_qHasSquare 14 = .ok (.iload_n 1, 1) := by decide +kernel
theorem dX13_qHasSquare_15 : decode cX13_qHasSquare 15 = .ok (.iaload, 1) := by decide +kernel
theorem dX13_qHasSquare_16 : decode cX13_qHasSquare 16 = .ok (.bipush 25, 2) := by decide +kernel
theorem dX13_qHasSquare_18 : decode cX13_qHasSquare 18 = .ok (.if_icmp .ne 5, 3) := by decide +kernel
theorem dX13_qHasSquare_21 : decode cX13_qHasSquare 21 = .ok (.iconst 1, 1) := by decide +kernel
theorem dX13_qHasSquare_22 : decode cX13_qHasSquare 22 = .ok (.ireturn, 1) := by decide +kernel
theorem dX13_qHasSquare_23 : decode cX13_qHasSquare 23 = .ok (.iinc 1 1, 3) := by decide +kernel
theorem dX13_qHasSquare_26 : decode cX13_qHasSquare 26 = .ok (.goto (-24), 3) := by decide +kernel
theorem dX13_qHasSquare_29 : decode cX13_qHasSquare 29 = .ok (.iconst 0, 1) := by decide +kernel
theorem dX13_qHasSquare_30 : decode cX13_qHasSquare 30 = .ok (.ireturn, 1) := by decide +kernel
theorem bX13_qHasSquare_0 {d : Nat}   {I : Ii} {J : Jj} {K : KI}
    (h : GoI wM d mX13_qHasSquare 2 [(0, .ref (0)), (1, .int (0))] [] I J K) :
    GoI wM d mX13_qHasSquare 0 [(0, .ref (0))] [] I J K :=
  (g_iconst dX13_qHasSquare_0 kc_0 (g_istore_n dX13_qHasSquare_1 rfl (by decide) rfl (g_sub [1, 0] rfl h)))
theorem bX13_qHasSquare_2 {d : Nat}  {v1 : Int32} {I : Ii} {J : Jj} {K : KI}
    (h : (((I 0 96) ≤ v1) → (K (0) I J)) ∧ ((¬ (I 0 96) ≤ v1) → (vp_in (v1) 1700 ∧ (((¬ (I 76 v1.toNatClampNeg) = 25) → (GoI wM d mX13_qHasSquare 2 [(0, .ref (0)), (1, .int (v1 + 1))] [] I J K)) ∧ (((I 76 v1.toNatClampNeg) = 25) → (K (1) I J)))))) :
    GoI wM d mX13_qHasSquare 2 [(0, .ref (0)), (1, .int (v1))] [] I J K :=
  (g_iload_n dX13_qHasSquare_2 1 1 rfl rfl (g_aload_n dX13_qHasSquare_3 0 0 rfl rfl (g_getI dX13_qHasSquare_4 fl_X13_345 rfl obM_0 (g_icmp_ge dX13_qHasSquare_7 rfl (fun q1 => (g_iconst dX13_qHasSquare_29 kc_0 (g_zreturn dX13_qHasSquare_30 rfl (narZ (by decide)) ⟨_, rfl, (h.1 q1)⟩))) (fun q1 => (g_aload_n dX13_qHasSquare_10 0 0 rfl rfl (g_getP dX13_qHasSquare_11 fl_X13_245 rfl obM_0 rfl (g_iload_n dX13_qHasSquare_14 1 1 rfl rfl (have b2 := (h.2 q1).1; g_iald dX13_qHasSquare_15 arM_76 b2 (g_bipush dX13_qHasSquare_16 kb_25 (g_icmp_ne dX13_qHasSquare_18 rfl (fun q3 => (g_iinc dX13_qHasSquare_23 1 rfl rfl (by decide) rfl (g_goto dX13_qHasSquare_26 rfl (g_sub [1, 0] rfl ((h.2 q1).2.1 q3))))) (fun q3 => (g_iconst dX13_qHasSquare_21 kc_1 (g_zreturn dX13_qHasSquare_22 rfl (narZ (by decide)) ⟨_, rfl, ((h.2 q1).2.2 q3)⟩))))))))))))))
theorem dX13_stands_0 : decode cX13_stands 0 = .ok (.iconst 0, 1) := by decide +kernel
theorem dX13_stands_1 : decode cX13_stands 1 = .ok (.istore_n 1, 1) := by decide +kernel
theorem dX13_stands_2 : decode cX13_stands 2 = .ok (.iload_n 1, 1) := by decide +kernel
theorem dX13_stands_3 : decode cX13_stands 3 = .ok (.iconst 2, 1) := by decide +kernel
theorem dX13_stands_4 : decode cX13_stands 4 = .ok (.if_icmp .ge 23, 3) := by decide +kernel
theorem dX13_stands_7 : decode cX13_stands 7 = .ok (.aload_n 0, 1) := by decide +kernel
theorem dX13_stands_8 : decode cX13_stands 8 = .ok (.getfield 105, 3) := by decide +kernel
theorem dX13_stands_11 : decode cX13_stands 11 = .ok (.iconst 2, 1) := by decide +kernel
theorem dX13_stands_12 : decode cX13_stands 12 = .ok (.iload_n 1, 1) := by decide +kernel
theorem dX13_stands_13 : decode cX13_stands 13 = .ok (.iadd, 1) := by decide +kernel
theorem dX13_stands_14 : decode cX13_stands 14 = .ok (.aload_n 0, 1) := by decide +kernel
theorem dX13_stands_15 : decode cX13_stands 15 = .ok (.getfield 105, 3) := by decide +kernel
theorem dX13_stands_18 : decode cX13_stands 18 = .ok (.iload_n 1, 1) := by decide +kernel
theorem dX13_stands_19 : decode cX13_stands 19 = .ok (.iaload, 1) := by decide +kernel
theorem dX13_stands_20 : decode cX13_stands 20 = .ok (.iastore, 1) := by decide +kernel
theorem dX13_stands_21 : decode cX13_stands 21 = .ok (.iinc 1 1, 3) := by decide +kernel
theorem dX13_stands_24 : decode cX13_stands 24 = .ok (.goto (-22), 3) := by decide +kernel
theorem dX13_stands_27 : decode cX13_stands 27 = .ok (.iconst 0, 1) := by decide +kernel
theorem dX13_stands_28 : decode cX13_stands 28 = .ok (.istore_n 1, 1) := by decide +kernel
theorem dX13_stands_29 : decode cX13_stands 29 = .ok (.iload_n 1, 1) := by decide +kernel
theorem dX13_stands_30 : decode cX13_stands 30 = .ok (.bipush 16, 2) := by decide +kernel
theorem dX13_stands_32 : decode cX13_stands 32 = .ok (.if_icmp .ge 24, 3) := by decide +kernel
theorem dX13_stands_35 : decode cX13_stands 35 = .ok (.aload_n 0, 1) := by decide +kernel
theorem dX13_stands_36 : decode cX13_stands 36 = .ok (.getfield 108, 3) := by decide +kernel
theorem dX13_stands_39 : decode cX13_stands 39 = .ok (.bipush 16, 2) := by decide +kernel
theorem dX13_stands_41 : decode cX13_stands 41 = .ok (.iload_n 1, 1) := by decide +kernel
theorem dX13_stands_42 : decode cX13_stands 42 = .ok (.iadd, 1) := by decide +kernel
theorem dX13_stands_43 : decode cX13_stands 43 = .ok (.aload_n 0, 1) := by decide +kernel
theorem dX13_stands_44 : decode cX13_stands 44 = .ok (.getfield 108, 3) := by decide +kernel
theorem dX13_stands_47 : decode cX13_stands 47 = .ok (.iload_n 1, 1) := by decide +kernel
theorem dX13_stands_48 : decode cX13_stands 48 = .ok (.laload, 1) := by decide +kernel
theorem dX13_stands_49 : decode cX13_stands 49 = .ok (.lastore, 1) := by decide +kernel
theorem dX13_stands_50 : decode cX13_stands 50 = .ok (.iinc 1 1, 3) := by decide +kernel
theorem dX13_stands_53 : decode cX13_stands 53 = .ok (.goto (-24), 3) := by decide +kernel
theorem dX13_stands_56 : decode cX13_stands 56 = .ok (.iconst 0, 1) := by decide +kernel
theorem dX13_stands_57 : decode cX13_stands 57 = .ok (.istore_n 1, 1) := by decide +kernel
theorem dX13_stands_58 : decode cX13_stands 58 = .ok (.iload_n 1, 1) := by decide +kernel
theorem dX13_stands_59 : decode cX13_stands 59 = .ok (.bipush 8, 2) := by decide +kernel
theorem dX13_stands_61 : decode cX13_stands 61 = .ok (.if_icmp .ge 39, 3) := by decide +kernel
theorem dX13_stands_64 : decode cX13_stands 64 = .ok (.aload_n 0, 1) := by decide +kernel
theorem dX13_stands_65 : decode cX13_stands 65 = .ok (.getfield 112, 3) := by decide +kernel
theorem dX13_stands_68 : decode cX13_stands 68 = .ok (.bipush 8, 2) := by decide +kernel
theorem dX13_stands_70 : decode cX13_stands 70 = .ok (.iload_n 1, 1) := by decide +kernel
theorem dX13_stands_71 : decode cX13_stands 71 = .ok (.iadd, 1) := by decide +kernel
theorem dX13_stands_72 : decode cX13_stands 72 = .ok (.aload_n 0, 1) := by decide +kernel
theorem dX13_stands_73 : decode cX13_stands 73 = .ok (.getfield 112, 3) := by decide +kernel
theorem dX13_stands_76 : decode cX13_stands 76 = .ok (.iload_n 1, 1) := by decide +kernel
theorem dX13_stands_77 : decode cX13_stands 77 = .ok (.iaload, 1) := by decide +kernel
theorem dX13_stands_78 : decode cX13_stands 78 = .ok (.iastore, 1) := by decide +kernel
theorem dX13_stands_79 : decode cX13_stands 79 = .ok (.aload_n 0, 1) := by decide +kernel
theorem dX13_stands_80 : decode cX13_stands 80 = .ok (.getfield 115, 3) := by decide +kernel
theorem dX13_stands_83 : decode cX13_stands 83 = .ok (.bipush 8, 2) := by decide +kernel
theorem dX13_stands_85 : decode cX13_stands 85 = .ok (.iload_n 1, 1) := by decide +kernel
theorem dX13_stands_86 : decode cX13_stands 86 = .ok (.iadd, 1) := by decide +kernel
theorem dX13_stands_87 : decode cX13_stands 87 = .ok (.aload_n 0, 1) := by decide +kernel
theorem dX13_stands_88 : decode cX13_stands 88 = .ok (.getfield 115, 3) := by decide +kernel
theorem dX13_stands_91 : decode cX13_stands 91 = .ok (.iload_n 1, 1) := by decide +kernel
theorem dX13_stands_92 : decode cX13_stands 92 = .ok (.iaload, 1) := by decide +kernel
theorem dX13_stands_93 : decode cX13_stands 93 = .ok (.iastore, 1) := by decide +kernel
theorem dX13_stands_94 : decode cX13_stands 94 = .ok (.iinc 1 1, 3) := by decide +kernel
theorem dX13_stands_97 : decode cX13_stands 97 = .ok (.goto (-39), 3) := by decide +kernel
theorem dX13_stands_100 : decode cX13_stands 100 = .ok (.iconst 0, 1) := by decide +kernel
theorem dX13_stands_101 : decode cX13_stands 101 = .ok (.istore_n 1, 1) := by decide +kernel
theorem dX13_stands_102 : decode cX13_stands 102 = .ok (.iload_n 1, 1) := by decide +kernel
theorem dX13_stands_103 : decode cX13_stands 103 = .ok (.iconst 3, 1) := by decide +kernel
theorem dX13_stands_104 : decode cX13_stands 104 = .ok (.if_icmp .ge 51, 3) := by decide +kernel
theorem dX13_stands_107 : decode cX13_stands 107 = .ok (.aload_n 0, 1) := by decide +kernel
theorem dX13_stands_108 : decode cX13_stands 108 = .ok (.getfield 127, 3) := by decide +kernel
theorem dX13_stands_111 : decode cX13_stands 111 = .ok (.iconst 3, 1) := by decide +kernel
theorem dX13_stands_112 : decode cX13_stands 112 = .ok (.iload_n 1, 1) := by decide +kernel
theorem dX13_stands_113 : decode cX13_stands 113 = .ok (.iadd, 1) := by decide +kernel
theorem dX13_stands_114 : decode cX13_stands 114 = .ok (.aload_n 0, 1) := by decide +kernel
theorem dX13_stands_115 : decode cX13_stands 115 = .ok (.getfield 127, 3) := by decide +kernel
theorem dX13_stands_118 : decode cX13_stands 118 = .ok (.iload_n 1, 1) := by decide +kernel
theorem dX13_stands_119 : decode cX13_stands 119 = .ok (.iaload, 1) := by decide +kernel
theorem dX13_stands_120 : decode cX13_stands 120 = .ok (.iastore, 1) := by decide +kernel
theorem dX13_stands_121 : decode cX13_stands 121 = .ok (.aload_n 0, 1) := by decide +kernel
theorem dX13_stands_122 : decode cX13_stands 122 = .ok (.getfield 130, 3) := by decide +kernel
theorem dX13_stands_125 : decode cX13_stands 125 = .ok (.iconst 3, 1) := by decide +kernel
theorem dX13_stands_126 : decode cX13_stands 126 = .ok (.iload_n 1, 1) := by decide +kernel
theorem dX13_stands_127 : decode cX13_stands 127 = .ok (.iadd, 1) := by decide +kernel
theorem dX13_stands_128 : decode cX13_stands 128 = .ok (.aload_n 0, 1) := by decide +kernel
theorem dX13_stands_129 : decode cX13_stands 129 = .ok (.getfield 130, 3) := by decide +kernel
theorem dX13_stands_132 : decode cX13_stands 132 = .ok (.iload_n 1, 1) := by decide +kernel
theorem dX13_stands_133 : decode cX13_stands 133 = .ok (.iaload, 1) := by decide +kernel
theorem dX13_stands_134 : decode cX13_stands 134 = .ok (.iastore, 1) := by decide +kernel
theorem dX13_stands_135 : decode cX13_stands 135 = .ok (.aload_n 0, 1) := by decide +kernel
theorem dX13_stands_136 : decode cX13_stands 136 = .ok (.getfield 133, 3) := by decide +kernel
theorem dX13_stands_139 : decode cX13_stands 139 = .ok (.iconst 3, 1) := by decide +kernel
theorem dX13_stands_140 : decode cX13_stands 140 = .ok (.iload_n 1, 1) := by decide +kernel
theorem dX13_stands_141 : decode cX13_stands 141 = .ok (.iadd, 1) := by decide +kernel
theorem dX13_stands_142 : decode cX13_stands 142 = .ok (.aload_n 0, 1) := by decide +kernel
theorem dX13_stands_143 : decode cX13_stands 143 = .ok (.getfield 133, 3) := by decide +kernel
theorem dX13_stands_146 : decode cX13_stands 146 = .ok (.iload_n 1, 1) := by decide +kernel
theorem dX13_stands_147 : decode cX13_stands 147 = .ok (.iaload, 1) := by decide +kernel
theorem dX13_stands_148 : decode cX13_stands 148 = .ok (.iastore, 1) := by decide +kernel
theorem dX13_stands_149 : decode cX13_stands 149 = .ok (.iinc 1 1, 3) := by decide +kernel
theorem dX13_stands_152 : decode cX13_stands 152 = .ok (.goto (-50), 3) := by decide +kernel
theorem dX13_stands_155 : decode cX13_stands 155 = .ok (.iconst 0, 1) := by decide +kernel
theorem dX13_stands_156 : decode cX13_stands 156 = .ok (.istore_n 1, 1) := by decide +kernel
theorem dX13_stands_157 : decode cX13_stands 157 = .ok (.iload_n 1, 1) := by decide +kernel
theorem dX13_stands_158 : decode cX13_stands 158 = .ok (.aload_n 0, 1) := by decide +kernel
theorem dX13_stands_159 : decode cX13_stands 159 = .ok (.getfield 357, 3) := by decide +kernel
theorem dX13_stands_162 : decode cX13_stands 162 = .ok (.if_icmp .ge 25, 3) := by decide +kernel
theorem dX13_stands_165 : decode cX13_stands 165 = .ok (.aload_n 0, 1) := by decide +kernel
theorem dX13_stands_166 : decode cX13_stands 166 = .ok (.getfield 136, 3) := by decide +kernel
theorem dX13_stands_169 : decode cX13_stands 169 = .ok (.sipush 1600, 3) := by decide +kernel
theorem dX13_stands_172 : decode cX13_stands 172 = .ok (.iload_n 1, 1) := by decide +kernel
theorem dX13_stands_173 : decode cX13_stands 173 = .ok (.iadd, 1) := by decide +kernel
theorem dX13_stands_174 : decode cX13_stands 174 = .ok (.aload_n 0, 1) := by decide +kernel
theorem dX13_stands_175 : decode cX13_stands 175 = .ok (.getfield 136, 3) := by decide +kernel
theorem dX13_stands_178 : decode cX13_stands 178 = .ok (.iload_n 1, 1) := by decide +kernel
theorem dX13_stands_179 : decode cX13_stands 179 = .ok (.iaload, 1) := by decide +kernel
theorem dX13_stands_180 : decode cX13_stands 180 = .ok (.iastore, 1) := by decide +kernel
theorem dX13_stands_181 : decode cX13_stands 181 = .ok (.iinc 1 1, 3) := by decide +kernel
theorem dX13_stands_184 : decode cX13_stands 184 = .ok (.goto (-27), 3) := by decide +kernel
theorem dX13_stands_187 : decode cX13_stands 187 = .ok (.iconst 0, 1) := by decide +kernel
theorem dX13_stands_188 : decode cX13_stands 188 = .ok (.istore_n 1, 1) := by decide +kernel
theorem dX13_stands_189 : decode cX13_stands 189 = .ok (.iload_n 1, 1) := by decide +kernel
theorem dX13_stands_190 : decode cX13_stands 190 = .ok (.sipush 132, 3) := by decide +kernel
theorem dX13_stands_193 : decode cX13_stands 193 = .ok (.if_icmp .ge 16, 3) := by decide +kernel
theorem dX13_stands_196 : decode cX13_stands 196 = .ok (.aload_n 0, 1) := by decide +kernel
theorem dX13_stands_197 : decode cX13_stands 197 = .ok (.getfield 139, 3) := by decide +kernel
theorem dX13_stands_200 : decode cX13_stands 200 = .ok (.iload_n 1, 1) := by decide +kernel
theorem dX13_stands_201 : decode cX13_stands 201 = .ok (.iconst 0, 1) := by decide +kernel
theorem dX13_stands_202 : decode cX13_stands 202 = .ok (.iastore, 1) := by decide +kernel
theorem dX13_stands_203 : decode cX13_stands 203 = .ok (.iinc 1 1, 3) := by decide +kernel
theorem dX13_stands_206 : decode cX13_stands 206 = .ok (.goto (-17), 3) := by decide +kernel
theorem dX13_stands_209 : decode cX13_stands 209 = .ok (.iconst 0, 1) := by decide +kernel
theorem dX13_stands_210 : decode cX13_stands 210 = .ok (.istore_n 1, 1) := by decide +kernel
theorem dX13_stands_211 : decode cX13_stands 211 = .ok (.iload_n 1, 1) := by decide +kernel
theorem dX13_stands_212 : decode cX13_stands 212 = .ok (.aload_n 0, 1) := by decide +kernel
theorem dX13_stands_213 : decode cX13_stands 213 = .ok (.getfield 105, 3) := by decide +kernel
theorem dX13_stands_216 : decode cX13_stands 216 = .ok (.iconst 1, 1) := by decide +kernel
theorem dX13_stands_217 : decode cX13_stands 217 = .ok (.iaload, 1) := by decide +kernel
theorem dX13_stands_218 : decode cX13_stands 218 = .ok (.if_icmp .ge 79, 3) := by decide +kernel
theorem dX13_stands_221 : decode cX13_stands 221 = .ok (.aload_n 0, 1) := by decide +kernel
theorem dX13_stands_222 : decode cX13_stands 222 = .ok (.getfield 139, 3) := by decide +kernel
theorem dX13_stands_225 : decode cX13_stands 225 = .ok (.iconst 1, 1) := by decide +kernel
theorem dX13_stands_226 : decode cX13_stands 226 = .ok (.iconst 5, 1) := by decide +kernel
theorem dX13_stands_227 : decode cX13_stands 227 = .ok (.iload_n 1, 1) := by decide +kernel
theorem dX13_stands_228 : decode cX13_stands 228 = .ok (.imul, 1) := by decide +kernel
theorem dX13_stands_229 : decode cX13_stands 229 = .ok (.iadd, 1) := by decide +kernel
theorem dX13_stands_230 : decode cX13_stands 230 = .ok (.aload_n 0, 1) := by decide +kernel
theorem dX13_stands_231 : decode cX13_stands 231 = .ok (.getfield 124, 3) := by decide +kernel
theorem dX13_stands_234 : decode cX13_stands 234 = .ok (.iload_n 1, 1) := by decide +kernel
theorem dX13_stands_235 : decode cX13_stands 235 = .ok (.iaload, 1) := by decide +kernel
theorem dX13_stands_236 : decode cX13_stands 236 = .ok (.iastore, 1) := by decide +kernel
theorem dX13_stands_237 : decode cX13_stands 237 = .ok (.aload_n 0, 1) := by decide +kernel
theorem dX13_stands_238 : decode cX13_stands 238 = .ok (.getfield 139, 3) := by decide +kernel
theorem dX13_stands_241 : decode cX13_stands 241 = .ok (.iconst 1, 1) := by decide +kernel
theorem dX13_stands_242 : decode cX13_stands 242 = .ok (.iconst 5, 1) := by decide +kernel
theorem dX13_stands_243 : decode cX13_stands 243 = .ok (.iload_n 1, 1) := by decide +kernel
theorem dX13_stands_244 : decode cX13_stands 244 = .ok (.imul, 1) := by decide +kernel
theorem dX13_stands_245 : decode cX13_stands 245 = .ok (.iadd, 1) := by decide +kernel
theorem dX13_stands_246 : decode cX13_stands 246 = .ok (.iconst 1, 1) := by decide +kernel
theorem dX13_stands_247 : decode cX13_stands 247 = .ok (.iadd, 1) := by decide +kernel
theorem dX13_stands_248 : decode cX13_stands 248 = .ok (.aload_n 0, 1) := by decide +kernel
theorem dX13_stands_249 : decode cX13_stands 249 = .ok (.getfield 118, 3) := by decide +kernel
theorem dX13_stands_252 : decode cX13_stands 252 = .ok (.iload_n 1, 1) := by decide +kernel
theorem dX13_stands_253 : decode cX13_stands 253 = .ok (.iaload, 1) := by decide +kernel
theorem dX13_stands_254 : decode cX13_stands 254 = .ok (.iastore, 1) := by decide +kernel
theorem dX13_stands_255 : decode cX13_stands 255 = .ok (.aload_n 0, 1) := by decide +kernel
theorem dX13_stands_256 : decode cX13_stands 256 = .ok (.getfield 139, 3) := by decide +kernel
theorem dX13_stands_259 : decode cX13_stands 259 = .ok (.iconst 1, 1) := by decide +kernel
theorem dX13_stands_260 : decode cX13_stands 260 = .ok (.iconst 5, 1) := by decide +kernel
theorem dX13_stands_261 : decode cX13_stands 261 = .ok (.iload_n 1, 1) := by decide +kernel
theorem dX13_stands_262 : decode cX13_stands 262 = .ok (.imul, 1) := by decide +kernel
theorem dX13_stands_263 : decode cX13_stands 263 = .ok (.iadd, 1) := by decide +kernel
theorem dX13_stands_264 : decode cX13_stands 264 = .ok (.iconst 2, 1) := by decide +kernel
theorem dX13_stands_265 : decode cX13_stands 265 = .ok (.iadd, 1) := by decide +kernel
theorem dX13_stands_266 : decode cX13_stands 266 = .ok (.aload_n 0, 1) := by decide +kernel
theorem dX13_stands_267 : decode cX13_stands 267 = .ok (.getfield 121, 3) := by decide +kernel
theorem dX13_stands_270 : decode cX13_stands 270 = .ok (.iload_n 1, 1) := by decide +kernel
theorem dX13_stands_271 : decode cX13_stands 271 = .ok (.iaload, 1) := by decide +kernel
theorem dX13_stands_272 : decode cX13_stands 272 = .ok (.iastore, 1) := by decide +kernel
theorem dX13_stands_273 : decode cX13_stands 273 = .ok (.aload_n 0, 1) := by decide +kernel
theorem dX13_stands_274 : decode cX13_stands 274 = .ok (.getfield 139, 3) := by decide +kernel
theorem dX13_stands_277 : decode cX13_stands 277 = .ok (.iconst 1, 1) := by decide +kernel
theorem dX13_stands_278 : decode cX13_stands 278 = .ok (.iconst 5, 1) := by decide +kernel
theorem dX13_stands_279 : decode cX13_stands 279 = .ok (.iload_n 1, 1) := by decide +kernel
theorem dX13_stands_280 : decode cX13_stands 280 = .ok (.imul, 1) := by decide +kernel
theorem dX13_stands_281 : decode cX13_stands 281 = .ok (.iadd, 1) := by decide +kernel
theorem dX13_stands_282 : decode cX13_stands 282 = .ok (.iconst 3, 1) := by decide +kernel
theorem dX13_stands_283 : decode cX13_stands 283 = .ok (.iadd, 1) := by decide +kernel
theorem dX13_stands_284 : decode cX13_stands 284 = .ok (.aload_n 0, 1) := by decide +kernel
theorem dX13_stands_285 : decode cX13_stands 285 = .ok (.getfield 127, 3) := by decide +kernel
theorem dX13_stands_288 : decode cX13_stands 288 = .ok (.iconst 1, 1) := by decide +kernel
theorem dX13_stands_289 : decode cX13_stands 289 = .ok (.iaload, 1) := by decide +kernel
theorem dX13_stands_290 : decode cX13_stands 290 = .ok (.iastore, 1) := by decide +kernel
theorem dX13_stands_291 : decode cX13_stands 291 = .ok (.iinc 1 1, 3) := by decide +kernel
theorem dX13_stands_294 : decode cX13_stands 294 = .ok (.goto (-83), 3) := by decide +kernel
theorem dX13_stands_297 : decode cX13_stands 297 = .ok (.aload_n 0, 1) := by decide +kernel
theorem dX13_stands_298 : decode cX13_stands 298 = .ok (.iconst 0, 1) := by decide +kernel
theorem dX13_stands_299 : decode cX13_stands 299 = .ok (.putfield 392, 3) := by decide +kernel
theorem dX13_stands_302 : decode cX13_stands 302 = .ok (.aload_n 0, 1) := by decide +kernel
theorem dX13_stands_303 : decode cX13_stands 303 = .ok (.iconst 0, 1) := by decide +kernel
theorem dX13_stands_304 : decode cX13_stands 304 = .ok (.putfield 395, 3) := by decide +kernel
theorem dX13_stands_307 : decode cX13_stands 307 = .ok (.return_, 1) := by decide +kernel
theorem bX13_stands_0 {d : Nat}   {I : Ii} {J : Jj} {K : KV}
    (h : GoV wM d mX13_stands 2 [(0, .ref (0)), (1, .int (0))] [] I J K) :
    GoV wM d mX13_stands 0 [(0, .ref (0))] [] I J K :=
  (g_iconst dX13_stands_0 kc_0 (g_istore_n dX13_stands_1 rfl (by decide) rfl (g_sub [1, 0] rfl h)))
theorem bX13_stands_2 {d : Nat}  {v1 : Int32} {I : Ii} {J : Jj} {K : KV}
    (h : ((2 ≤ v1) → (GoV wM d mX13_stands 29 [(0, .ref (0)), (1, .int (0))] [] I J K)) ∧ ((¬ 2 ≤ v1) → (vp_in (v1) 4 ∧ (vp_in (2 + v1) 4 ∧ (GoV wM d mX13_stands 2 [(0, .ref (0)), (1, .int (v1 + 1))] [] (u2 I 31 (2 + v1).toNatClampNeg (I 31 v1.toNatClampNeg)) J K))))) :
    GoV wM d mX13_stands 2 [(0, .ref (0)), (1, .int (v1))] [] I J K :=
  (g_iload_n dX13_stands_2 1 1 rfl rfl (g_iconst dX13_stands_3 kc_2 (g_icmp_ge dX13_stands_4 rfl (fun q1 => (g_iconst dX13_stands_27 kc_0 (g_istore_n dX13_stands_28 rfl (by decide) rfl (g_sub [1, 0] rfl (h.1 q1))))) (fun q1 => (g_aload_n dX13_stands_7 0 0 rfl rfl (g_getP dX13_stands_8 fl_X13_105 rfl obM_0 rfl (g_iconst dX13_stands_11 kc_2 (g_iload_n dX13_stands_12 1 1 rfl rfl (g_iadd dX13_stands_13 (g_aload_n dX13_stands_14 0 0 rfl rfl (g_getP dX13_stands_15 fl_X13_105 rfl obM_0 rfl (g_iload_n dX13_stands_18 1 1 rfl rfl (have b2 := (h.2 q1).1; g_iald dX13_stands_19 arM_31 b2 (have b3 := (h.2 q1).2.1; g_iast dX13_stands_20 arM_31 b3 (g_iinc dX13_stands_21 1 rfl rfl (by decide) rfl (g_goto dX13_stands_24 rfl (g_sub [1, 0] rfl (h.2 q1).2.2)))))))))))))))))
theorem bX13_stands_29 {d : Nat}  {v1 : Int32} {I : Ii} {J : Jj} {K : KV}
    (h : ((16 ≤ v1) → (GoV wM d mX13_stands 58 [(0, .ref (0)), (1, .int (0))] [] I J K)) ∧ ((¬ 16 ≤ v1) → (vp_in (v1) 32 ∧ (vp_in (16 + v1) 32 ∧ (GoV wM d mX13_stands 29 [(0, .ref (0)), (1, .int (v1 + 1))] [] I (w2 J 32 (16 + v1).toNatClampNeg (J 32 v1.toNatClampNeg)) K))))) :
    GoV wM d mX13_stands 29 [(0, .ref (0)), (1, .int (v1))] [] I J K :=
  (g_iload_n dX13_stands_29 1 1 rfl rfl (g_bipush dX13_stands_30 kb_16 (g_icmp_ge dX13_stands_32 rfl (fun q1 => (g_iconst dX13_stands_56 kc_0 (g_istore_n dX13_stands_57 rfl (by decide) rfl (g_sub [1, 0] rfl (h.1 q1))))) (fun q1 => (g_aload_n dX13_stands_35 0 0 rfl rfl (g_getP dX13_stands_36 fl_X13_108 rfl obM_0 rfl (g_bipush dX13_stands_39 kb_16 (g_iload_n dX13_stands_41 1 1 rfl rfl (g_iadd dX13_stands_42 (g_aload_n dX13_stands_43 0 0 rfl rfl (g_getP dX13_stands_44 fl_X13_108 rfl obM_0 rfl (g_iload_n dX13_stands_47 1 1 rfl rfl (have b2 := (h.2 q1).1; g_lald dX13_stands_48 arM_32 b2 (have b3 := (h.2 q1).2.1; g_last dX13_stands_49 arM_32 b3 (g_iinc dX13_stands_50 1 rfl rfl (by decide) rfl (g_goto dX13_stands_53 rfl (g_sub [1, 0] rfl (h.2 q1).2.2)))))))))))))))))
theorem bX13_stands_58 {d : Nat}  {v1 : Int32} {I : Ii} {J : Jj} {K : KV}
    (h : ((8 ≤ v1) → (GoV wM d mX13_stands 102 [(0, .ref (0)), (1, .int (0))] [] I J K)) ∧ ((¬ 8 ≤ v1) → (vp_in (v1) 16 ∧ (vp_in (8 + v1) 16 ∧ (∀ I4 : Ii, I4 = u2 I 33 (8 + v1).toNatClampNeg (I 33 v1.toNatClampNeg) → (GoV wM d mX13_stands 58 [(0, .ref (0)), (1, .int (v1 + 1))] [] (u2 I4 34 (8 + v1).toNatClampNeg (I4 34 v1.toNatClampNeg)) J K)))))) :
    GoV wM d mX13_stands 58 [(0, .ref (0)), (1, .int (v1))] [] I J K :=
  (g_iload_n dX13_stands_58 1 1 rfl rfl (g_bipush dX13_stands_59 kb_8 (g_icmp_ge dX13_stands_61 rfl (fun q1 => (g_iconst dX13_stands_100 kc_0 (g_istore_n dX13_stands_101 rfl (by decide) rfl (g_sub [1, 0] rfl (h.1 q1))))) (fun q1 => (g_aload_n dX13_stands_64 0 0 rfl rfl (g_getP dX13_stands_65 fl_X13_112 rfl obM_0 rfl (g_bipush dX13_stands_68 kb_8 (g_iload_n dX13_stands_70 1 1 rfl rfl (g_iadd dX13_stands_71 (g_aload_n dX13_stands_72 0 0 rfl rfl (g_getP dX13_stands_73 fl_X13_112 rfl obM_0 rfl (g_iload_n dX13_stands_76 1 1 rfl rfl (have b2 := (h.2 q1).1; g_iald dX13_stands_77 arM_33 b2 (have b3 := (h.2 q1).2.1; g_iast dX13_stands_78 arM_33 b3 (g_aload_n dX13_stands_79 0 0 rfl rfl (g_getP dX13_stands_80 fl_X13_115 rfl obM_0 rfl (g_bipush dX13_stands_83 kb_8 (g_iload_n dX13_stands_85 1 1 rfl rfl (g_iadd dX13_stands_86 (g_aload_n dX13_stands_87 0 0 rfl rfl (g_getP dX13_stands_88 fl_X13_115 rfl obM_0 rfl (g_iload_n dX13_stands_91 1 1 rfl rfl (g_iald dX13_stands_92 arM_34 b2 (g_iast dX13_stands_93 arM_34 b3 (g_iinc dX13_stands_94 1 rfl rfl (by decide) rfl (g_goto dX13_stands_97 rfl (g_sub [1, 0] rfl ((h.2 q1).2.2 _ rfl))))))))))))))))))))))))))))
theorem bX13_stands_102 {d : Nat}  {v1 : Int32} {I : Ii} {J : Jj} {K : KV}
    (h : ((3 ≤ v1) → (GoV wM d mX13_stands 157 [(0, .ref (0)), (1, .int (0))] [] I J K)) ∧ ((¬ 3 ≤ v1) → (vp_in (v1) 6 ∧ (vp_in (3 + v1) 6 ∧ (∀ I4 : Ii, I4 = u2 I 38 (3 + v1).toNatClampNeg (I 38 v1.toNatClampNeg) → (∀ I5 : Ii, I5 = u2 I4 39 (3 + v1).toNatClampNeg (I4 39 v1.toNatClampNeg) → (GoV wM d mX13_stands 102 [(0, .ref (0)), (1, .int (v1 + 1))] [] (u2 I5 40 (3 + v1).toNatClampNeg (I5 40 v1.toNatClampNeg)) J K))))))) :
    GoV wM d mX13_stands 102 [(0, .ref (0)), (1, .int (v1))] [] I J K :=
  (g_iload_n dX13_stands_102 1 1 rfl rfl (g_iconst dX13_stands_103 kc_3 (g_icmp_ge dX13_stands_104 rfl (fun q1 => (g_iconst dX13_stands_155 kc_0 (g_istore_n dX13_stands_156 rfl (by decide) rfl (g_sub [1, 0] rfl (h.1 q1))))) (fun q1 => (g_aload_n dX13_stands_107 0 0 rfl rfl (g_getP dX13_stands_108 fl_X13_127 rfl obM_0 rfl (g_iconst dX13_stands_111 kc_3 (g_iload_n dX13_stands_112 1 1 rfl rfl (g_iadd dX13_stands_113 (g_aload_n dX13_stands_114 0 0 rfl rfl (g_getP dX13_stands_115 fl_X13_127 rfl obM_0 rfl (g_iload_n dX13_stands_118 1 1 rfl rfl (have b2 := (h.2 q1).1; g_iald dX13_stands_119 arM_38 b2 (have b3 := (h.2 q1).2.1; g_iast dX13_stands_120 arM_38 b3 (g_aload_n dX13_stands_121 0 0 rfl rfl (g_getP dX13_stands_122 fl_X13_130 rfl obM_0 rfl (g_iconst dX13_stands_125 kc_3 (g_iload_n dX13_stands_126 1 1 rfl rfl (g_iadd dX13_stands_127 (g_aload_n dX13_stands_128 0 0 rfl rfl (g_getP dX13_stands_129 fl_X13_130 rfl obM_0 rfl (g_iload_n dX13_stands_132 1 1 rfl rfl (g_iald dX13_stands_133 arM_39 b2 (g_iast dX13_stands_134 arM_39 b3 (g_aload_n dX13_stands_135 0 0 rfl rfl (g_getP dX13_stands_136 fl_X13_133 rfl obM_0 rfl (g_iconst dX13_stands_139 kc_3 (g_iload_n dX13_stands_140 1 1 rfl rfl (g_iadd dX13_stands_141 (g_aload_n dX13_stands_142 0 0 rfl rfl (g_getP dX13_stands_143 fl_X13_133 rfl obM_0 rfl (g_iload_n dX13_stands_146 1 1 rfl rfl (g_iald dX13_stands_147 arM_40 b2 (g_iast dX13_stands_148 arM_40 b3 (g_iinc dX13_stands_149 1 rfl rfl (by decide) rfl (g_goto dX13_stands_152 rfl (g_sub [1, 0] rfl (((h.2 q1).2.2 _ rfl) _ rfl))))))))))))))))))))))))))))))))))))))
theorem bX13_stands_157 {d : Nat}  {v1 : Int32} {I : Ii} {J : Jj} {K : KV}
    (h : (((I 0 50) ≤ v1) → (GoV wM d mX13_stands 189 [(0, .ref (0)), (1, .int (0))] [] I J K)) ∧ ((¬ (I 0 50) ≤ v1) → (vp_in (v1) 3200 ∧ (vp_in (1600 + v1) 3200 ∧ (GoV wM d mX13_stands 157 [(0, .ref (0)), (1, .int (v1 + 1))] [] (u2 I 41 (1600 + v1).toNatClampNeg (I 41 v1.toNatClampNeg)) J K))))) :
    GoV wM d mX13_stands 157 [(0, .ref (0)), (1, .int (v1))] [] I J K :=
  (g_iload_n dX13_stands_157 1 1 rfl rfl (g_aload_n dX13_stands_158 0 0 rfl rfl (g_getI dX13_stands_159 fl_X13_357 rfl obM_0 (g_icmp_ge dX13_stands_162 rfl (fun q1 => (g_iconst dX13_stands_187 kc_0 (g_istore_n dX13_stands_188 rfl (by decide) rfl (g_sub [1, 0] rfl (h.1 q1))))) (fun q1 => (g_aload_n dX13_stands_165 0 0 rfl rfl (g_getP dX13_stands_166 fl_X13_136 rfl obM_0 rfl (g_sipush dX13_stands_169 ks_1600 (g_iload_n dX13_stands_172 1 1 rfl rfl (g_iadd dX13_stands_173 (g_aload_n dX13_stands_174 0 0 rfl rfl (g_getP dX13_stands_175 fl_X13_136 rfl obM_0 rfl (g_iload_n dX13_stands_178 1 1 rfl rfl (have b2 := (h.2 q1).1; g_iald dX13_stands_179 arM_41 b2 (have b3 := (h.2 q1).2.1; g_iast dX13_stands_180 arM_41 b3 (g_iinc dX13_stands_181 1 rfl rfl (by decide) rfl (g_goto dX13_stands_184 rfl (g_sub [1, 0] rfl (h.2 q1).2.2))))))))))))))))))
theorem bX13_stands_189 {d : Nat}  {v1 : Int32} {I : Ii} {J : Jj} {K : KV}
    (h : ((132 ≤ v1) → (GoV wM d mX13_stands 211 [(0, .ref (0)), (1, .int (0))] [] I J K)) ∧ ((¬ 132 ≤ v1) → (vp_in (v1) 132 ∧ (GoV wM d mX13_stands 189 [(0, .ref (0)), (1, .int (v1 + 1))] [] (u2 I 42 v1.toNatClampNeg 0) J K)))) :
    GoV wM d mX13_stands 189 [(0, .ref (0)), (1, .int (v1))] [] I J K :=
  (g_iload_n dX13_stands_189 1 1 rfl rfl (g_sipush dX13_stands_190 ks_132 (g_icmp_ge dX13_stands_193 rfl (fun q1 => (g_iconst dX13_stands_209 kc_0 (g_istore_n dX13_stands_210 rfl (by decide) rfl (g_sub [1, 0] rfl (h.1 q1))))) (fun q1 => (g_aload_n dX13_stands_196 0 0 rfl rfl (g_getP dX13_stands_197 fl_X13_139 rfl obM_0 rfl (g_iload_n dX13_stands_200 1 1 rfl rfl (g_iconst dX13_stands_201 kc_0 (have b2 := (h.2 q1).1; g_iast dX13_stands_202 arM_42 b2 (g_iinc dX13_stands_203 1 rfl rfl (by decide) rfl (g_goto dX13_stands_206 rfl (g_sub [1, 0] rfl (h.2 q1).2))))))))))))
theorem bX13_stands_211 {d : Nat}  {v1 : Int32} {I : Ii} {J : Jj} {K : KV}
    (h : (((I 31 (1 : Int32).toNatClampNeg) ≤ v1) → (K (u2 (u2 I 0 65 0) 0 60 0) J)) ∧ ((¬ (I 31 (1 : Int32).toNatClampNeg) ≤ v1) → (vp_in (v1) 8 ∧ (vp_in (1 + (5 * v1)) 132 ∧ (∀ I7 : Ii, I7 = u2 I 42 (1 + (5 * v1)).toNatClampNeg (I 37 v1.toNatClampNeg) → (vp_in ((1 + (5 * v1)) + 1) 132 ∧ (∀ I9 : Ii, I9 = u2 I7 42 ((1 + (5 * v1)) + 1).toNatClampNeg (I7 35 v1.toNatClampNeg) → (vp_in ((1 + (5 * v1)) + 2) 132 ∧ (∀ I11 : Ii, I11 = u2 I9 42 ((1 + (5 * v1)) + 2).toNatClampNeg (I9 36 v1.toNatClampNeg) → (vp_in ((1 + (5 * v1)) + 3) 132 ∧ (GoV wM d mX13_stands 211 [(0, .ref (0)), (1, .int (v1 + 1))] [] (u2 I11 42 ((1 + (5 * v1)) + 3).toNatClampNeg (I11 38 (1 : Int32).toNatClampNeg)) J K))))))))))) :
    GoV wM d mX13_stands 211 [(0, .ref (0)), (1, .int (v1))] [] I J K :=
  (g_iload_n dX13_stands_211 1 1 rfl rfl (g_aload_n dX13_stands_212 0 0 rfl rfl (g_getP dX13_stands_213 fl_X13_105 rfl obM_0 rfl (g_iconst dX13_stands_216 kc_1 (g_iald dX13_stands_217 arM_31 (by unfold vp_in; decide) (g_icmp_ge dX13_stands_218 rfl (fun q2 => (g_aload_n dX13_stands_297 0 0 rfl rfl (g_iconst dX13_stands_298 kc_0 (g_putI dX13_stands_299 fl_X13_392 rfl rfl obM_0 (g_aload_n dX13_stands_302 0 0 rfl rfl (g_iconst dX13_stands_303 kc_0 (g_putI dX13_stands_304 fl_X13_395 rfl rfl obM_0 (g_return dX13_stands_307 rfl ⟨rfl, (h.1 q2)⟩)))))))) (fun q2 => (g_aload_n dX13_stands_221 0 0 rfl rfl (g_getP dX13_stands_222 fl_X13_139 rfl obM_0 rfl (g_iconst dX13_stands_225 kc_1 (g_iconst dX13_stands_226 kc_5 (g_iload_n dX13_stands_227 1 1 rfl rfl (g_imul dX13_stands_228 (g_iadd dX13_stands_229 (g_aload_n dX13_stands_230 0 0 rfl rfl (g_getP dX13_stands_231 fl_X13_124 rfl obM_0 rfl (g_iload_n dX13_stands_234 1 1 rfl rfl (have b5 := (h.2 q2).1; g_iald dX13_stands_235 arM_37 b5 (have b6 := (h.2 q2).2.1; g_iast dX13_stands_236 arM_42 b6 (g_aload_n dX13_stands_237 0 0 rfl rfl (g_getP dX13_stands_238 fl_X13_139 rfl obM_0 rfl (g_iconst dX13_stands_241 kc_1 (g_iconst dX13_stands_242 kc_5 (g_iload_n dX13_stands_243 1 1 rfl rfl (g_imul dX13_stands_244 (g_iadd dX13_stands_245 (g_iconst dX13_stands_246 kc_1 (g_iadd dX13_stands_247 (g_aload_n dX13_stands_248 0 0 rfl rfl (g_getP dX13_stands_249 fl_X13_118 rfl obM_0 rfl (g_iload_n dX13_stands_252 1 1 rfl rfl (g_iald dX13_stands_253 arM_35 b5 (have b8 := ((h.2 q2).2.2 _ rfl).1; g_iast dX13_stands_254 arM_42 b8 (g_aload_n dX13_stands_255 0 0 rfl rfl (g_getP dX13_stands_256 fl_X13_139 rfl obM_0 rfl (g_iconst dX13_stands_259 kc_1 (g_iconst dX13_stands_260 kc_5 (g_iload_n dX13_stands_261 1 1 rfl rfl (g_imul dX13_stands_262 (g_iadd dX13_stands_263 (g_iconst dX13_stands_264 kc_2 (g_iadd dX13_stands_265 (g_aload_n dX13_stands_266 0 0 rfl rfl (g_getP dX13_stands_267 fl_X13_121 rfl obM_0 rfl (g_iload_n dX13_stands_270 1 1 rfl rfl (g_iald dX13_stands_271 arM_36 b5 (have b10 := (((h.2 q2).2.2 _ rfl).2 _ rfl).1; g_iast dX13_stands_272 arM_42 b10 (g_aload_n dX13_stands_273 0 0 rfl rfl (g_getP dX13_stands_274 fl_X13_139 rfl obM_0 rfl (g_iconst dX13_stands_277 kc_1 (g_iconst dX13_stands_278 kc_5 (g_iload_n dX13_stands_279 1 1 rfl rfl (g_imul dX13_stands_280 (g_iadd dX13_stands_281 (g_iconst dX13_stands_282 kc_3 (g_iadd dX13_stands_283 (g_aload_n dX13_stands_284 0 0 rfl rfl (g_getP dX13_stands_285 fl_X13_127 rfl obM_0 rfl (g_iconst dX13_stands_288 kc_1 (g_iald dX13_stands_289 arM_38 (by unfold vp_in; decide) (have b13 := ((((h.2 q2).2.2 _ rfl).2 _ rfl).2 _ rfl).1; g_iast dX13_stands_290 arM_42 b13 (g_iinc dX13_stands_291 1 rfl rfl (by decide) rfl (g_goto dX13_stands_294 rfl (g_sub [1, 0] rfl ((((h.2 q2).2.2 _ rfl).2 _ rfl).2 _ rfl).2))))))))))))))))))))))))))))))))))))))))))))))))))))))))))))))))
theorem dX13_fault_0 : decode cX13_fault 0 = .ok (.iload_n 1, 1) := by decide +kernel
theorem dX13_fault_1 : decode cX13_fault 1 = .ok (.ifCond .ne 10, 3) := by decide +kernel
theorem dX13_fault_4 : decode cX13_fault 4 = .ok (.aload_n 0, 1) := by decide +kernel
theorem dX13_fault_5 : decode cX13_fault 5 = .ok (.getfield 386, 3) := by decide +kernel
theorem dX13_fault_8 : decode cX13_fault 8 = .ok (.goto 16, 3) := by decide +kernel
theorem dX13_fault_11 : decode cX13_fault 11 = .ok (.iload_n 1, 1) := by decide +kernel
theorem dX13_fault_12 : decode cX13_fault 12 = .ok (.iconst 1, 1) := by decide +kernel
theorem dX13_fault_13 : decode cX13_fault 13 = .ok (.if_icmp .ne 10, 3) := by decide +kernel
theorem dX13_fault_16 : decode cX13_fault 16 = .ok (.aload_n 0, 1) := by decide +kernel
theorem dX13_fault_17 : decode cX13_fault 17 = .ok (.getfield 13, 3) := by decide +kernel
theorem dX13_fault_20 : decode cX13_fault 20 = .ok (.goto 4, 3) := by decide +kernel
theorem dX13_fault_23 : decode cX13_fault 23 = .ok (.iconst (-1), 1) := by decide +kernel
theorem dX13_fault_24 : decode cX13_fault 24 = .ok (.ireturn, 1) := by decide +kernel
theorem bX13_fault_0 {d : Nat}  {v1 : Int32} {I : Ii} {J : Jj} {K : KI}
    (h : ((¬ v1 = 0) → (((¬ v1 = 1) → (K ((-1)) I J)) ∧ ((v1 = 1) → (K (I 0 8) I J)))) ∧ ((v1 = 0) → (K (I 0 7) I J))) :
    GoI wM d mX13_fault 0 [(0, .ref (0)), (1, .int (v1))] [] I J K :=
  (g_iload_n dX13_fault_0 1 1 rfl rfl (g_if_ne dX13_fault_1 rfl (fun q1 => (g_iload_n dX13_fault_11 1 1 rfl rfl (g_iconst dX13_fault_12 kc_1 (g_icmp_ne dX13_fault_13 rfl (fun q2 => (g_iconst dX13_fault_23 kc_n1 (g_ireturn dX13_fault_24 rfl ⟨_, rfl, ((h.1 q1).1 q2)⟩))) (fun q2 => (g_aload_n dX13_fault_16 0 0 rfl rfl (g_getI dX13_fault_17 fl_X13_13 rfl obM_0 (g_goto dX13_fault_20 rfl (g_ireturn dX13_fault_24 rfl ⟨_, rfl, ((h.1 q1).2 q2)⟩))))))))) (fun q1 => (g_aload_n dX13_fault_4 0 0 rfl rfl (g_getI dX13_fault_5 fl_X13_386 rfl obM_0 (g_goto dX13_fault_8 rfl (g_ireturn dX13_fault_24 rfl ⟨_, rfl, (h.2 q1)⟩)))))))
theorem dX13_has_0 : decode cX13_has 0 = .ok (.iload_n 1, 1) := by decide +kernel
theorem dX13_has_1 : decode cX13_has 1 = .ok (.tableswitch 121 0 10 #[59, 59, 68, 68, 79, 86, 86, 97, 103, 111, 116], 59) := by decide +kernel
theorem dX13_has_60 : decode cX13_has 60 = .ok (.aload_n 0, 1) := by decide +kernel
theorem dX13_has_61 : decode cX13_has 61 = .ok (.getfield 105, 3) := by decide +kernel
theorem dX13_has_64 : decode cX13_has 64 = .ok (.iconst 2, 1) := by decide +kernel
theorem dX13_has_65 : decode cX13_has 65 = .ok (.iload_n 1, 1) := by decide +kernel
theorem dX13_has_66 : decode cX13_has 66 = .ok (.iadd, 1) := by decide +kernel
theorem dX13_has_67 : decode cX13_has 67 = .ok (.iaload, 1) := by decide +kernel
theorem dX13_has_68 : decode cX13_has 68 = .ok (.ireturn, 1) := by decide +kernel
theorem dX13_has_69 : decode cX13_has 69 = .ok (.aload_n 0, 1) := by decide +kernel
theorem dX13_has_70 : decode cX13_has 70 = .ok (.getfield 127, 3) := by decide +kernel
theorem dX13_has_73 : decode cX13_has 73 = .ok (.iconst 3, 1) := by decide +kernel
theorem dX13_has_74 : decode cX13_has 74 = .ok (.iload_n 1, 1) := by decide +kernel
theorem dX13_has_75 : decode cX13_has 75 = .ok (.iadd, 1) := by decide +kernel
theorem dX13_has_76 : decode cX13_has 76 = .ok (.iconst 2, 1) := by decide +kernel
theorem dX13_has_77 : decode cX13_has 77 = .ok (.isub, 1) := by decide +kernel
theorem dX13_has_78 : decode cX13_has 78 = .ok (.iaload, 1) := by decide +kernel
theorem dX13_has_79 : decode cX13_has 79 = .ok (.ireturn, 1) := by decide +kernel
theorem dX13_has_80 : decode cX13_has 80 = .ok (.aload_n 0, 1) := by decide +kernel
theorem dX13_has_81 : decode cX13_has 81 = .ok (.getfield 139, 3) := by decide +kernel
theorem dX13_has_84 : decode cX13_has 84 = .ok (.iconst 0, 1) := by decide +kernel
theorem dX13_has_85 : decode cX13_has 85 = .ok (.iaload, 1) := by decide +kernel
theorem dX13_has_86 : decode cX13_has 86 = .ok (.ireturn, 1) := by decide +kernel
theorem dX13_has_87 : decode cX13_has 87 = .ok (.aload_n 0, 1) := by decide +kernel
theorem dX13_has_88 : decode cX13_has 88 = .ok (.iload_n 1, 1) := by decide +kernel
theorem dX13_has_89 : decode cX13_has 89 = .ok (.iconst 4, 1) := by decide +kernel
theorem dX13_has_90 : decode cX13_has 90 = .ok (.isub, 1) := by decide +kernel
theorem dX13_has_91 : decode cX13_has 91 = .ok (.invokevirtual 486, 3) := by decide +kernel
theorem dX13_has_94 : decode cX13_has 94 = .ok (.invokestatic 483, 3) := by decide +kernel
theorem dX13_has_97 : decode cX13_has 97 = .ok (.ireturn, 1) := by decide +kernel
theorem dX13_has_98 : decode cX13_has 98 = .ok (.aload_n 0, 1) := by decide +kernel
theorem dX13_has_99 : decode cX13_has 99 = .ok (.iconst 0, 1) := by decide +kernel
theorem dX13_has_100 : decode cX13_has 100 = .ok (.invokevirtual 489, 3) := by decide +kernel
theorem dX13_has_103 : decode cX13_has 103 = .ok (.ireturn, 1) := by decide +kernel
theorem dX13_has_104 : decode cX13_has 104 = .ok (.aload_n 0, 1) := by decide +kernel
theorem dX13_has_105 : decode cX13_has 105 = .ok (.getfield 139, 3) := by decide +kernel
theorem dX13_has_108 : decode cX13_has 108 = .ok (.bipush 41, 2) := by decide +kernel
theorem dX13_has_110 : decode cX13_has 110 = .ok (.iaload, 1) := by decide +kernel
theorem dX13_has_111 : decode cX13_has 111 = .ok (.ireturn, 1) := by decide +kernel
theorem dX13_has_112 : decode cX13_has 112 = .ok (.aload_n 0, 1) := by decide +kernel
theorem dX13_has_113 : decode cX13_has 113 = .ok (.getfield 395, 3) := by decide +kernel
theorem dX13_has_116 : decode cX13_has 116 = .ok (.ireturn, 1) := by decide +kernel
theorem dX13_has_117 : decode cX13_has 117 = .ok (.aload_n 0, 1) := by decide +kernel
theorem dX13_has_118 : decode cX13_has 118 = .ok (.getfield 392, 3) := by decide +kernel
theorem dX13_has_121 : decode cX13_has 121 = .ok (.ireturn, 1) := by decide +kernel
theorem dX13_has_122 : decode cX13_has 122 = .ok (.iconst (-1), 1) := by decide +kernel
theorem dX13_has_123 : decode cX13_has 123 = .ok (.ireturn, 1) := by decide +kernel
theorem bX13_has_0 {d : Nat}  {v1 : Int32} {I : Ii} {J : Jj} {K : KI}
    (h : ((v1) = 0 → (vp_in (2 + v1) 4 ∧ (K (I 31 (2 + v1).toNatClampNeg) I J))) ∧ ((v1) = 1 → (vp_in (2 + v1) 4 ∧ (K (I 31 (2 + v1).toNatClampNeg) I J))) ∧ ((v1) = 2 → (vp_in ((3 + v1) - 2) 6 ∧ (K (I 38 ((3 + v1) - 2).toNatClampNeg) I J))) ∧ ((v1) = 3 → (vp_in ((3 + v1) - 2) 6 ∧ (K (I 38 ((3 + v1) - 2).toNatClampNeg) I J))) ∧ ((v1) = 4 → (K (I 42 (0 : Int32).toNatClampNeg) I J)) ∧ ((v1) = 5 → (CalI wM d mX13_thoseWho [.ref (0), .int (v1 - 4)] I J (fun x8 I6 J7 => (CalI wM d mX13_bits [.int (x8)] I6 J7 (fun x11 I9 J10 => (K (x11) I9 J10)))))) ∧ ((v1) = 6 → (CalI wM d mX13_thoseWho [.ref (0), .int (v1 - 4)] I J (fun x16 I14 J15 => (CalI wM d mX13_bits [.int (x16)] I14 J15 (fun x19 I17 J18 => (K (x19) I17 J18)))))) ∧ ((v1) = 7 → (CalI wM d mX13_beliefs [.ref (0), .int (0)] I J (fun x24 I22 J23 => (K (x24) I22 J23)))) ∧ ((v1) = 8 → (K (I 42 (41 : Int32).toNatClampNeg) I J)) ∧ ((v1) = 9 → (K (I 0 60) I J)) ∧ ((v1) = 10 → (K (I 0 65) I J)) ∧ (¬ (v1) = 0 → ¬ (v1) = 1 → ¬ (v1) = 2 → ¬ (v1) = 3 → ¬ (v1) = 4 → ¬ (v1) = 5 → ¬ (v1) = 6 → ¬ (v1) = 7 → ¬ (v1) = 8 → ¬ (v1) = 9 → ¬ (v1) = 10 → (K ((-1)) I J))) :
    GoI wM (d + 1) mX13_has 0 [(0, .ref (0)), (1, .int (v1))] [] I J K :=
  (g_iload_n dX13_has_0 1 1 rfl rfl (by
      by_cases q1_0 : (v1) = 0
      · exact g_tableIn (off := 59) dX13_has_1 (by rw [q1_0]; decide) (by rw [q1_0]; decide) (by rw [q1_0]; rfl) rfl (g_aload_n dX13_has_60 0 0 rfl rfl (g_getP dX13_has_61 fl_X13_105 rfl obM_0 rfl (g_iconst dX13_has_64 kc_2 (g_iload_n dX13_has_65 1 1 rfl rfl (g_iadd dX13_has_66 (have b1 := (h.1 q1_0).1; g_iald dX13_has_67 arM_31 b1 (g_ireturn dX13_has_68 rfl ⟨_, rfl, (h.1 q1_0).2⟩)))))))
      by_cases q1_1 : (v1) = 1
      · exact g_tableIn (off := 59) dX13_has_1 (by rw [q1_1]; decide) (by rw [q1_1]; decide) (by rw [q1_1]; rfl) rfl (g_aload_n dX13_has_60 0 0 rfl rfl (g_getP dX13_has_61 fl_X13_105 rfl obM_0 rfl (g_iconst dX13_has_64 kc_2 (g_iload_n dX13_has_65 1 1 rfl rfl (g_iadd dX13_has_66 (have b2 := (h.2.1 q1_1).1; g_iald dX13_has_67 arM_31 b2 (g_ireturn dX13_has_68 rfl ⟨_, rfl, (h.2.1 q1_1).2⟩)))))))
      by_cases q1_2 : (v1) = 2
      · exact g_tableIn (off := 68) dX13_has_1 (by rw [q1_2]; decide) (by rw [q1_2]; decide) (by rw [q1_2]; rfl) rfl (g_aload_n dX13_has_69 0 0 rfl rfl (g_getP dX13_has_70 fl_X13_127 rfl obM_0 rfl (g_iconst dX13_has_73 kc_3 (g_iload_n dX13_has_74 1 1 rfl rfl (g_iadd dX13_has_75 (g_iconst dX13_has_76 kc_2 (g_isub dX13_has_77 (have b3 := (h.2.2.1 q1_2).1; g_iald dX13_has_78 arM_38 b3 (g_ireturn dX13_has_79 rfl ⟨_, rfl, (h.2.2.1 q1_2).2⟩)))))))))
      by_cases q1_3 : (v1) = 3
      · exact g_tableIn (off := 68) dX13_has_1 (by rw [q1_3]; decide) (by rw [q1_3]; decide) (by rw [q1_3]; rfl) rfl (g_aload_n dX13_has_69 0 0 rfl rfl (g_getP dX13_has_70 fl_X13_127 rfl obM_0 rfl (g_iconst dX13_has_73 kc_3 (g_iload_n dX13_has_74 1 1 rfl rfl (g_iadd dX13_has_75 (g_iconst dX13_has_76 kc_2 (g_isub dX13_has_77 (have b4 := (h.2.2.2.1 q1_3).1; g_iald dX13_has_78 arM_38 b4 (g_ireturn dX13_has_79 rfl ⟨_, rfl, (h.2.2.2.1 q1_3).2⟩)))))))))
      by_cases q1_4 : (v1) = 4
      · exact g_tableIn (off := 79) dX13_has_1 (by rw [q1_4]; decide) (by rw [q1_4]; decide) (by rw [q1_4]; rfl) rfl (g_aload_n dX13_has_80 0 0 rfl rfl (g_getP dX13_has_81 fl_X13_139 rfl obM_0 rfl (g_iconst dX13_has_84 kc_0 (g_iald dX13_has_85 arM_42 (by unfold vp_in; decide) (g_ireturn dX13_has_86 rfl ⟨_, rfl, (h.2.2.2.2.1 q1_4)⟩)))))
      by_cases q1_5 : (v1) = 5
      · exact g_tableIn (off := 86) dX13_has_1 (by rw [q1_5]; decide) (by rw [q1_5]; decide) (by rw [q1_5]; rfl) rfl (g_aload_n dX13_has_87 0 0 rfl rfl (g_iload_n dX13_has_88 1 1 rfl rfl (g_iconst dX13_has_89 kc_4 (g_isub dX13_has_90 (g_callvI dX13_has_91 ml_X13_486 md_X13_thoseWho mv_X13_thoseWho obM_0 rfl rfl rfl (Nat.le_of_ble_eq_true rfl) (CalI.mono (h.2.2.2.2.2.1 q1_5) (fun x8 I6 J7 h13 => (g_callsI dX13_has_94 ml_X13_483 md_X13_bits ms_X13_bits rfl rfl (Nat.le_of_ble_eq_true rfl) (CalI.mono h13 (fun x11 I9 J10 h12 => (g_ireturn dX13_has_97 rfl ⟨_, rfl, h12⟩)))))))))))
      by_cases q1_6 : (v1) = 6
      · exact g_tableIn (off := 86) dX13_has_1 (by rw [q1_6]; decide) (by rw [q1_6]; decide) (by rw [q1_6]; rfl) rfl (g_aload_n dX13_has_87 0 0 rfl rfl (g_iload_n dX13_has_88 1 1 rfl rfl (g_iconst dX13_has_89 kc_4 (g_isub dX13_has_90 (g_callvI dX13_has_91 ml_X13_486 md_X13_thoseWho mv_X13_thoseWho obM_0 rfl rfl rfl (Nat.le_of_ble_eq_true rfl) (CalI.mono (h.2.2.2.2.2.2.1 q1_6) (fun x16 I14 J15 h21 => (g_callsI dX13_has_94 ml_X13_483 md_X13_bits ms_X13_bits rfl rfl (Nat.le_of_ble_eq_true rfl) (CalI.mono h21 (fun x19 I17 J18 h20 => (g_ireturn dX13_has_97 rfl ⟨_, rfl, h20⟩)))))))))))
      by_cases q1_7 : (v1) = 7
      · exact g_tableIn (off := 97) dX13_has_1 (by rw [q1_7]; decide) (by rw [q1_7]; decide) (by rw [q1_7]; rfl) rfl (g_aload_n dX13_has_98 0 0 rfl rfl (g_iconst dX13_has_99 kc_0 (g_callvI dX13_has_100 ml_X13_489 md_X13_beliefs mv_X13_beliefs obM_0 rfl rfl rfl (Nat.le_of_ble_eq_true rfl) (CalI.mono (h.2.2.2.2.2.2.2.1 q1_7) (fun x24 I22 J23 h25 => (g_ireturn dX13_has_103 rfl ⟨_, rfl, h25⟩))))))
      by_cases q1_8 : (v1) = 8
      · exact g_tableIn (off := 103) dX13_has_1 (by rw [q1_8]; decide) (by rw [q1_8]; decide) (by rw [q1_8]; rfl) rfl (g_aload_n dX13_has_104 0 0 rfl rfl (g_getP dX13_has_105 fl_X13_139 rfl obM_0 rfl (g_bipush dX13_has_108 kb_41 (g_iald dX13_has_110 arM_42 (by unfold vp_in; decide) (g_ireturn dX13_has_111 rfl ⟨_, rfl, (h.2.2.2.2.2.2.2.2.1 q1_8)⟩)))))
      by_cases q1_9 : (v1) = 9
      · exact g_tableIn (off := 111) dX13_has_1 (by rw [q1_9]; decide) (by rw [q1_9]; decide) (by rw [q1_9]; rfl) rfl (g_aload_n dX13_has_112 0 0 rfl rfl (g_getI dX13_has_113 fl_X13_395 rfl obM_0 (g_ireturn dX13_has_116 rfl ⟨_, rfl, (h.2.2.2.2.2.2.2.2.2.1 q1_9)⟩)))
      by_cases q1_10 : (v1) = 10
      · exact g_tableIn (off := 116) dX13_has_1 (by rw [q1_10]; decide) (by rw [q1_10]; decide) (by rw [q1_10]; rfl) rfl (g_aload_n dX13_has_117 0 0 rfl rfl (g_getI dX13_has_118 fl_X13_392 rfl obM_0 (g_ireturn dX13_has_121 rfl ⟨_, rfl, (h.2.2.2.2.2.2.2.2.2.2.1 q1_10)⟩)))
      have e1_0 : (v1).toInt ≠ 0 := fun e => q1_0 (Int32.toInt_inj.mp e)
      have e1_1 : (v1).toInt ≠ 1 := fun e => q1_1 (Int32.toInt_inj.mp e)
      have e1_2 : (v1).toInt ≠ 2 := fun e => q1_2 (Int32.toInt_inj.mp e)
      have e1_3 : (v1).toInt ≠ 3 := fun e => q1_3 (Int32.toInt_inj.mp e)
      have e1_4 : (v1).toInt ≠ 4 := fun e => q1_4 (Int32.toInt_inj.mp e)
      have e1_5 : (v1).toInt ≠ 5 := fun e => q1_5 (Int32.toInt_inj.mp e)
      have e1_6 : (v1).toInt ≠ 6 := fun e => q1_6 (Int32.toInt_inj.mp e)
      have e1_7 : (v1).toInt ≠ 7 := fun e => q1_7 (Int32.toInt_inj.mp e)
      have e1_8 : (v1).toInt ≠ 8 := fun e => q1_8 (Int32.toInt_inj.mp e)
      have e1_9 : (v1).toInt ≠ 9 := fun e => q1_9 (Int32.toInt_inj.mp e)
      have e1_10 : (v1).toInt ≠ 10 := fun e => q1_10 (Int32.toInt_inj.mp e)
      exact g_tableOut dX13_has_1 (by omega) rfl (g_iconst dX13_has_122 kc_n1 (g_ireturn dX13_has_123 rfl ⟨_, rfl, (h.2.2.2.2.2.2.2.2.2.2.2 q1_0 q1_1 q1_2 q1_3 q1_4 q1_5 q1_6 q1_7 q1_8 q1_9 q1_10)⟩))))
theorem dX13_thoseWho_0 : decode cX13_thoseWho 0 = .ok (.iconst 0, 1) := by decide +kernel
theorem dX13_thoseWho_1 : decode cX13_thoseWho 1 = .ok (.istore_n 2, 1) := by decide +kernel
theorem dX13_thoseWho_2 : decode cX13_thoseWho 2 = .ok (.iconst 0, 1) := by decide +kernel
theorem dX13_thoseWho_3 : decode cX13_thoseWho 3 = .ok (.istore_n 3, 1) := by decide +kernel
theorem dX13_thoseWho_4 : decode cX13_thoseWho 4 = .ok (.iload_n 3, 1) := by decide +kernel
theorem dX13_thoseWho_5 : decode cX13_thoseWho 5 = .ok (.aload_n 0, 1) := by decide +kernel
theorem dX13_thoseWho_6 : decode cX13_thoseWho 6 = .ok (.invokevirtual 401, 3) := by decide +kernel
theorem dX13_thoseWho_9 : decode cX13_thoseWho 9 = .ok (.if_icmp .ge 32, 3) := by decide +kernel
theorem dX13_thoseWho_12 : decode cX13_thoseWho 12 = .ok (.aload_n 0, 1) := by decide +kernel
theorem dX13_thoseWho_13 : decode cX13_thoseWho 13 = .ok (.getfield 139, 3) := by decide +kernel
theorem dX13_thoseWho_16 : decode cX13_thoseWho 16 = .ok (.iconst 1, 1) := by decide +kernel
theorem dX13_thoseWho_17 : decode cX13_thoseWho 17 = .ok (.iconst 5, 1) := by decide +kernel
theorem dX13_thoseWho_18 : decode cX13_thoseWho 18 = .ok (.iload_n 3, 1) := by decide +kernel
theorem dX13_thoseWho_19 : decode cX13_thoseWho 19 = .ok (.imul, 1) := by decide +kernel
theorem dX13_thoseWho_20 : decode cX13_thoseWho 20 = .ok (.iadd, 1) := by decide +kernel
theorem dX13_thoseWho_21 : decode cX13_thoseWho 21 = .ok (.iconst 4, 1) := by decide +kernel
theorem dX13_thoseWho_22 : decode cX13_thoseWho 22 = .ok (.iadd, 1) := by decide +kernel
theorem dX13_thoseWho_23 : decode cX13_thoseWho 23 = .ok (.iaload, 1) := by decide +kernel
theorem dX13_thoseWho_24 : decode cX13_thoseWho 24 = .ok (.iload_n 1, 1) := by decide +kernel
theorem dX13_thoseWho_25 : decode cX13_thoseWho 25 = .ok (.iand, 1) := by decide +kernel
theorem dX13_thoseWho_26 : decode cX13_thoseWho 26 = .ok (.ifCond .eq 9, 3) := by decide +kernel
theorem dX13_thoseWho_29 : decode cX13_thoseWho 29 = .ok (.iload_n 2, 1) := by decide +kernel
theorem dX13_thoseWho_30 : decode cX13_thoseWho 30 = .ok (.iconst 1, 1) := by decide +kernel
theorem dX13_thoseWho_31 : decode cX13_thoseWho 31 = .ok (.iload_n 3, 1) := by decide +kernel
theorem dX13_thoseWho_32 : decode cX13_thoseWho 32 = .ok (.ishl, 1) := by decide +kernel
theorem dX13_thoseWho_33 : decode cX13_thoseWho 33 = .ok (.ior, 1) := by decide +kernel
theorem dX13_thoseWho_34 : decode cX13_thoseWho 34 = .ok (.istore_n 2, 1) := by decide +kernel
theorem dX13_thoseWho_35 : decode cX13_thoseWho 35 = .ok (.iinc 3 1, 3) := by decide +kernel
theorem dX13_thoseWho_38 : decode cX13_thoseWho 38 = .ok (.goto (-34), 3) := by decide +kernel
theorem dX13_thoseWho_41 : decode cX13_thoseWho 41 = .ok (.iload_n 2, 1) := by decide +kernel
theorem dX13_thoseWho_42 : decode cX13_thoseWho 42 = .ok (.ireturn, 1) := by decide +kernel
theorem bX13_thoseWho_0 {d : Nat}  {v1 : Int32} {I : Ii} {J : Jj} {K : KI}
    (h : GoI wM (d + 1) mX13_thoseWho 4 [(0, .ref (0)), (1, .int (v1)), (2, .int (0)), (3, .int (0))] [] I J K) :
    GoI wM (d + 1) mX13_thoseWho 0 [(0, .ref (0)), (1, .int (v1))] [] I J K :=
  (g_iconst dX13_thoseWho_0 kc_0 (g_istore_n dX13_thoseWho_1 rfl (by decide) rfl (g_iconst dX13_thoseWho_2 kc_0 (g_istore_n dX13_thoseWho_3 rfl (by decide) rfl (g_sub [2, 3, 1, 0] rfl h)))))
theorem bX13_thoseWho_4 {d : Nat}  {v1 : Int32} {v2 : Int32} {v3 : Int32} {I : Ii} {J : Jj} {K : KI}
    (h : CalI wM d mX13_personMany [.ref (0)] I J (fun x3 I1 J2 => (((x3 ≤ v3) → (K (v2) I1 J2)) ∧ ((¬ x3 ≤ v3) → (vp_in ((1 + (5 * v3)) + 4) 132 ∧ (((((I1 42 ((1 + (5 * v3)) + 4).toNatClampNeg) &&& v1) = 0) → (GoI wM (d + 1) mX13_thoseWho 4 [(0, .ref (0)), (1, .int (v1)), (2, .int (v2)), (3, .int (v3 + 1))] [] I1 J2 K)) ∧ ((¬ ((I1 42 ((1 + (5 * v3)) + 4).toNatClampNeg) &&& v1) = 0) → (GoI wM (d + 1) mX13_thoseWho 4 [(0, .ref (0)), (1, .int (v1)), (2, .int (v2 ||| (1 <<< (v3 &&& 31)))), (3, .int (v3 + 1))] [] I1 J2 K)))))))) :
    GoI wM (d + 1) mX13_thoseWho 4 [(0, .ref (0)), (1, .int (v1)), (2, .int (v2)), (3, .int (v3))] [] I J K :=
  (g_iload_n dX13_thoseWho_4 3 3 rfl rfl (g_aload_n dX13_thoseWho_5 0 0 rfl rfl (g_callvI dX13_thoseWho_6 ml_X13_401 md_X13_personMany mv_X13_personMany obM_0 rfl rfl rfl (Nat.le_of_ble_eq_true rfl) (CalI.mono h (fun x3 I1 J2 h7 => (g_icmp_ge dX13_thoseWho_9 rfl (fun q4 => (g_iload_n dX13_thoseWho_41 2 2 rfl rfl (g_ireturn dX13_thoseWho_42 rfl ⟨_, rfl, (h7.1 q4)⟩))) (fun q4 => (g_aload_n dX13_thoseWho_12 0 0 rfl rfl (g_getP dX13_thoseWho_13 fl_X13_139 rfl obM_0 rfl (g_iconst dX13_thoseWho_16 kc_1 (g_iconst dX13_thoseWho_17 kc_5 (g_iload_n dX13_thoseWho_18 3 3 rfl rfl (g_imul dX13_thoseWho_19 (g_iadd dX13_thoseWho_20 (g_iconst dX13_thoseWho_21 kc_4 (g_iadd dX13_thoseWho_22 (have b5 := (h7.2 q4).1; g_iald dX13_thoseWho_23 arM_42 b5 (g_iload_n dX13_thoseWho_24 1 1 rfl rfl (g_iand dX13_thoseWho_25 (g_if_eq dX13_thoseWho_26 rfl (fun q6 => (g_iinc dX13_thoseWho_35 3 rfl rfl (by decide) rfl (g_goto dX13_thoseWho_38 rfl (g_sub [1, 2, 3, 0] rfl ((h7.2 q4).2.1 q6))))) (fun q6 => (g_iload_n dX13_thoseWho_29 2 2 rfl rfl (g_iconst dX13_thoseWho_30 kc_1 (g_iload_n dX13_thoseWho_31 3 3 rfl rfl (g_ishl dX13_thoseWho_32 (g_ior dX13_thoseWho_33 (g_istore_n dX13_thoseWho_34 rfl (by decide) rfl (g_iinc dX13_thoseWho_35 3 rfl rfl (by decide) rfl (g_goto dX13_thoseWho_38 rfl (g_sub [2, 3, 1, 0] rfl ((h7.2 q4).2.2 q6)))))))))))))))))))))))))))))))
theorem dX13_personMany_0 : decode cX13_personMany 0 = .ok (.aload_n 0, 1) := by decide +kernel
theorem dX13_personMany_1 : decode cX13_personMany 1 = .ok (.getfield 105, 3) := by decide +kernel
theorem dX13_personMany_4 : decode cX13_personMany 4 = .ok (.iconst 3, 1) := by decide +kernel
theorem dX13_personMany_5 : decode cX13_personMany 5 = .ok (.iaload, 1) := by decide +kernel
theorem dX13_personMany_6 : decode cX13_personMany 6 = .ok (.ireturn, 1) := by decide +kernel
theorem bX13_personMany_0 {d : Nat}   {I : Ii} {J : Jj} {K : KI}
    (h : K (I 31 (3 : Int32).toNatClampNeg) I J) :
    GoI wM d mX13_personMany 0 [(0, .ref (0))] [] I J K :=
  (g_aload_n dX13_personMany_0 0 0 rfl rfl (g_getP dX13_personMany_1 fl_X13_105 rfl obM_0 rfl (g_iconst dX13_personMany_4 kc_3 (g_iald dX13_personMany_5 arM_31 (by unfold vp_in; decide) (g_ireturn dX13_personMany_6 rfl ⟨_, rfl, h⟩)))))
theorem dX13_bits_0 : decode cX13_bits 0 = .ok (.iconst 0, 1) := by decide +kernel
theorem dX13_bits_1 : decode cX13_bits 1 = .ok (.istore_n 1, 1) := by decide +kernel
theorem dX13_bits_2 : decode cX13_bits 2 = .ok (.iload_n 0, 1) := by decide +kernel
theorem dX13_bits_3 : decode cX13_bits 3 = .ok (.istore_n 2, 1) := by decide +kernel
theorem dX13_bits_4 : decode cX13_bits 4 = .ok (.iload_n 2, 1) := by decide +kernel
theorem dX13_bits_5 : decode cX13_bits 5 = .ok (.ifCond .eq 15, 3) := by decide +kernel
theorem dX13_bits_8 : decode cX13_bits 8 = .ok (.iinc 1 1, 3) := by decide +kernel
theorem dX13_bits_11 : decode cX13_bits 11 = .ok (.iload_n 2, 1) := by decide +kernel
theorem dX13_bits_12 : decode cX13_bits 12 = .ok (.iload_n 2, 1) := by decide +kernel
theorem dX13_bits_13 : decode cX13_bits 13 = .ok (.iconst 1, 1) := by decide +kernel
theorem dX13_bits_14 : decode cX13_bits 14 = .ok (.isub, 1) := by decide +kernel
theorem dX13_bits_15 : decode cX13_bits 15 = .ok (.iand, 1) := by decide +kernel
theorem dX13_bits_16 : decode cX13_bits 16 = .ok (.istore_n 2, 1) := by decide +kernel
theorem dX13_bits_17 : decode cX13_bits 17 = .ok (.goto (-13), 3) := by decide +kernel
theorem dX13_bits_20 : decode cX13_bits 20 = .ok (.iload_n 1, 1) := by decide +kernel
theorem dX13_bits_21 : decode cX13_bits 21 = .ok (.ireturn, 1) := by decide +kernel
theorem bX13_bits_0 {d : Nat}  {v0 : Int32} {I : Ii} {J : Jj} {K : KI}
    (h : GoI wM d mX13_bits 4 [(1, .int (0)), (2, .int (v0))] [] I J K) :
    GoI wM d mX13_bits 0 [(0, .int (v0))] [] I J K :=
  (g_iconst dX13_bits_0 kc_0 (g_istore_n dX13_bits_1 rfl (by decide) rfl (g_iload_n dX13_bits_2 1 0 rfl rfl (g_istore_n dX13_bits_3 rfl (by decide) rfl (g_sub [1, 0] rfl h)))))
theorem bX13_bits_4 {d : Nat}  {v1 : Int32} {v2 : Int32} {I : Ii} {J : Jj} {K : KI}
    (h : ((v2 = 0) → (K (v1) I J)) ∧ ((¬ v2 = 0) → (GoI wM d mX13_bits 4 [(1, .int (v1 + 1)), (2, .int (v2 &&& (v2 - 1)))] [] I J K))) :
    GoI wM d mX13_bits 4 [(1, .int (v1)), (2, .int (v2))] [] I J K :=
  (g_iload_n dX13_bits_4 1 2 rfl rfl (g_if_eq dX13_bits_5 rfl (fun q1 => (g_iload_n dX13_bits_20 0 1 rfl rfl (g_ireturn dX13_bits_21 rfl ⟨_, rfl, (h.1 q1)⟩))) (fun q1 => (g_iinc dX13_bits_8 0 rfl rfl (by decide) rfl (g_iload_n dX13_bits_11 1 2 rfl rfl (g_iload_n dX13_bits_12 1 2 rfl rfl (g_iconst dX13_bits_13 kc_1 (g_isub dX13_bits_14 (g_iand dX13_bits_15 (g_istore_n dX13_bits_16 rfl (by decide) rfl (g_goto dX13_bits_17 rfl (g_sub [1, 0] rfl (h.2 q1)))))))))))))
theorem dX13_beliefs_0 : decode cX13_beliefs 0 = .ok (.iconst 0, 1) := by decide +kernel
theorem dX13_beliefs_1 : decode cX13_beliefs 1 = .ok (.istore_n 2, 1) := by decide +kernel
theorem dX13_beliefs_2 : decode cX13_beliefs 2 = .ok (.iconst 0, 1) := by decide +kernel
theorem dX13_beliefs_3 : decode cX13_beliefs 3 = .ok (.istore_n 3, 1) := by decide +kernel
theorem dX13_beliefs_4 : decode cX13_beliefs 4 = .ok (.iload_n 3, 1) := by decide +kernel
theorem dX13_beliefs_5 : decode cX13_beliefs 5 = .ok (.aload_n 0, 1) := by decide +kernel
theorem dX13_beliefs_6 : decode cX13_beliefs 6 = .ok (.invokevirtual 401, 3) := by decide +kernel
theorem dX13_beliefs_9 : decode cX13_beliefs 9 = .ok (.if_icmp .ge 32, 3) := by decide +kernel
theorem dX13_beliefs_12 : decode cX13_beliefs 12 = .ok (.iload_n 2, 1) := by decide +kernel
theorem dX13_beliefs_13 : decode cX13_beliefs 13 = .ok (.iload_n 1, 1) := by decide +kernel
theorem dX13_beliefs_14 : decode cX13_beliefs 14 = .ok (.ifCond .eq 11, 3) := by decide +kernel
theorem dX13_beliefs_17 : decode cX13_beliefs 17 = .ok (.aload_n 0, 1) := by decide +kernel
theorem dX13_beliefs_18 : decode cX13_beliefs 18 = .ok (.iload_n 3, 1) := by decide +kernel
theorem dX13_beliefs_19 : decode cX13_beliefs 19 = .ok (.invokevirtual 404, 3) := by decide +kernel
theorem dX13_beliefs_22 : decode cX13_beliefs 22 = .ok (.goto 8, 3) := by decide +kernel
theorem dX13_beliefs_25 : decode cX13_beliefs 25 = .ok (.aload_n 0, 1) := by decide +kernel
theorem dX13_beliefs_26 : decode cX13_beliefs 26 = .ok (.iload_n 3, 1) := by decide +kernel
theorem dX13_beliefs_27 : decode cX13_beliefs 27 = .ok (.invokevirtual 407, 3) := by decide +kernel
theorem dX13_beliefs_30 : decode cX13_beliefs 30 = .ok (.invokestatic 483, 3) := by decide +kernel
theorem dX13_beliefs_33 : decode cX13_beliefs 33 = .ok (.iadd, 1) := by decide +kernel
theorem dX13_beliefs_34 : decode cX13_beliefs 34 = .ok (.istore_n 2, 1) := by decide +kernel
theorem dX13_beliefs_35 : decode cX13_beliefs 35 = .ok (.iinc 3 1, 3) := by decide +kernel
theorem dX13_beliefs_38 : decode cX13_beliefs 38 = .ok (.goto (-34), 3) := by decide +kernel
theorem dX13_beliefs_41 : decode cX13_beliefs 41 = .ok (.iload_n 2, 1) := by decide +kernel
theorem dX13_beliefs_42 : decode cX13_beliefs 42 = .ok (.ireturn, 1) := by decide +kernel
theorem bX13_beliefs_0 {d : Nat}  {v1 : Int32} {I : Ii} {J : Jj} {K : KI}
    (h : GoI wM (d + 1) mX13_beliefs 4 [(0, .ref (0)), (1, .int (v1)), (2, .int (0)), (3, .int (0))] [] I J K) :
    GoI wM (d + 1) mX13_beliefs 0 [(0, .ref (0)), (1, .int (v1))] [] I J K :=
  (g_iconst dX13_beliefs_0 kc_0 (g_istore_n dX13_beliefs_1 rfl (by decide) rfl (g_iconst dX13_beliefs_2 kc_0 (g_istore_n dX13_beliefs_3 rfl (by decide) rfl (g_sub [2, 3, 1, 0] rfl h)))))
theorem bX13_beliefs_4 {d : Nat}  {v1 : Int32} {v2 : Int32} {v3 : Int32} {I : Ii} {J : Jj} {K : KI}
    (h : CalI wM d mX13_personMany [.ref (0)] I J (fun x3 I1 J2 => (((x3 ≤ v3) → (K (v2) I1 J2)) ∧ ((¬ x3 ≤ v3) → (((v1 = 0) → (CalI wM d mX13_wrongOf [.ref (0), .int (v3)] I1 J2 (fun x8 I6 J7 => (CalI wM d mX13_bits [.int (x8)] I6 J7 (fun x11 I9 J10 => (GoI wM (d + 1) mX13_beliefs 4 [(0, .ref (0)), (1, .int (v1)), (2, .int (v2 + x11)), (3, .int (v3 + 1))] [] I9 J10 K)))))) ∧ ((¬ v1 = 0) → (CalI wM d mX13_rightOf [.ref (0), .int (v3)] I1 J2 (fun x16 I14 J15 => (CalI wM d mX13_bits [.int (x16)] I14 J15 (fun x19 I17 J18 => (GoI wM (d + 1) mX13_beliefs 4 [(0, .ref (0)), (1, .int (v1)), (2, .int (v2 + x19)), (3, .int (v3 + 1))] [] I17 J18 K))))))))))) :
    GoI wM (d + 1) mX13_beliefs 4 [(0, .ref (0)), (1, .int (v1)), (2, .int (v2)), (3, .int (v3))] [] I J K :=
  (g_iload_n dX13_beliefs_4 3 3 rfl rfl (g_aload_n dX13_beliefs_5 0 0 rfl rfl (g_callvI dX13_beliefs_6 ml_X13_401 md_X13_personMany mv_X13_personMany obM_0 rfl rfl rfl (Nat.le_of_ble_eq_true rfl) (CalI.mono h (fun x3 I1 J2 h22 => (g_icmp_ge dX13_beliefs_9 rfl (fun q4 => (g_iload_n dX13_beliefs_41 2 2 rfl rfl (g_ireturn dX13_beliefs_42 rfl ⟨_, rfl, (h22.1 q4)⟩))) (fun q4 => (g_iload_n dX13_beliefs_12 2 2 rfl rfl (g_iload_n dX13_beliefs_13 1 1 rfl rfl (g_if_eq dX13_beliefs_14 rfl (fun q5 => (g_aload_n dX13_beliefs_25 0 0 rfl rfl (g_iload_n dX13_beliefs_26 3 3 rfl rfl (g_callvI dX13_beliefs_27 ml_X13_407 md_X13_wrongOf mv_X13_wrongOf obM_0 rfl rfl rfl (Nat.le_of_ble_eq_true rfl) (CalI.mono ((h22.2 q4).1 q5) (fun x8 I6 J7 h13 => (g_callsI dX13_beliefs_30 ml_X13_483 md_X13_bits ms_X13_bits rfl rfl (Nat.le_of_ble_eq_true rfl) (CalI.mono h13 (fun x11 I9 J10 h12 => (g_iadd dX13_beliefs_33 (g_istore_n dX13_beliefs_34 rfl (by decide) rfl (g_iinc dX13_beliefs_35 3 rfl rfl (by decide) rfl (g_goto dX13_beliefs_38 rfl (g_sub [2, 3, 1, 0] rfl h12)))))))))))))) (fun q5 => (g_aload_n dX13_beliefs_17 0 0 rfl rfl (g_iload_n dX13_beliefs_18 3 3 rfl rfl (g_callvI dX13_beliefs_19 ml_X13_404 md_X13_rightOf mv_X13_rightOf obM_0 rfl rfl rfl (Nat.le_of_ble_eq_true rfl) (CalI.mono ((h22.2 q4).2 q5) (fun x16 I14 J15 h21 => (g_goto dX13_beliefs_22 rfl (g_callsI dX13_beliefs_30 ml_X13_483 md_X13_bits ms_X13_bits rfl rfl (Nat.le_of_ble_eq_true rfl) (CalI.mono h21 (fun x19 I17 J18 h20 => (g_iadd dX13_beliefs_33 (g_istore_n dX13_beliefs_34 rfl (by decide) rfl (g_iinc dX13_beliefs_35 3 rfl rfl (by decide) rfl (g_goto dX13_beliefs_38 rfl (g_sub [2, 3, 1, 0] rfl h20)))))))))))))))))))))))))
theorem dX13_rightOf_0 : decode cX13_rightOf 0 = .ok (.aload_n 0, 1) := by decide +kernel
theorem dX13_rightOf_1 : decode cX13_rightOf 1 = .ok (.getfield 139, 3) := by decide +kernel
theorem dX13_rightOf_4 : decode cX13_rightOf 4 = .ok (.iconst 1, 1) := by decide +kernel
theorem dX13_rightOf_5 : decode cX13_rightOf 5 = .ok (.iconst 5, 1) := by decide +kernel
theorem dX13_rightOf_6 : decode cX13_rightOf 6 = .ok (.iload_n 1, 1) := by decide +kernel
theorem dX13_rightOf_7 : decode cX13_rightOf 7 = .ok (.imul, 1) := by decide +kernel
theorem dX13_rightOf_8 : decode cX13_rightOf 8 = .ok (.iadd, 1) := by decide +kernel
theorem dX13_rightOf_9 : decode cX13_rightOf 9 = .ok (.iconst 1, 1) := by decide +kernel
theorem dX13_rightOf_10 : decode cX13_rightOf 10 = .ok (.iadd, 1) := by decide +kernel
theorem dX13_rightOf_11 : decode cX13_rightOf 11 = .ok (.iaload, 1) := by decide +kernel
theorem dX13_rightOf_12 : decode cX13_rightOf 12 = .ok (.ireturn, 1) := by decide +kernel
theorem bX13_rightOf_0 {d : Nat}  {v1 : Int32} {I : Ii} {J : Jj} {K : KI}
    (h : vp_in ((1 + (5 * v1)) + 1) 132 ∧ (K (I 42 ((1 + (5 * v1)) + 1).toNatClampNeg) I J)) :
    GoI wM d mX13_rightOf 0 [(0, .ref (0)), (1, .int (v1))] [] I J K :=
  (g_aload_n dX13_rightOf_0 0 0 rfl rfl (g_getP dX13_rightOf_1 fl_X13_139 rfl obM_0 rfl (g_iconst dX13_rightOf_4 kc_1 (g_iconst dX13_rightOf_5 kc_5 (g_iload_n dX13_rightOf_6 1 1 rfl rfl (g_imul dX13_rightOf_7 (g_iadd dX13_rightOf_8 (g_iconst dX13_rightOf_9 kc_1 (g_iadd dX13_rightOf_10 (have b1 := h.1; g_iald dX13_rightOf_11 arM_42 b1 (g_ireturn dX13_rightOf_12 rfl ⟨_, rfl, h.2⟩)))))))))))
theorem dX13_wrongOf_0 : decode cX13_wrongOf 0 = .ok (.aload_n 0, 1) := by decide +kernel
theorem dX13_wrongOf_1 : decode cX13_wrongOf 1 = .ok (.getfield 139, 3) := by decide +kernel
theorem dX13_wrongOf_4 : decode cX13_wrongOf 4 = .ok (.iconst 1, 1) := by decide +kernel
theorem dX13_wrongOf_5 : decode cX13_wrongOf 5 = .ok (.iconst 5, 1) := by decide +kernel
theorem dX13_wrongOf_6 : decode cX13_wrongOf 6 = .ok (.iload_n 1, 1) := by decide +kernel
theorem dX13_wrongOf_7 : decode cX13_wrongOf 7 = .ok (.imul, 1) := by decide +kernel
theorem dX13_wrongOf_8 : decode cX13_wrongOf 8 = .ok (.iadd, 1) := by decide +kernel
theorem dX13_wrongOf_9 : decode cX13_wrongOf 9 = .ok (.iconst 2, 1) := by decide +kernel
theorem dX13_wrongOf_10 : decode cX13_wrongOf 10 = .ok (.iadd, 1) := by decide +kernel
theorem dX13_wrongOf_11 : decode cX13_wrongOf 11 = .ok (.iaload, 1) := by decide +kernel
theorem dX13_wrongOf_12 : decode cX13_wrongOf 12 = .ok (.ireturn, 1) := by decide +kernel
theorem bX13_wrongOf_0 {d : Nat}  {v1 : Int32} {I : Ii} {J : Jj} {K : KI}
    (h : vp_in ((1 + (5 * v1)) + 2) 132 ∧ (K (I 42 ((1 + (5 * v1)) + 2).toNatClampNeg) I J)) :
    GoI wM d mX13_wrongOf 0 [(0, .ref (0)), (1, .int (v1))] [] I J K :=
  (g_aload_n dX13_wrongOf_0 0 0 rfl rfl (g_getP dX13_wrongOf_1 fl_X13_139 rfl obM_0 rfl (g_iconst dX13_wrongOf_4 kc_1 (g_iconst dX13_wrongOf_5 kc_5 (g_iload_n dX13_wrongOf_6 1 1 rfl rfl (g_imul dX13_wrongOf_7 (g_iadd dX13_wrongOf_8 (g_iconst dX13_wrongOf_9 kc_2 (g_iadd dX13_wrongOf_10 (have b1 := h.1; g_iald dX13_wrongOf_11 arM_42 b1 (g_ireturn dX13_wrongOf_12 rfl ⟨_, rfl, h.2⟩)))))))))))
theorem dX13_letter_0 : decode cX13_letter 0 = .ok (.iload_n 1, 1) := by decide +kernel
theorem dX13_letter_1 : decode cX13_letter 1 = .ok (.i2l, 1) := by decide +kernel
theorem dX13_letter_2 : decode cX13_letter 2 = .ok (.lconst 0, 1) := by decide +kernel
theorem dX13_letter_3 : decode cX13_letter 3 = .ok (.lconst 1, 1) := by decide +kernel
theorem dX13_letter_4 : decode cX13_letter 4 = .ok (.invokestatic 297, 3) := by decide +kernel
theorem dX13_letter_7 : decode cX13_letter 7 = .ok (.ifCond .eq 35, 3) := by decide +kernel
theorem dX13_letter_10 : decode cX13_letter 10 = .ok (.iload_n 2, 1) := by decide +kernel
theorem dX13_letter_11 : decode cX13_letter 11 = .ok (.i2l, 1) := by decide +kernel
theorem dX13_letter_12 : decode cX13_letter 12 = .ok (.lconst 0, 1) := by decide +kernel
theorem dX13_letter_13 : decode cX13_letter 13 = .ok (.aload_n 0, 1) := by decide +kernel
theorem dX13_letter_14 : decode cX13_letter 14 = .ok (.getfield 105, 3) := by decide +kernel
theorem dX13_letter_17 : decode cX13_letter 17 = .ok (.iconst 2, 1) := by decide +kernel
theorem dX13_letter_18 : decode cX13_letter 18 = .ok (.iload_n 1, 1) := by decide +kernel
theorem dX13_letter_19 : decode cX13_letter 19 = .ok (.iadd, 1) := by decide +kernel
theorem dX13_letter_20 : decode cX13_letter 20 = .ok (.iaload, 1) := by decide +kernel
theorem dX13_letter_21 : decode cX13_letter 21 = .ok (.iconst 1, 1) := by decide +kernel
theorem dX13_letter_22 : decode cX13_letter 22 = .ok (.isub, 1) := by decide +kernel
theorem dX13_letter_23 : decode cX13_letter 23 = .ok (.i2l, 1) := by decide +kernel
theorem dX13_letter_24 : decode cX13_letter 24 = .ok (.invokestatic 297, 3) := by decide +kernel
theorem dX13_letter_27 : decode cX13_letter 27 = .ok (.ifCond .eq 15, 3) := by decide +kernel
theorem dX13_letter_30 : decode cX13_letter 30 = .ok (.iload_n 3, 1) := by decide +kernel
theorem dX13_letter_31 : decode cX13_letter 31 = .ok (.i2l, 1) := by decide +kernel
theorem dX13_letter_32 : decode cX13_letter 32 = .ok (.lconst 0, 1) := by decide +kernel
theorem dX13_letter_33 : decode cX13_letter 33 = .ok (.ldc2_w 493, 3) := by decide +kernel
theorem dX13_letter_36 : decode cX13_letter 36 = .ok (.invokestatic 297, 3) := by decide +kernel
theorem dX13_letter_39 : decode cX13_letter 39 = .ok (.ifCond .ne 5, 3) := by decide +kernel
theorem dX13_letter_42 : decode cX13_letter 42 = .ok (.iconst (-1), 1) := by decide +kernel
theorem dX13_letter_43 : decode cX13_letter 43 = .ok (.ireturn, 1) := by decide +kernel
theorem dX13_letter_44 : decode cX13_letter 44 = .ok (.aload_n 0, 1) := by decide +kernel
theorem dX13_letter_45 : decode cX13_letter 45 = .ok (.getfield 108, 3) := by decide +kernel
theorem dX13_letter_48 : decode cX13_letter 48 = .ok (.bipush 16, 2) := by decide +kernel
theorem dX13_letter_50 : decode cX13_letter 50 = .ok (.bipush 8, 2) := by decide +kernel
theorem dX13_letter_52 : decode cX13_letter 52 = .ok (.iload_n 1, 1) := by decide +kernel
theorem dX13_letter_53 : decode cX13_letter 53 = .ok (.imul, 1) := by decide +kernel
theorem dX13_letter_54 : decode cX13_letter 54 = .ok (.iadd, 1) := by decide +kernel
theorem dX13_letter_55 : decode cX13_letter 55 = .ok (.iload_n 2, 1) := by decide +kernel
theorem dX13_letter_56 : decode cX13_letter 56 = .ok (.iadd, 1) := by decide +kernel
theorem dX13_letter_57 : decode cX13_letter 57 = .ok (.laload, 1) := by decide +kernel
theorem dX13_letter_58 : decode cX13_letter 58 = .ok (.lstore 4, 2) := by decide +kernel
theorem dX13_letter_60 : decode cX13_letter 60 = .ok (.iconst 0, 1) := by decide +kernel
theorem dX13_letter_61 : decode cX13_letter 61 = .ok (.istore 6, 2) := by decide +kernel
theorem dX13_letter_63 : decode cX13_letter 63 = .ok (.lload 4, 2) := by decide +kernel
theorem dX13_letter_65 : decode cX13_letter 65 = .ok (.lstore 7, 2) := by decide +kernel
theorem dX13_letter_67 : decode cX13_letter 67 = .ok (.lload 7, 2) := by decide +kernel
theorem dX13_letter_69 : decode cX13_letter 69 = .ok (.lconst 0, 1) := by decide +kernel
theorem dX13_letter_70 : decode cX13_letter 70 = .ok (.lcmp, 1) := by decide +kernel
theorem dX13_letter_71 : decode cX13_letter 71 = .ok (.ifCond .le 17, 3) := by decide +kernel
theorem dX13_letter_74 : decode cX13_letter 74 = .ok (.iinc 6 1, 3) := by decide +kernel
theorem dX13_letter_77 : decode cX13_letter 77 = .ok (.lload 7, 2) := by decide +kernel
theorem dX13_letter_79 : decode cX13_letter 79 = .ok (.ldc2_w 308, 3) := by decide +kernel
theorem dX13_letter_82 : decode cX13_letter 82 = .ok (.ldiv, 1) := by decide +kernel
theorem dX13_letter_83 : decode cX13_letter 83 = .ok (.lstore 7, 2) := by decide +kernel
theorem dX13_letter_85 : decode cX13_letter 85 = .ok (.goto (-18), 3) := by decide +kernel
theorem dX13_letter_88 : decode cX13_letter 88 = .ok (.iload_n 3, 1) := by decide +kernel
theorem dX13_letter_89 : decode cX13_letter 89 = .ok (.iload 6, 2) := by decide +kernel
theorem dX13_letter_91 : decode cX13_letter 91 = .ok (.if_icmp .lt 5, 3) := by decide +kernel
theorem dX13_letter_94 : decode cX13_letter 94 = .ok (.iconst 0, 1) := by decide +kernel
theorem dX13_letter_95 : decode cX13_letter 95 = .ok (.ireturn, 1) := by decide +kernel
theorem dX13_letter_96 : decode cX13_letter 96 = .ok (.iload 6, 2) := by decide +kernel
theorem dX13_letter_98 : decode cX13_letter 98 = .ok (.iconst 1, 1) := by decide +kernel
theorem dX13_letter_99 : decode cX13_letter 99 = .ok (.isub, 1) := by decide +kernel
theorem dX13_letter_100 : decode cX13_letter 100 = .ok (.istore 7, 2) := by decide +kernel
theorem dX13_letter_102 : decode cX13_letter 102 = .ok (.iload 7, 2) := by decide +kernel
theorem dX13_letter_104 : decode cX13_letter 104 = .ok (.iload_n 3, 1) := by decide +kernel
theorem dX13_letter_105 : decode cX13_letter 105 = .ok (.if_icmp .le 17, 3) := by decide +kernel
theorem dX13_letter_108 : decode cX13_letter 108 = .ok (.lload 4, 2) := by decide +kernel
theorem dX13_letter_110 : decode cX13_letter 110 = .ok (.ldc2_w 308, 3) := by decide +kernel
theorem dX13_letter_113 : decode cX13_letter 113 = .ok (.ldiv, 1) := by decide +kernel
theorem dX13_letter_114 : decode cX13_letter 114 = .ok (.lstore 4, 2) := by decide +kernel
theorem dX13_letter_116 : decode cX13_letter 116 = .ok (.iinc 7 (-1), 3) := by decide +kernel
theorem dX13_letter_119 : decode cX13_letter 119 = .ok (.goto (-17), 3) := by decide +kernel
theorem dX13_letter_122 : decode cX13_letter 122 = .ok (.lload 4, 2) := by decide +kernel
theorem dX13_letter_124 : decode cX13_letter 124 = .ok (.ldc2_w 308, 3) := by decide +kernel
theorem dX13_letter_127 : decode cX13_letter 127 = .ok (.lrem, 1) := by decide +kernel
theorem dX13_letter_128 : decode cX13_letter 128 = .ok (.l2i, 1) := by decide +kernel
theorem dX13_letter_129 : decode cX13_letter 129 = .ok (.ireturn, 1) := by decide +kernel
theorem bX13_letter_0 {d : Nat}  {v1 : Int32} {v2 : Int32} {v3 : Int32} {I : Ii} {J : Jj} {K : KI}
    (h : CalI wM d mX13_isIn [.long (v1.toInt64), .long (0), .long (1)] I J (fun x3 I1 J2 => (((x3 = 0) → (K ((-1)) I1 J2)) ∧ ((¬ x3 = 0) → (vp_in (2 + v1) 4 ∧ (CalI wM d mX13_isIn [.long (v2.toInt64), .long (0), .long (((I1 31 (2 + v1).toNatClampNeg) - 1).toInt64)] I1 J2 (fun x8 I6 J7 => (((x8 = 0) → (K ((-1)) I6 J7)) ∧ ((¬ x8 = 0) → (CalI wM d mX13_isIn [.long (v3.toInt64), .long (0), .long (5)] I6 J7 (fun x12 I10 J11 => (((¬ x12 = 0) → (vp_in ((16 + (8 * v1)) + v2) 32 ∧ (∀ y15 : Int64, y15 = J11 32 ((16 + (8 * v1)) + v2).toNatClampNeg → (GoI wM (d + 1) mX13_letter 67 [(3, .int (v3)), (4, .long (y15)), (6, .int (0)), (7, .long (y15))] [] I10 J11 K)))) ∧ ((x12 = 0) → (K ((-1)) I10 J11)))))))))))))) :
    GoI wM (d + 1) mX13_letter 0 [(0, .ref (0)), (1, .int (v1)), (2, .int (v2)), (3, .int (v3))] [] I J K :=
  (g_iload_n dX13_letter_0 1 1 rfl rfl (g_i2l dX13_letter_1 (g_lconst dX13_letter_2 kq_0 (g_lconst dX13_letter_3 kq_1 (g_callsI dX13_letter_4 ml_X13_297 md_X13_isIn ms_X13_isIn rfl rfl (Nat.le_of_ble_eq_true rfl) (CalI.mono h (fun x3 I1 J2 h18 => (g_if_eq dX13_letter_7 rfl (fun q4 => (g_iconst dX13_letter_42 kc_n1 (g_ireturn dX13_letter_43 rfl ⟨_, rfl, (h18.1 q4)⟩))) (fun q4 => (g_iload_n dX13_letter_10 2 2 rfl rfl (g_i2l dX13_letter_11 (g_lconst dX13_letter_12 kq_0 (g_aload_n dX13_letter_13 0 0 rfl rfl (g_getP dX13_letter_14 fl_X13_105 rfl obM_0 rfl (g_iconst dX13_letter_17 kc_2 (g_iload_n dX13_letter_18 1 1 rfl rfl (g_iadd dX13_letter_19 (have b5 := (h18.2 q4).1; g_iald dX13_letter_20 arM_31 b5 (g_iconst dX13_letter_21 kc_1 (g_isub dX13_letter_22 (g_i2l dX13_letter_23 (g_callsI dX13_letter_24 ml_X13_297 md_X13_isIn ms_X13_isIn rfl rfl (Nat.le_of_ble_eq_true rfl) (CalI.mono (h18.2 q4).2 (fun x8 I6 J7 h17 => (g_if_eq dX13_letter_27 rfl (fun q9 => (g_iconst dX13_letter_42 kc_n1 (g_ireturn dX13_letter_43 rfl ⟨_, rfl, (h17.1 q9)⟩))) (fun q9 => (g_iload_n dX13_letter_30 3 3 rfl rfl (g_i2l dX13_letter_31 (g_lconst dX13_letter_32 kq_0 (g_ldc2 dX13_letter_33 kl_X13_493 (g_callsI dX13_letter_36 ml_X13_297 md_X13_isIn ms_X13_isIn rfl rfl (Nat.le_of_ble_eq_true rfl) (CalI.mono (h17.2 q9) (fun x12 I10 J11 h16 => (g_if_ne dX13_letter_39 rfl (fun q13 => (g_aload_n dX13_letter_44 0 0 rfl rfl (g_getP dX13_letter_45 fl_X13_108 rfl obM_0 rfl (g_bipush dX13_letter_48 kb_16 (g_bipush dX13_letter_50 kb_8 (g_iload_n dX13_letter_52 1 1 rfl rfl (g_imul dX13_letter_53 (g_iadd dX13_letter_54 (g_iload_n dX13_letter_55 2 2 rfl rfl (g_iadd dX13_letter_56 (have b14 := (h16.1 q13).1; g_lald dX13_letter_57 arM_32 b14 (g_lstore dX13_letter_58 (by decide) rfl (g_iconst dX13_letter_60 kc_0 (g_istore dX13_letter_61 (by decide) rfl (g_lload dX13_letter_63 1 rfl (g_lstore dX13_letter_65 (by decide) rfl (g_sub [6, 2, 1, 0] rfl ((h16.1 q13).2 _ rfl)))))))))))))))))) (fun q13 => (g_iconst dX13_letter_42 kc_n1 (g_ireturn dX13_letter_43 rfl ⟨_, rfl, (h16.2 q13)⟩)))))))))))))))))))))))))))))))))))))
theorem bX13_letter_67 {d : Nat}  {v3 : Int32} {v4 : Int64} {v6 : Int32} {v7 : Int64} {I : Ii} {J : Jj} {K : KI}
    (h : (((lg_cmp v7 0) ≤ 0) → (((v3 < v6) → (GoI wM (d + 1) mX13_letter 102 [(3, .int (v3)), (4, .long (v4)), (7, .int (v6 - 1))] [] I J K)) ∧ ((¬ v3 < v6) → (K (0) I J)))) ∧ ((¬ (lg_cmp v7 0) ≤ 0) → (GoI wM (d + 1) mX13_letter 67 [(3, .int (v3)), (4, .long (v4)), (6, .int (v6 + 1)), (7, .long (v7 / 27))] [] I J K))) :
    GoI wM (d + 1) mX13_letter 67 [(3, .int (v3)), (4, .long (v4)), (6, .int (v6)), (7, .long (v7))] [] I J K :=
  (g_lload dX13_letter_67 3 rfl (g_lconst dX13_letter_69 kq_0 (g_lcmp dX13_letter_70 (g_if_le dX13_letter_71 rfl (fun q1 => (g_iload_n dX13_letter_88 0 3 rfl rfl (g_iload dX13_letter_89 2 rfl (g_icmp_lt dX13_letter_91 rfl (fun q2 => (g_iload dX13_letter_96 2 rfl (g_iconst dX13_letter_98 kc_1 (g_isub dX13_letter_99 (g_istore dX13_letter_100 (by decide) rfl (g_sub [1, 2, 0] rfl ((h.1 q1).1 q2))))))) (fun q2 => (g_iconst dX13_letter_94 kc_0 (g_ireturn dX13_letter_95 rfl ⟨_, rfl, ((h.1 q1).2 q2)⟩))))))) (fun q1 => (g_iinc dX13_letter_74 2 rfl rfl (by decide) rfl (g_lload dX13_letter_77 3 rfl (g_ldc2 dX13_letter_79 kl_X13_308 (g_ldiv dX13_letter_82 (by decide) (g_lstore dX13_letter_83 (by decide) rfl (g_goto dX13_letter_85 rfl (g_sub [2, 3, 1, 0] rfl (h.2 q1)))))))))))))
theorem bX13_letter_102 {d : Nat}  {v3 : Int32} {v4 : Int64} {v7 : Int32} {I : Ii} {J : Jj} {K : KI}
    (h : ((v7 ≤ v3) → (K ((v4 - v4 / 27 * 27).toInt32) I J)) ∧ ((¬ v7 ≤ v3) → (GoI wM (d + 1) mX13_letter 102 [(3, .int (v3)), (4, .long (v4 / 27)), (7, .int (v7 + (Int32.ofInt (-1))))] [] I J K))) :
    GoI wM (d + 1) mX13_letter 102 [(3, .int (v3)), (4, .long (v4)), (7, .int (v7))] [] I J K :=
  (g_iload dX13_letter_102 2 rfl (g_iload_n dX13_letter_104 0 3 rfl rfl (g_icmp_le dX13_letter_105 rfl (fun q1 => (g_lload dX13_letter_122 1 rfl (g_ldc2 dX13_letter_124 kl_X13_308 (g_lrem dX13_letter_127 (by decide) (g_l2i dX13_letter_128 (g_ireturn dX13_letter_129 rfl ⟨_, rfl, (h.1 q1)⟩)))))) (fun q1 => (g_lload dX13_letter_108 1 rfl (g_ldc2 dX13_letter_110 kl_X13_308 (g_ldiv dX13_letter_113 (by decide) (g_lstore dX13_letter_114 (by decide) rfl (g_iinc dX13_letter_116 2 rfl rfl (by decide) rfl (g_goto dX13_letter_119 rfl (g_sub [2, 1, 0] rfl (h.2 q1))))))))))))
theorem dX13_fact_0 : decode cX13_fact 0 = .ok (.aload_n 0, 1) := by decide +kernel
theorem dX13_fact_1 : decode cX13_fact 1 = .ok (.iload_n 1, 1) := by decide +kernel
theorem dX13_fact_2 : decode cX13_fact 2 = .ok (.invokevirtual 495, 3) := by decide +kernel
theorem dX13_fact_5 : decode cX13_fact 5 = .ok (.ifCond .ne 5, 3) := by decide +kernel
theorem dX13_fact_8 : decode cX13_fact 8 = .ok (.iconst (-1), 1) := by decide +kernel
theorem dX13_fact_9 : decode cX13_fact 9 = .ok (.ireturn, 1) := by decide +kernel
theorem dX13_fact_10 : decode cX13_fact 10 = .ok (.iload_n 2, 1) := by decide +kernel
theorem dX13_fact_11 : decode cX13_fact 11 = .ok (.ifCond .ne 15, 3) := by decide +kernel
theorem dX13_fact_14 : decode cX13_fact 14 = .ok (.aload_n 0, 1) := by decide +kernel
theorem dX13_fact_15 : decode cX13_fact 15 = .ok (.getfield 112, 3) := by decide +kernel
theorem dX13_fact_18 : decode cX13_fact 18 = .ok (.bipush 8, 2) := by decide +kernel
theorem dX13_fact_20 : decode cX13_fact 20 = .ok (.iload_n 1, 1) := by decide +kernel
theorem dX13_fact_21 : decode cX13_fact 21 = .ok (.iadd, 1) := by decide +kernel
theorem dX13_fact_22 : decode cX13_fact 22 = .ok (.iaload, 1) := by decide +kernel
theorem dX13_fact_23 : decode cX13_fact 23 = .ok (.goto 30, 3) := by decide +kernel
theorem dX13_fact_26 : decode cX13_fact 26 = .ok (.iload_n 2, 1) := by decide +kernel
theorem dX13_fact_27 : decode cX13_fact 27 = .ok (.iconst 1, 1) := by decide +kernel
theorem dX13_fact_28 : decode cX13_fact 28 = .ok (.if_icmp .ne 11, 3) := by decide +kernel
theorem dX13_fact_31 : decode cX13_fact 31 = .ok (.aload_n 0, 1) := by decide +kernel
theorem dX13_fact_32 : decode cX13_fact 32 = .ok (.iload_n 1, 1) := by decide +kernel
theorem dX13_fact_33 : decode cX13_fact 33 = .ok (.invokevirtual 498, 3) := by decide +kernel
theorem dX13_fact_36 : decode cX13_fact 36 = .ok (.goto 17, 3) := by decide +kernel
theorem dX13_fact_39 : decode cX13_fact 39 = .ok (.iload_n 2, 1) := by decide +kernel
theorem dX13_fact_40 : decode cX13_fact 40 = .ok (.iconst 2, 1) := by decide +kernel
theorem dX13_fact_41 : decode cX13_fact 41 = .ok (.if_icmp .ne 11, 3) := by decide +kernel
theorem dX13_fact_44 : decode cX13_fact 44 = .ok (.aload_n 0, 1) := by decide +kernel
theorem dX13_fact_45 : decode cX13_fact 45 = .ok (.iload_n 1, 1) := by decide +kernel
theorem dX13_fact_46 : decode cX13_fact 46 = .ok (.invokevirtual 501, 3) := by decide +kernel
theorem dX13_fact_49 : decode cX13_fact 49 = .ok (.goto 4, 3) := by decide +kernel
theorem dX13_fact_52 : decode cX13_fact 52 = .ok (.iconst (-1), 1) := by decide +kernel
theorem dX13_fact_53 : decode cX13_fact 53 = .ok (.ireturn, 1) := by decide +kernel
theorem bX13_fact_0 {d : Nat}  {v1 : Int32} {v2 : Int32} {I : Ii} {J : Jj} {K : KI}
    (h : CalI wM d mX13_isFact [.ref (0), .int (v1)] I J (fun x3 I1 J2 => (((¬ x3 = 0) → (((¬ v2 = 0) → (((¬ v2 = 1) → (((¬ v2 = 2) → (K ((-1)) I1 J2)) ∧ ((v2 = 2) → (CalI wM d mX13_wrongMany [.ref (0), .int (v1)] I1 J2 (fun x10 I8 J9 => (K (x10) I8 J9)))))) ∧ ((v2 = 1) → (CalI wM d mX13_rightMany [.ref (0), .int (v1)] I1 J2 (fun x14 I12 J13 => (K (x14) I12 J13)))))) ∧ ((v2 = 0) → (vp_in (8 + v1) 16 ∧ (K (I1 33 (8 + v1).toNatClampNeg) I1 J2))))) ∧ ((x3 = 0) → (K ((-1)) I1 J2))))) :
    GoI wM (d + 1) mX13_fact 0 [(0, .ref (0)), (1, .int (v1)), (2, .int (v2))] [] I J K :=
  (g_aload_n dX13_fact_0 0 0 rfl rfl (g_iload_n dX13_fact_1 1 1 rfl rfl (g_callvI dX13_fact_2 ml_X13_495 md_X13_isFact mv_X13_isFact obM_0 rfl rfl rfl (Nat.le_of_ble_eq_true rfl) (CalI.mono h (fun x3 I1 J2 h17 => (g_if_ne dX13_fact_5 rfl (fun q4 => (g_iload_n dX13_fact_10 2 2 rfl rfl (g_if_ne dX13_fact_11 rfl (fun q5 => (g_iload_n dX13_fact_26 2 2 rfl rfl (g_iconst dX13_fact_27 kc_1 (g_icmp_ne dX13_fact_28 rfl (fun q6 => (g_iload_n dX13_fact_39 2 2 rfl rfl (g_iconst dX13_fact_40 kc_2 (g_icmp_ne dX13_fact_41 rfl (fun q7 => (g_iconst dX13_fact_52 kc_n1 (g_ireturn dX13_fact_53 rfl ⟨_, rfl, ((((h17.1 q4).1 q5).1 q6).1 q7)⟩))) (fun q7 => (g_aload_n dX13_fact_44 0 0 rfl rfl (g_iload_n dX13_fact_45 1 1 rfl rfl (g_callvI dX13_fact_46 ml_X13_501 md_X13_wrongMany mv_X13_wrongMany obM_0 rfl rfl rfl (Nat.le_of_ble_eq_true rfl) (CalI.mono ((((h17.1 q4).1 q5).1 q6).2 q7) (fun x10 I8 J9 h11 => (g_goto dX13_fact_49 rfl (g_ireturn dX13_fact_53 rfl ⟨_, rfl, h11⟩)))))))))))) (fun q6 => (g_aload_n dX13_fact_31 0 0 rfl rfl (g_iload_n dX13_fact_32 1 1 rfl rfl (g_callvI dX13_fact_33 ml_X13_498 md_X13_rightMany mv_X13_rightMany obM_0 rfl rfl rfl (Nat.le_of_ble_eq_true rfl) (CalI.mono (((h17.1 q4).1 q5).2 q6) (fun x14 I12 J13 h15 => (g_goto dX13_fact_36 rfl (g_ireturn dX13_fact_53 rfl ⟨_, rfl, h15⟩)))))))))))) (fun q5 => (g_aload_n dX13_fact_14 0 0 rfl rfl (g_getP dX13_fact_15 fl_X13_112 rfl obM_0 rfl (g_bipush dX13_fact_18 kb_8 (g_iload_n dX13_fact_20 1 1 rfl rfl (g_iadd dX13_fact_21 (have b16 := ((h17.1 q4).2 q5).1; g_iald dX13_fact_22 arM_33 b16 (g_goto dX13_fact_23 rfl (g_ireturn dX13_fact_53 rfl ⟨_, rfl, ((h17.1 q4).2 q5).2⟩)))))))))))) (fun q4 => (g_iconst dX13_fact_8 kc_n1 (g_ireturn dX13_fact_9 rfl ⟨_, rfl, (h17.2 q4)⟩)))))))))
theorem dX13_isFact_0 : decode cX13_isFact 0 = .ok (.iload_n 1, 1) := by decide +kernel
theorem dX13_isFact_1 : decode cX13_isFact 1 = .ok (.i2l, 1) := by decide +kernel
theorem dX13_isFact_2 : decode cX13_isFact 2 = .ok (.lconst 0, 1) := by decide +kernel
theorem dX13_isFact_3 : decode cX13_isFact 3 = .ok (.aload_n 0, 1) := by decide +kernel
theorem dX13_isFact_4 : decode cX13_isFact 4 = .ok (.invokevirtual 398, 3) := by decide +kernel
theorem dX13_isFact_7 : decode cX13_isFact 7 = .ok (.iconst 1, 1) := by decide +kernel
theorem dX13_isFact_8 : decode cX13_isFact 8 = .ok (.isub, 1) := by decide +kernel
theorem dX13_isFact_9 : decode cX13_isFact 9 = .ok (.i2l, 1) := by decide +kernel
theorem dX13_isFact_10 : decode cX13_isFact 10 = .ok (.invokestatic 297, 3) := by decide +kernel
theorem dX13_isFact_13 : decode cX13_isFact 13 = .ok (.ireturn, 1) := by decide +kernel
theorem bX13_isFact_0 {d : Nat}  {v1 : Int32} {I : Ii} {J : Jj} {K : KI}
    (h : CalI wM d mX13_factMany [.ref (0)] I J (fun x3 I1 J2 => (CalI wM d mX13_isIn [.long (v1.toInt64), .long (0), .long ((x3 - 1).toInt64)] I1 J2 (fun x6 I4 J5 => (((x6) = 0 ∨ (x6) = 1) ∧ K (x6) I4 J5))))) :
    GoI wM (d + 1) mX13_isFact 0 [(0, .ref (0)), (1, .int (v1))] [] I J K :=
  (g_iload_n dX13_isFact_0 1 1 rfl rfl (g_i2l dX13_isFact_1 (g_lconst dX13_isFact_2 kq_0 (g_aload_n dX13_isFact_3 0 0 rfl rfl (g_callvI dX13_isFact_4 ml_X13_398 md_X13_factMany mv_X13_factMany obM_0 rfl rfl rfl (Nat.le_of_ble_eq_true rfl) (CalI.mono h (fun x3 I1 J2 h8 => (g_iconst dX13_isFact_7 kc_1 (g_isub dX13_isFact_8 (g_i2l dX13_isFact_9 (g_callsI dX13_isFact_10 ml_X13_297 md_X13_isIn ms_X13_isIn rfl rfl (Nat.le_of_ble_eq_true rfl) (CalI.mono h8 (fun x6 I4 J5 h7 => (g_zreturn dX13_isFact_13 rfl (narZ h7.1) ⟨_, rfl, h7.2⟩))))))))))))))
theorem dX13_factMany_0 : decode cX13_factMany 0 = .ok (.aload_n 0, 1) := by decide +kernel
theorem dX13_factMany_1 : decode cX13_factMany 1 = .ok (.getfield 105, 3) := by decide +kernel
theorem dX13_factMany_4 : decode cX13_factMany 4 = .ok (.iconst 2, 1) := by decide +kernel
theorem dX13_factMany_5 : decode cX13_factMany 5 = .ok (.iaload, 1) := by decide +kernel
theorem dX13_factMany_6 : decode cX13_factMany 6 = .ok (.ireturn, 1) := by decide +kernel
theorem bX13_factMany_0 {d : Nat}   {I : Ii} {J : Jj} {K : KI}
    (h : K (I 31 (2 : Int32).toNatClampNeg) I J) :
    GoI wM d mX13_factMany 0 [(0, .ref (0))] [] I J K :=
  (g_aload_n dX13_factMany_0 0 0 rfl rfl (g_getP dX13_factMany_1 fl_X13_105 rfl obM_0 rfl (g_iconst dX13_factMany_4 kc_2 (g_iald dX13_factMany_5 arM_31 (by unfold vp_in; decide) (g_ireturn dX13_factMany_6 rfl ⟨_, rfl, h⟩)))))
theorem dX13_rightMany_0 : decode cX13_rightMany 0 = .ok (.iconst 0, 1) := by decide +kernel
theorem dX13_rightMany_1 : decode cX13_rightMany 1 = .ok (.istore_n 2, 1) := by decide +kernel
theorem dX13_rightMany_2 : decode cX13_rightMany 2 = .ok (.iconst 0, 1) := by decide +kernel
theorem dX13_rightMany_3 : decode cX13_rightMany 3 = .ok (.istore_n 3, 1) := by decide +kernel
theorem dX13_rightMany_4 : decode cX13_rightMany 4 = .ok (.iload_n 3, 1) := by decide +kernel
theorem dX13_rightMany_5 : decode cX13_rightMany 5 = .ok (.aload_n 0, 1) := by decide +kernel
theorem dX13_rightMany_6 : decode cX13_rightMany 6 = .ok (.invokevirtual 401, 3) := by decide +kernel
theorem dX13_rightMany_9 : decode cX13_rightMany 9 = .ok (.if_icmp .ge 21, 3) := by decide +kernel
theorem dX13_rightMany_12 : decode cX13_rightMany 12 = .ok (.iload_n 2, 1) := by decide +kernel
theorem dX13_rightMany_13 : decode cX13_rightMany 13 = .ok (.aload_n 0, 1) := by decide +kernel
theorem dX13_rightMany_14 : decode cX13_rightMany 14 = .ok (.iload_n 3, 1) := by decide +kernel
theorem dX13_rightMany_15 : decode cX13_rightMany 15 = .ok (.invokevirtual 404, 3) := by decide +kernel
theorem dX13_rightMany_18 : decode cX13_rightMany 18 = .ok (.iload_n 1, 1) := by decide +kernel
theorem dX13_rightMany_19 : decode cX13_rightMany 19 = .ok (.ishr, 1) := by decide +kernel
theorem dX13_rightMany_20 : decode cX13_rightMany 20 = .ok (.iconst 1, 1) := by decide +kernel
theorem dX13_rightMany_21 : decode cX13_rightMany 21 = .ok (.iand, 1) := by decide +kernel
theorem dX13_rightMany_22 : decode cX13_rightMany 22 = .ok (.iadd, 1) := by decide +kernel
theorem dX13_rightMany_23 : decode cX13_rightMany 23 = .ok (.istore_n 2, 1) := by decide +kernel
theorem dX13_rightMany_24 : decode cX13_rightMany 24 = .ok (.iinc 3 1, 3) := by decide +kernel
theorem dX13_rightMany_27 : decode cX13_rightMany 27 = .ok (.goto (-23), 3) := by decide +kernel
theorem dX13_rightMany_30 : decode cX13_rightMany 30 = .ok (.iload_n 2, 1) := by decide +kernel
theorem dX13_rightMany_31 : decode cX13_rightMany 31 = .ok (.ireturn, 1) := by decide +kernel
theorem bX13_rightMany_0 {d : Nat}  {v1 : Int32} {I : Ii} {J : Jj} {K : KI}
    (h : GoI wM (d + 1) mX13_rightMany 4 [(0, .ref (0)), (1, .int (v1)), (2, .int (0)), (3, .int (0))] [] I J K) :
    GoI wM (d + 1) mX13_rightMany 0 [(0, .ref (0)), (1, .int (v1))] [] I J K :=
  (g_iconst dX13_rightMany_0 kc_0 (g_istore_n dX13_rightMany_1 rfl (by decide) rfl (g_iconst dX13_rightMany_2 kc_0 (g_istore_n dX13_rightMany_3 rfl (by decide) rfl (g_sub [2, 3, 1, 0] rfl h)))))
theorem bX13_rightMany_4 {d : Nat}  {v1 : Int32} {v2 : Int32} {v3 : Int32} {I : Ii} {J : Jj} {K : KI}
    (h : CalI wM d mX13_personMany [.ref (0)] I J (fun x3 I1 J2 => (((x3 ≤ v3) → (K (v2) I1 J2)) ∧ ((¬ x3 ≤ v3) → (CalI wM d mX13_rightOf [.ref (0), .int (v3)] I1 J2 (fun x7 I5 J6 => (∀ y8 : Int32, y8 = v2 + ((x7 >>> (v1 &&& 31)) &&& 1) → (GoI wM (d + 1) mX13_rightMany 4 [(0, .ref (0)), (1, .int (v1)), (2, .int (y8)), (3, .int (v3 + 1))] [] I5 J6 K)))))))) :
    GoI wM (d + 1) mX13_rightMany 4 [(0, .ref (0)), (1, .int (v1)), (2, .int (v2)), (3, .int (v3))] [] I J K :=
  (g_iload_n dX13_rightMany_4 3 3 rfl rfl (g_aload_n dX13_rightMany_5 0 0 rfl rfl (g_callvI dX13_rightMany_6 ml_X13_401 md_X13_personMany mv_X13_personMany obM_0 rfl rfl rfl (Nat.le_of_ble_eq_true rfl) (CalI.mono h (fun x3 I1 J2 h10 => (g_icmp_ge dX13_rightMany_9 rfl (fun q4 => (g_iload_n dX13_rightMany_30 2 2 rfl rfl (g_ireturn dX13_rightMany_31 rfl ⟨_, rfl, (h10.1 q4)⟩))) (fun q4 => (g_iload_n dX13_rightMany_12 2 2 rfl rfl (g_aload_n dX13_rightMany_13 0 0 rfl rfl (g_iload_n dX13_rightMany_14 3 3 rfl rfl (g_callvI dX13_rightMany_15 ml_X13_404 md_X13_rightOf mv_X13_rightOf obM_0 rfl rfl rfl (Nat.le_of_ble_eq_true rfl) (CalI.mono (h10.2 q4) (fun x7 I5 J6 h9 => (g_iload_n dX13_rightMany_18 1 1 rfl rfl (g_ishr dX13_rightMany_19 (g_iconst dX13_rightMany_20 kc_1 (g_iand dX13_rightMany_21 (g_iadd dX13_rightMany_22 (g_istore_n dX13_rightMany_23 rfl (by decide) rfl (g_iinc dX13_rightMany_24 3 rfl rfl (by decide) rfl (g_goto dX13_rightMany_27 rfl (g_sub [2, 3, 1, 0] rfl (h9 _ rfl)))))))))))))))))))))))
theorem dX13_wrongMany_0 : decode cX13_wrongMany 0 = .ok (.iconst 0, 1) := by decide +kernel
theorem dX13_wrongMany_1 : decode cX13_wrongMany 1 = .ok (.istore_n 2, 1) := by decide +kernel
theorem dX13_wrongMany_2 : decode cX13_wrongMany 2 = .ok (.iconst 0, 1) := by decide +kernel
theorem dX13_wrongMany_3 : decode cX13_wrongMany 3 = .ok (.istore_n 3, 1) := by decide +kernel
theorem dX13_wrongMany_4 : decode cX13_wrongMany 4 = .ok (.iload_n 3, 1) := by decide +kernel
theorem dX13_wrongMany_5 : decode cX13_wrongMany 5 = .ok (.aload_n 0, 1) := by decide +kernel
theorem dX13_wrongMany_6 : decode cX13_wrongMany 6 = .ok (.invokevirtual 401, 3) := by decide +kernel
theorem dX13_wrongMany_9 : decode cX13_wrongMany 9 = .ok (.if_icmp .ge 21, 3) := by decide +kernel
theorem dX13_wrongMany_12 : decode cX13_wrongMany 12 = .ok (.iload_n 2, 1) := by decide +kernel
theorem dX13_wrongMany_13 : decode cX13_wrongMany 13 = .ok (.aload_n 0, 1) := by decide +kernel
theorem dX13_wrongMany_14 : decode cX13_wrongMany 14 = .ok (.iload_n 3, 1) := by decide +kernel
theorem dX13_wrongMany_15 : decode cX13_wrongMany 15 = .ok (.invokevirtual 407, 3) := by decide +kernel
theorem dX13_wrongMany_18 : decode cX13_wrongMany 18 = .ok (.iload_n 1, 1) := by decide +kernel
theorem dX13_wrongMany_19 : decode cX13_wrongMany 19 = .ok (.ishr, 1) := by decide +kernel
theorem dX13_wrongMany_20 : decode cX13_wrongMany 20 = .ok (.iconst 1, 1) := by decide +kernel
theorem dX13_wrongMany_21 : decode cX13_wrongMany 21 = .ok (.iand, 1) := by decide +kernel
theorem dX13_wrongMany_22 : decode cX13_wrongMany 22 = .ok (.iadd, 1) := by decide +kernel
theorem dX13_wrongMany_23 : decode cX13_wrongMany 23 = .ok (.istore_n 2, 1) := by decide +kernel
theorem dX13_wrongMany_24 : decode cX13_wrongMany 24 = .ok (.iinc 3 1, 3) := by decide +kernel
theorem dX13_wrongMany_27 : decode cX13_wrongMany 27 = .ok (.goto (-23), 3) := by decide +kernel
theorem dX13_wrongMany_30 : decode cX13_wrongMany 30 = .ok (.iload_n 2, 1) := by decide +kernel
theorem dX13_wrongMany_31 : decode cX13_wrongMany 31 = .ok (.ireturn, 1) := by decide +kernel
theorem bX13_wrongMany_0 {d : Nat}  {v1 : Int32} {I : Ii} {J : Jj} {K : KI}
    (h : GoI wM (d + 1) mX13_wrongMany 4 [(0, .ref (0)), (1, .int (v1)), (2, .int (0)), (3, .int (0))] [] I J K) :
    GoI wM (d + 1) mX13_wrongMany 0 [(0, .ref (0)), (1, .int (v1))] [] I J K :=
  (g_iconst dX13_wrongMany_0 kc_0 (g_istore_n dX13_wrongMany_1 rfl (by decide) rfl (g_iconst dX13_wrongMany_2 kc_0 (g_istore_n dX13_wrongMany_3 rfl (by decide) rfl (g_sub [2, 3, 1, 0] rfl h)))))
theorem bX13_wrongMany_4 {d : Nat}  {v1 : Int32} {v2 : Int32} {v3 : Int32} {I : Ii} {J : Jj} {K : KI}
    (h : CalI wM d mX13_personMany [.ref (0)] I J (fun x3 I1 J2 => (((x3 ≤ v3) → (K (v2) I1 J2)) ∧ ((¬ x3 ≤ v3) → (CalI wM d mX13_wrongOf [.ref (0), .int (v3)] I1 J2 (fun x7 I5 J6 => (∀ y8 : Int32, y8 = v2 + ((x7 >>> (v1 &&& 31)) &&& 1) → (GoI wM (d + 1) mX13_wrongMany 4 [(0, .ref (0)), (1, .int (v1)), (2, .int (y8)), (3, .int (v3 + 1))] [] I5 J6 K)))))))) :
    GoI wM (d + 1) mX13_wrongMany 4 [(0, .ref (0)), (1, .int (v1)), (2, .int (v2)), (3, .int (v3))] [] I J K :=
  (g_iload_n dX13_wrongMany_4 3 3 rfl rfl (g_aload_n dX13_wrongMany_5 0 0 rfl rfl (g_callvI dX13_wrongMany_6 ml_X13_401 md_X13_personMany mv_X13_personMany obM_0 rfl rfl rfl (Nat.le_of_ble_eq_true rfl) (CalI.mono h (fun x3 I1 J2 h10 => (g_icmp_ge dX13_wrongMany_9 rfl (fun q4 => (g_iload_n dX13_wrongMany_30 2 2 rfl rfl (g_ireturn dX13_wrongMany_31 rfl ⟨_, rfl, (h10.1 q4)⟩))) (fun q4 => (g_iload_n dX13_wrongMany_12 2 2 rfl rfl (g_aload_n dX13_wrongMany_13 0 0 rfl rfl (g_iload_n dX13_wrongMany_14 3 3 rfl rfl (g_callvI dX13_wrongMany_15 ml_X13_407 md_X13_wrongOf mv_X13_wrongOf obM_0 rfl rfl rfl (Nat.le_of_ble_eq_true rfl) (CalI.mono (h10.2 q4) (fun x7 I5 J6 h9 => (g_iload_n dX13_wrongMany_18 1 1 rfl rfl (g_ishr dX13_wrongMany_19 (g_iconst dX13_wrongMany_20 kc_1 (g_iand dX13_wrongMany_21 (g_iadd dX13_wrongMany_22 (g_istore_n dX13_wrongMany_23 rfl (by decide) rfl (g_iinc dX13_wrongMany_24 3 rfl rfl (by decide) rfl (g_goto dX13_wrongMany_27 rfl (g_sub [2, 3, 1, 0] rfl (h9 _ rfl)))))))))))))))))))))))
theorem dX13_person_0 : decode cX13_person 0 = .ok (.aload_n 0, 1) := by decide +kernel
theorem dX13_person_1 : decode cX13_person 1 = .ok (.iload_n 1, 1) := by decide +kernel
theorem dX13_person_2 : decode cX13_person 2 = .ok (.invokevirtual 504, 3) := by decide +kernel
theorem dX13_person_5 : decode cX13_person 5 = .ok (.ifCond .ne 5, 3) := by decide +kernel
theorem dX13_person_8 : decode cX13_person 8 = .ok (.iconst (-1), 1) := by decide +kernel
theorem dX13_person_9 : decode cX13_person 9 = .ok (.ireturn, 1) := by decide +kernel
theorem dX13_person_10 : decode cX13_person 10 = .ok (.iload_n 2, 1) := by decide +kernel
theorem dX13_person_11 : decode cX13_person 11 = .ok (.tableswitch 113 0 7 #[45, 55, 61, 67, 73, 79, 85, 99], 45) := by decide +kernel
theorem dX13_person_56 : decode cX13_person 56 = .ok (.aload_n 0, 1) := by decide +kernel
theorem dX13_person_57 : decode cX13_person 57 = .ok (.getfield 115, 3) := by decide +kernel
theorem dX13_person_60 : decode cX13_person 60 = .ok (.bipush 8, 2) := by decide +kernel
theorem dX13_person_62 : decode cX13_person 62 = .ok (.iload_n 1, 1) := by decide +kernel
theorem dX13_person_63 : decode cX13_person 63 = .ok (.iadd, 1) := by decide +kernel
theorem dX13_person_64 : decode cX13_person 64 = .ok (.iaload, 1) := by decide +kernel
theorem dX13_person_65 : decode cX13_person 65 = .ok (.ireturn, 1) := by decide +kernel
theorem dX13_person_66 : decode cX13_person 66 = .ok (.aload_n 0, 1) := by decide +kernel
theorem dX13_person_67 : decode cX13_person 67 = .ok (.iload_n 1, 1) := by decide +kernel
theorem dX13_person_68 : decode cX13_person 68 = .ok (.invokevirtual 410, 3) := by decide +kernel
theorem dX13_person_71 : decode cX13_person 71 = .ok (.ireturn, 1) := by decide +kernel
theorem dX13_person_72 : decode cX13_person 72 = .ok (.aload_n 0, 1) := by decide +kernel
theorem dX13_person_73 : decode cX13_person 73 = .ok (.iload_n 1, 1) := by decide +kernel
theorem dX13_person_74 : decode cX13_person 74 = .ok (.invokevirtual 507, 3) := by decide +kernel
theorem dX13_person_77 : decode cX13_person 77 = .ok (.ireturn, 1) := by decide +kernel
theorem dX13_person_78 : decode cX13_person 78 = .ok (.aload_n 0, 1) := by decide +kernel
theorem dX13_person_79 : decode cX13_person 79 = .ok (.iload_n 1, 1) := by decide +kernel
theorem dX13_person_80 : decode cX13_person 80 = .ok (.invokevirtual 404, 3) := by decide +kernel
theorem dX13_person_83 : decode cX13_person 83 = .ok (.ireturn, 1) := by decide +kernel
theorem dX13_person_84 : decode cX13_person 84 = .ok (.aload_n 0, 1) := by decide +kernel
theorem dX13_person_85 : decode cX13_person 85 = .ok (.iload_n 1, 1) := by decide +kernel
theorem dX13_person_86 : decode cX13_person 86 = .ok (.invokevirtual 407, 3) := by decide +kernel
theorem dX13_person_89 : decode cX13_person 89 = .ok (.ireturn, 1) := by decide +kernel
theorem dX13_person_90 : decode cX13_person 90 = .ok (.aload_n 0, 1) := by decide +kernel
theorem dX13_person_91 : decode cX13_person 91 = .ok (.iload_n 1, 1) := by decide +kernel
theorem dX13_person_92 : decode cX13_person 92 = .ok (.invokevirtual 450, 3) := by decide +kernel
theorem dX13_person_95 : decode cX13_person 95 = .ok (.ireturn, 1) := by decide +kernel
theorem dX13_person_96 : decode cX13_person 96 = .ok (.aload_n 0, 1) := by decide +kernel
theorem dX13_person_97 : decode cX13_person 97 = .ok (.iload_n 1, 1) := by decide +kernel
theorem dX13_person_98 : decode cX13_person 98 = .ok (.invokevirtual 447, 3) := by decide +kernel
theorem dX13_person_101 : decode cX13_person 101 = .ok (.ifCond .eq 7, 3) := by decide +kernel
theorem dX13_person_104 : decode cX13_person 104 = .ok (.iconst 1, 1) := by decide +kernel
theorem dX13_person_105 : decode cX13_person 105 = .ok (.goto 4, 3) := by decide +kernel
theorem dX13_person_108 : decode cX13_person 108 = .ok (.iconst 0, 1) := by decide +kernel
theorem dX13_person_109 : decode cX13_person 109 = .ok (.ireturn, 1) := by decide +kernel
theorem dX13_person_110 : decode cX13_person 110 = .ok (.aload_n 0, 1) := by decide +kernel
theorem dX13_person_111 : decode cX13_person 111 = .ok (.iload_n 1, 1) := by decide +kernel
theorem dX13_person_112 : decode cX13_person 112 = .ok (.invokevirtual 471, 3) := by decide +kernel
theorem dX13_person_115 : decode cX13_person 115 = .ok (.ifCond .eq 7, 3) := by decide +kernel
theorem dX13_person_118 : decode cX13_person 118 = .ok (.iconst 1, 1) := by decide +kernel
theorem dX13_person_119 : decode cX13_person 119 = .ok (.goto 4, 3) := by decide +kernel
theorem dX13_person_122 : decode cX13_person 122 = .ok (.iconst 0, 1) := by decide +kernel
theorem dX13_person_123 : decode cX13_person 123 = .ok (.ireturn, 1) := by decide +kernel
theorem dX13_person_124 : decode cX13_person 124 = .ok (.iconst (-1), 1) := by decide +kernel
theorem dX13_person_125 : decode cX13_person 125 = .ok (.ireturn, 1) := by decide +kernel
theorem bX13_person_0 {d : Nat}  {v1 : Int32} {v2 : Int32} {I : Ii} {J : Jj} {K : KI}
    (h : CalI wM d mX13_isPerson [.ref (0), .int (v1)] I J (fun x3 I1 J2 => (((¬ x3 = 0) → (((v2) = 0 → (vp_in (8 + v1) 16 ∧ (K (I1 34 (8 + v1).toNatClampNeg) I1 J2))) ∧ ((v2) = 1 → (CalI wM d mX13_masterOf [.ref (0), .int (v1)] I1 J2 (fun x8 I6 J7 => (K (x8) I6 J7)))) ∧ ((v2) = 2 → (CalI wM d mX13_pupilsOf [.ref (0), .int (v1)] I1 J2 (fun x12 I10 J11 => (K (x12) I10 J11)))) ∧ ((v2) = 3 → (CalI wM d mX13_rightOf [.ref (0), .int (v1)] I1 J2 (fun x16 I14 J15 => (K (x16) I14 J15)))) ∧ ((v2) = 4 → (CalI wM d mX13_wrongOf [.ref (0), .int (v1)] I1 J2 (fun x20 I18 J19 => (K (x20) I18 J19)))) ∧ ((v2) = 5 → (CalI wM d mX13_leftOf [.ref (0), .int (v1)] I1 J2 (fun x24 I22 J23 => (K (x24) I22 J23)))) ∧ ((v2) = 6 → (CalI wM d mX13_hasPassed [.ref (0), .int (v1)] I1 J2 (fun x28 I26 J27 => (((x28 = 0) → (K (0) I26 J27)) ∧ ((¬ x28 = 0) → (K (1) I26 J27)))))) ∧ ((v2) = 7 → (CalI wM d mX13_isDoctor [.ref (0), .int (v1)] I1 J2 (fun x33 I31 J32 => (((x33 = 0) → (K (0) I31 J32)) ∧ ((¬ x33 = 0) → (K (1) I31 J32)))))) ∧ (¬ (v2) = 0 → ¬ (v2) = 1 → ¬ (v2) = 2 → ¬ (v2) = 3 → ¬ (v2) = 4 → ¬ (v2) = 5 → ¬ (v2) = 6 → ¬ (v2) = 7 → (K ((-1)) I1 J2)))) ∧ ((x3 = 0) → (K ((-1)) I1 J2))))) :
    GoI wM (d + 1) mX13_person 0 [(0, .ref (0)), (1, .int (v1)), (2, .int (v2))] [] I J K :=
  (g_aload_n dX13_person_0 0 0 rfl rfl (g_iload_n dX13_person_1 1 1 rfl rfl (g_callvI dX13_person_2 ml_X13_504 md_X13_isPerson mv_X13_isPerson obM_0 rfl rfl rfl (Nat.le_of_ble_eq_true rfl) (CalI.mono h (fun x3 I1 J2 h36 => (g_if_ne dX13_person_5 rfl (fun q4 => (g_iload_n dX13_person_10 2 2 rfl rfl (by
      by_cases q11_0 : (v2) = 0
      · exact g_tableIn (off := 45) dX13_person_11 (by rw [q11_0]; decide) (by rw [q11_0]; decide) (by rw [q11_0]; rfl) rfl (g_aload_n dX13_person_56 0 0 rfl rfl (g_getP dX13_person_57 fl_X13_115 rfl obM_0 rfl (g_bipush dX13_person_60 kb_8 (g_iload_n dX13_person_62 1 1 rfl rfl (g_iadd dX13_person_63 (have b5 := ((h36.1 q4).1 q11_0).1; g_iald dX13_person_64 arM_34 b5 (g_ireturn dX13_person_65 rfl ⟨_, rfl, ((h36.1 q4).1 q11_0).2⟩)))))))
      by_cases q11_1 : (v2) = 1
      · exact g_tableIn (off := 55) dX13_person_11 (by rw [q11_1]; decide) (by rw [q11_1]; decide) (by rw [q11_1]; rfl) rfl (g_aload_n dX13_person_66 0 0 rfl rfl (g_iload_n dX13_person_67 1 1 rfl rfl (g_callvI dX13_person_68 ml_X13_410 md_X13_masterOf mv_X13_masterOf obM_0 rfl rfl rfl (Nat.le_of_ble_eq_true rfl) (CalI.mono ((h36.1 q4).2.1 q11_1) (fun x8 I6 J7 h9 => (g_ireturn dX13_person_71 rfl ⟨_, rfl, h9⟩))))))
      by_cases q11_2 : (v2) = 2
      · exact g_tableIn (off := 61) dX13_person_11 (by rw [q11_2]; decide) (by rw [q11_2]; decide) (by rw [q11_2]; rfl) rfl (g_aload_n dX13_person_72 0 0 rfl rfl (g_iload_n dX13_person_73 1 1 rfl rfl (g_callvI dX13_person_74 ml_X13_507 md_X13_pupilsOf mv_X13_pupilsOf obM_0 rfl rfl rfl (Nat.le_of_ble_eq_true rfl) (CalI.mono ((h36.1 q4).2.2.1 q11_2) (fun x12 I10 J11 h13 => (g_ireturn dX13_person_77 rfl ⟨_, rfl, h13⟩))))))
      by_cases q11_3 : (v2) = 3
      · exact g_tableIn (off := 67) dX13_person_11 (by rw [q11_3]; decide) (by rw [q11_3]; decide) (by rw [q11_3]; rfl) rfl (g_aload_n dX13_person_78 0 0 rfl rfl (g_iload_n dX13_person_79 1 1 rfl rfl (g_callvI dX13_person_80 ml_X13_404 md_X13_rightOf mv_X13_rightOf obM_0 rfl rfl rfl (Nat.le_of_ble_eq_true rfl) (CalI.mono ((h36.1 q4).2.2.2.1 q11_3) (fun x16 I14 J15 h17 => (g_ireturn dX13_person_83 rfl ⟨_, rfl, h17⟩))))))
      by_cases q11_4 : (v2) = 4
      · exact g_tableIn (off := 73) dX13_person_11 (by rw [q11_4]; decide) (by rw [q11_4]; decide) (by rw [q11_4]; rfl) rfl (g_aload_n dX13_person_84 0 0 rfl rfl (g_iload_n dX13_person_85 1 1 rfl rfl (g_callvI dX13_person_86 ml_X13_407 md_X13_wrongOf mv_X13_wrongOf obM_0 rfl rfl rfl (Nat.le_of_ble_eq_true rfl) (CalI.mono ((h36.1 q4).2.2.2.2.1 q11_4) (fun x20 I18 J19 h21 => (g_ireturn dX13_person_89 rfl ⟨_, rfl, h21⟩))))))
      by_cases q11_5 : (v2) = 5
      · exact g_tableIn (off := 79) dX13_person_11 (by rw [q11_5]; decide) (by rw [q11_5]; decide) (by rw [q11_5]; rfl) rfl (g_aload_n dX13_person_90 0 0 rfl rfl (g_iload_n dX13_person_91 1 1 rfl rfl (g_callvI dX13_person_92 ml_X13_450 md_X13_leftOf mv_X13_leftOf obM_0 rfl rfl rfl (Nat.le_of_ble_eq_true rfl) (CalI.mono ((h36.1 q4).2.2.2.2.2.1 q11_5) (fun x24 I22 J23 h25 => (g_ireturn dX13_person_95 rfl ⟨_, rfl, h25⟩))))))
      by_cases q11_6 : (v2) = 6
      · exact g_tableIn (off := 85) dX13_person_11 (by rw [q11_6]; decide) (by rw [q11_6]; decide) (by rw [q11_6]; rfl) rfl (g_aload_n dX13_person_96 0 0 rfl rfl (g_iload_n dX13_person_97 1 1 rfl rfl (g_callvI dX13_person_98 ml_X13_447 md_X13_hasPassed mv_X13_hasPassed obM_0 rfl rfl rfl (Nat.le_of_ble_eq_true rfl) (CalI.mono ((h36.1 q4).2.2.2.2.2.2.1 q11_6) (fun x28 I26 J27 h30 => (g_if_eq dX13_person_101 rfl (fun q29 => (g_iconst dX13_person_108 kc_0 (g_ireturn dX13_person_109 rfl ⟨_, rfl, (h30.1 q29)⟩))) (fun q29 => (g_iconst dX13_person_104 kc_1 (g_goto dX13_person_105 rfl (g_ireturn dX13_person_109 rfl ⟨_, rfl, (h30.2 q29)⟩))))))))))
      by_cases q11_7 : (v2) = 7
      · exact g_tableIn (off := 99) dX13_person_11 (by rw [q11_7]; decide) (by rw [q11_7]; decide) (by rw [q11_7]; rfl) rfl (g_aload_n dX13_person_110 0 0 rfl rfl (g_iload_n dX13_person_111 1 1 rfl rfl (g_callvI dX13_person_112 ml_X13_471 md_X13_isDoctor mv_X13_isDoctor obM_0 rfl rfl rfl (Nat.le_of_ble_eq_true rfl) (CalI.mono ((h36.1 q4).2.2.2.2.2.2.2.1 q11_7) (fun x33 I31 J32 h35 => (g_if_eq dX13_person_115 rfl (fun q34 => (g_iconst dX13_person_122 kc_0 (g_ireturn dX13_person_123 rfl ⟨_, rfl, (h35.1 q34)⟩))) (fun q34 => (g_iconst dX13_person_118 kc_1 (g_goto dX13_person_119 rfl (g_ireturn dX13_person_123 rfl ⟨_, rfl, (h35.2 q34)⟩))))))))))
      have e11_0 : (v2).toInt ≠ 0 := fun e => q11_0 (Int32.toInt_inj.mp e)
      have e11_1 : (v2).toInt ≠ 1 := fun e => q11_1 (Int32.toInt_inj.mp e)
      have e11_2 : (v2).toInt ≠ 2 := fun e => q11_2 (Int32.toInt_inj.mp e)
      have e11_3 : (v2).toInt ≠ 3 := fun e => q11_3 (Int32.toInt_inj.mp e)
      have e11_4 : (v2).toInt ≠ 4 := fun e => q11_4 (Int32.toInt_inj.mp e)
      have e11_5 : (v2).toInt ≠ 5 := fun e => q11_5 (Int32.toInt_inj.mp e)
      have e11_6 : (v2).toInt ≠ 6 := fun e => q11_6 (Int32.toInt_inj.mp e)
      have e11_7 : (v2).toInt ≠ 7 := fun e => q11_7 (Int32.toInt_inj.mp e)
      exact g_tableOut dX13_person_11 (by omega) rfl (g_iconst dX13_person_124 kc_n1 (g_ireturn dX13_person_125 rfl ⟨_, rfl, ((h36.1 q4).2.2.2.2.2.2.2.2 q11_0 q11_1 q11_2 q11_3 q11_4 q11_5 q11_6 q11_7)⟩))))) (fun q4 => (g_iconst dX13_person_8 kc_n1 (g_ireturn dX13_person_9 rfl ⟨_, rfl, (h36.2 q4)⟩)))))))))
theorem dX13_isPerson_0 : decode cX13_isPerson 0 = .ok (.iload_n 1, 1) := by decide +kernel
theorem dX13_isPerson_1 : decode cX13_isPerson 1 = .ok (.i2l, 1) := by decide +kernel
theorem dX13_isPerson_2 : decode cX13_isPerson 2 = .ok (.lconst 0, 1) := by decide +kernel
theorem dX13_isPerson_3 : decode cX13_isPerson 3 = .ok (.aload_n 0, 1) := by decide +kernel
theorem dX13_isPerson_4 : decode cX13_isPerson 4 = .ok (.invokevirtual 401, 3) := by decide +kernel
theorem dX13_isPerson_7 : decode cX13_isPerson 7 = .ok (.iconst 1, 1) := by decide +kernel
theorem dX13_isPerson_8 : decode cX13_isPerson 8 = .ok (.isub, 1) := by decide +kernel
theorem dX13_isPerson_9 : decode cX13_isPerson 9 = .ok (.i2l, 1) := by decide +kernel
theorem dX13_isPerson_10 : decode cX13_isPerson 10 = .ok (.invokestatic 297, 3) := by decide +kernel
theorem dX13_isPerson_13 : decode cX13_isPerson 13 = .ok (.ireturn, 1) := by decide +kernel
theorem bX13_isPerson_0 {d : Nat}  {v1 : Int32} {I : Ii} {J : Jj} {K : KI}
    (h : CalI wM d mX13_personMany [.ref (0)] I J (fun x3 I1 J2 => (CalI wM d mX13_isIn [.long (v1.toInt64), .long (0), .long ((x3 - 1).toInt64)] I1 J2 (fun x6 I4 J5 => (((x6) = 0 ∨ (x6) = 1) ∧ K (x6) I4 J5))))) :
    GoI wM (d + 1) mX13_isPerson 0 [(0, .ref (0)), (1, .int (v1))] [] I J K :=
  (g_iload_n dX13_isPerson_0 1 1 rfl rfl (g_i2l dX13_isPerson_1 (g_lconst dX13_isPerson_2 kq_0 (g_aload_n dX13_isPerson_3 0 0 rfl rfl (g_callvI dX13_isPerson_4 ml_X13_401 md_X13_personMany mv_X13_personMany obM_0 rfl rfl rfl (Nat.le_of_ble_eq_true rfl) (CalI.mono h (fun x3 I1 J2 h8 => (g_iconst dX13_isPerson_7 kc_1 (g_isub dX13_isPerson_8 (g_i2l dX13_isPerson_9 (g_callsI dX13_isPerson_10 ml_X13_297 md_X13_isIn ms_X13_isIn rfl rfl (Nat.le_of_ble_eq_true rfl) (CalI.mono h8 (fun x6 I4 J5 h7 => (g_zreturn dX13_isPerson_13 rfl (narZ h7.1) ⟨_, rfl, h7.2⟩))))))))))))))
theorem dX13_masterOf_0 : decode cX13_masterOf 0 = .ok (.aload_n 0, 1) := by decide +kernel
theorem dX13_masterOf_1 : decode cX13_masterOf 1 = .ok (.getfield 139, 3) := by decide +kernel
theorem dX13_masterOf_4 : decode cX13_masterOf 4 = .ok (.iconst 1, 1) := by decide +kernel
theorem dX13_masterOf_5 : decode cX13_masterOf 5 = .ok (.iconst 5, 1) := by decide +kernel
theorem dX13_masterOf_6 : decode cX13_masterOf 6 = .ok (.iload_n 1, 1) := by decide +kernel
theorem dX13_masterOf_7 : decode cX13_masterOf 7 = .ok (.imul, 1) := by decide +kernel
theorem dX13_masterOf_8 : decode cX13_masterOf 8 = .ok (.iadd, 1) := by decide +kernel
theorem dX13_masterOf_9 : decode cX13_masterOf 9 = .ok (.iaload, 1) := by decide +kernel
theorem dX13_masterOf_10 : decode cX13_masterOf 10 = .ok (.ireturn, 1) := by decide +kernel
theorem bX13_masterOf_0 {d : Nat}  {v1 : Int32} {I : Ii} {J : Jj} {K : KI}
    (h : vp_in (1 + (5 * v1)) 132 ∧ (K (I 42 (1 + (5 * v1)).toNatClampNeg) I J)) :
    GoI wM d mX13_masterOf 0 [(0, .ref (0)), (1, .int (v1))] [] I J K :=
  (g_aload_n dX13_masterOf_0 0 0 rfl rfl (g_getP dX13_masterOf_1 fl_X13_139 rfl obM_0 rfl (g_iconst dX13_masterOf_4 kc_1 (g_iconst dX13_masterOf_5 kc_5 (g_iload_n dX13_masterOf_6 1 1 rfl rfl (g_imul dX13_masterOf_7 (g_iadd dX13_masterOf_8 (have b1 := h.1; g_iald dX13_masterOf_9 arM_42 b1 (g_ireturn dX13_masterOf_10 rfl ⟨_, rfl, h.2⟩)))))))))
theorem dX13_pupilsOf_0 : decode cX13_pupilsOf 0 = .ok (.iconst 0, 1) := by decide +kernel
theorem dX13_pupilsOf_1 : decode cX13_pupilsOf 1 = .ok (.istore_n 2, 1) := by decide +kernel
theorem dX13_pupilsOf_2 : decode cX13_pupilsOf 2 = .ok (.iconst 0, 1) := by decide +kernel
theorem dX13_pupilsOf_3 : decode cX13_pupilsOf 3 = .ok (.istore_n 3, 1) := by decide +kernel
theorem dX13_pupilsOf_4 : decode cX13_pupilsOf 4 = .ok (.iload_n 3, 1) := by decide +kernel
theorem dX13_pupilsOf_5 : decode cX13_pupilsOf 5 = .ok (.aload_n 0, 1) := by decide +kernel
theorem dX13_pupilsOf_6 : decode cX13_pupilsOf 6 = .ok (.invokevirtual 401, 3) := by decide +kernel
theorem dX13_pupilsOf_9 : decode cX13_pupilsOf 9 = .ok (.if_icmp .ge 24, 3) := by decide +kernel
theorem dX13_pupilsOf_12 : decode cX13_pupilsOf 12 = .ok (.aload_n 0, 1) := by decide +kernel
theorem dX13_pupilsOf_13 : decode cX13_pupilsOf 13 = .ok (.iload_n 3, 1) := by decide +kernel
theorem dX13_pupilsOf_14 : decode cX13_pupilsOf 14 = .ok (.invokevirtual 410, 3) := by decide +kernel
theorem dX13_pupilsOf_17 : decode cX13_pupilsOf 17 = .ok (.iload_n 1, 1) := by decide +kernel
theorem dX13_pupilsOf_18 : decode cX13_pupilsOf 18 = .ok (.if_icmp .ne 9, 3) := by decide +kernel
theorem dX13_pupilsOf_21 : decode cX13_pupilsOf 21 = .ok (.iload_n 2, 1) := by decide +kernel
theorem dX13_pupilsOf_22 : decode cX13_pupilsOf 22 = .ok (.iconst 1, 1) := by decide +kernel
theorem dX13_pupilsOf_23 : decode cX13_pupilsOf 23 = .ok (.iload_n 3, 1) := by decide +kernel
theorem dX13_pupilsOf_24 : decode cX13_pupilsOf 24 = .ok (.ishl, 1) := by decide +kernel
theorem dX13_pupilsOf_25 : decode cX13_pupilsOf 25 = .ok (.ior, 1) := by decide +kernel
theorem dX13_pupilsOf_26 : decode cX13_pupilsOf 26 = .ok (.istore_n 2, 1) := by decide +kernel
theorem dX13_pupilsOf_27 : decode cX13_pupilsOf 27 = .ok (.iinc 3 1, 3) := by decide +kernel
theorem dX13_pupilsOf_30 : decode cX13_pupilsOf 30 = .ok (.goto (-26), 3) := by decide +kernel
theorem dX13_pupilsOf_33 : decode cX13_pupilsOf 33 = .ok (.iload_n 2, 1) := by decide +kernel
theorem dX13_pupilsOf_34 : decode cX13_pupilsOf 34 = .ok (.ireturn, 1) := by decide +kernel
theorem bX13_pupilsOf_0 {d : Nat}  {v1 : Int32} {I : Ii} {J : Jj} {K : KI}
    (h : GoI wM (d + 1) mX13_pupilsOf 4 [(0, .ref (0)), (1, .int (v1)), (2, .int (0)), (3, .int (0))] [] I J K) :
    GoI wM (d + 1) mX13_pupilsOf 0 [(0, .ref (0)), (1, .int (v1))] [] I J K :=
  (g_iconst dX13_pupilsOf_0 kc_0 (g_istore_n dX13_pupilsOf_1 rfl (by decide) rfl (g_iconst dX13_pupilsOf_2 kc_0 (g_istore_n dX13_pupilsOf_3 rfl (by decide) rfl (g_sub [2, 3, 1, 0] rfl h)))))
theorem bX13_pupilsOf_4 {d : Nat}  {v1 : Int32} {v2 : Int32} {v3 : Int32} {I : Ii} {J : Jj} {K : KI}
    (h : CalI wM d mX13_personMany [.ref (0)] I J (fun x3 I1 J2 => (((x3 ≤ v3) → (K (v2) I1 J2)) ∧ ((¬ x3 ≤ v3) → (CalI wM d mX13_masterOf [.ref (0), .int (v3)] I1 J2 (fun x7 I5 J6 => (((¬ x7 = v1) → (GoI wM (d + 1) mX13_pupilsOf 4 [(0, .ref (0)), (1, .int (v1)), (2, .int (v2)), (3, .int (v3 + 1))] [] I5 J6 K)) ∧ ((x7 = v1) → (GoI wM (d + 1) mX13_pupilsOf 4 [(0, .ref (0)), (1, .int (v1)), (2, .int (v2 ||| (1 <<< (v3 &&& 31)))), (3, .int (v3 + 1))] [] I5 J6 K))))))))) :
    GoI wM (d + 1) mX13_pupilsOf 4 [(0, .ref (0)), (1, .int (v1)), (2, .int (v2)), (3, .int (v3))] [] I J K :=
  (g_iload_n dX13_pupilsOf_4 3 3 rfl rfl (g_aload_n dX13_pupilsOf_5 0 0 rfl rfl (g_callvI dX13_pupilsOf_6 ml_X13_401 md_X13_personMany mv_X13_personMany obM_0 rfl rfl rfl (Nat.le_of_ble_eq_true rfl) (CalI.mono h (fun x3 I1 J2 h10 => (g_icmp_ge dX13_pupilsOf_9 rfl (fun q4 => (g_iload_n dX13_pupilsOf_33 2 2 rfl rfl (g_ireturn dX13_pupilsOf_34 rfl ⟨_, rfl, (h10.1 q4)⟩))) (fun q4 => (g_aload_n dX13_pupilsOf_12 0 0 rfl rfl (g_iload_n dX13_pupilsOf_13 3 3 rfl rfl (g_callvI dX13_pupilsOf_14 ml_X13_410 md_X13_masterOf mv_X13_masterOf obM_0 rfl rfl rfl (Nat.le_of_ble_eq_true rfl) (CalI.mono (h10.2 q4) (fun x7 I5 J6 h9 => (g_iload_n dX13_pupilsOf_17 1 1 rfl rfl (g_icmp_ne dX13_pupilsOf_18 rfl (fun q8 => (g_iinc dX13_pupilsOf_27 3 rfl rfl (by decide) rfl (g_goto dX13_pupilsOf_30 rfl (g_sub [1, 2, 3, 0] rfl (h9.1 q8))))) (fun q8 => (g_iload_n dX13_pupilsOf_21 2 2 rfl rfl (g_iconst dX13_pupilsOf_22 kc_1 (g_iload_n dX13_pupilsOf_23 3 3 rfl rfl (g_ishl dX13_pupilsOf_24 (g_ior dX13_pupilsOf_25 (g_istore_n dX13_pupilsOf_26 rfl (by decide) rfl (g_iinc dX13_pupilsOf_27 3 rfl rfl (by decide) rfl (g_goto dX13_pupilsOf_30 rfl (g_sub [2, 3, 1, 0] rfl (h9.2 q8)))))))))))))))))))))))))

theorem dX13_look_0 : decode cX13_look 0 = .ok (.aload_n 0, 1) := by decide +kernel
theorem dX13_look_1 : decode cX13_look 1 = .ok (.getfield 263, 3) := by decide +kernel
theorem dX13_look_4 : decode cX13_look 4 = .ok (.aload_n 0, 1) := by decide +kernel
theorem dX13_look_5 : decode cX13_look 5 = .ok (.getfield 266, 3) := by decide +kernel
theorem dX13_look_8 : decode cX13_look 8 = .ok (.if_icmp .ge 44, 3) := by decide +kernel
theorem dX13_look_11 : decode cX13_look 11 = .ok (.aload_n 0, 1) := by decide +kernel
theorem dX13_look_12 : decode cX13_look 12 = .ok (.getfield 7, 3) := by decide +kernel
theorem dX13_look_15 : decode cX13_look 15 = .ok (.aload_n 0, 1) := by decide +kernel
theorem dX13_look_16 : decode cX13_look 16 = .ok (.getfield 263, 3) := by decide +kernel
theorem dX13_look_19 : decode cX13_look 19 = .ok (.iaload, 1) := by decide +kernel
theorem dX13_look_20 : decode cX13_look 20 = .ok (.bipush 10, 2) := by decide +kernel
theorem dX13_look_22 : decode cX13_look 22 = .ok (.if_icmp .eq 17, 3) := by decide +kernel
theorem dX13_look_25 : decode cX13_look 25 = .ok (.aload_n 0, 1) := by decide +kernel
theorem dX13_look_26 : decode cX13_look 26 = .ok (.getfield 7, 3) := by decide +kernel
theorem dX13_look_29 : decode cX13_look 29 = .ok (.aload_n 0, 1) := by decide +kernel
theorem dX13_look_30 : decode cX13_look 30 = .ok (.getfield 263, 3) := by decide +kernel
theorem dX13_look_33 : decode cX13_look 33 = .ok (.iaload, 1) := by decide +kernel
theorem dX13_look_34 : decode cX13_look 34 = .ok (.bipush 32, 2) := by decide +kernel
theorem dX13_look_36 : decode cX13_look 36 = .ok (.if_icmp .ne 16, 3) := by decide +kernel
theorem dX13_look_39 : decode cX13_look 39 = .ok (.aload_n 0, 1) := by decide +kernel
theorem dX13_look_40 : decode cX13_look 40 = .ok (.dup, 1) := by decide +kernel
theorem dX13_look_41 : decode cX13_look 41 = .ok (.getfield 263, 3) := by decide +kernel
theorem dX13_look_44 : decode cX13_look 44 = .ok (.iconst 1, 1) := by decide +kernel
theorem dX13_look_45 : decode cX13_look 45 = .ok (.iadd, 1) := by decide +kernel
theorem dX13_look_46 : decode cX13_look 46 = .ok (.putfield 263, 3) := by decide +kernel
theorem dX13_look_49 : decode cX13_look 49 = .ok (.goto (-49), 3) := by decide +kernel
theorem dX13_look_52 : decode cX13_look 52 = .ok (.aload_n 0, 1) := by decide +kernel
theorem dX13_look_53 : decode cX13_look 53 = .ok (.getfield 263, 3) := by decide +kernel
theorem dX13_look_56 : decode cX13_look 56 = .ok (.aload_n 0, 1) := by decide +kernel
theorem dX13_look_57 : decode cX13_look 57 = .ok (.getfield 266, 3) := by decide +kernel
theorem dX13_look_60 : decode cX13_look 60 = .ok (.if_icmp .ge 15, 3) := by decide +kernel
theorem dX13_look_63 : decode cX13_look 63 = .ok (.aload_n 0, 1) := by decide +kernel
theorem dX13_look_64 : decode cX13_look 64 = .ok (.getfield 7, 3) := by decide +kernel
theorem dX13_look_67 : decode cX13_look 67 = .ok (.aload_n 0, 1) := by decide +kernel
theorem dX13_look_68 : decode cX13_look 68 = .ok (.getfield 263, 3) := by decide +kernel
theorem dX13_look_71 : decode cX13_look 71 = .ok (.iaload, 1) := by decide +kernel
theorem dX13_look_72 : decode cX13_look 72 = .ok (.goto 4, 3) := by decide +kernel
theorem dX13_look_75 : decode cX13_look 75 = .ok (.iconst (-1), 1) := by decide +kernel
theorem dX13_look_76 : decode cX13_look 76 = .ok (.ireturn, 1) := by decide +kernel
theorem bX13_look_0 {d : Nat}   {I : Ii} {J : Jj} {K : KI}
    (h : (((I 0 3) ≤ (I 0 2)) → (K ((-1)) I J)) ∧ ((¬ (I 0 3) ≤ (I 0 2)) → (vp_in (I 0 2) 1600 ∧ ((((I 1 (I 0 2).toNatClampNeg) = 10) → (GoI wM d mX13_look 0 [(0, .ref (0))] [] (u2 I 0 2 ((I 0 2) + 1)) J K)) ∧ ((¬ (I 1 (I 0 2).toNatClampNeg) = 10) → (((¬ (I 1 (I 0 2).toNatClampNeg) = 32) → (K (I 1 (I 0 2).toNatClampNeg) I J)) ∧ (((I 1 (I 0 2).toNatClampNeg) = 32) → (GoI wM d mX13_look 0 [(0, .ref (0))] [] (u2 I 0 2 ((I 0 2) + 1)) J K)))))))) :
    GoI wM d mX13_look 0 [(0, .ref (0))] [] I J K :=
  (g_aload_n dX13_look_0 0 0 rfl rfl (g_getI dX13_look_1 fl_X13_263 rfl obM_0 (g_aload_n dX13_look_4 0 0 rfl rfl (g_getI dX13_look_5 fl_X13_266 rfl obM_0 (g_icmp_ge dX13_look_8 rfl (fun q1 => (g_aload_n dX13_look_52 0 0 rfl rfl (g_getI dX13_look_53 fl_X13_263 rfl obM_0 (g_aload_n dX13_look_56 0 0 rfl rfl (g_getI dX13_look_57 fl_X13_266 rfl obM_0 (g_icmp_ge dX13_look_60 rfl (fun _ => (g_iconst dX13_look_75 kc_n1 (g_ireturn dX13_look_76 rfl ⟨_, rfl, (h.1 q1)⟩))) (fun q => absurd q1 q))))))) (fun q1 => (g_aload_n dX13_look_11 0 0 rfl rfl (g_getP dX13_look_12 fl_X13_7 rfl obM_0 rfl (g_aload_n dX13_look_15 0 0 rfl rfl (g_getI dX13_look_16 fl_X13_263 rfl obM_0 (have b2 := (h.2 q1).1; g_iald dX13_look_19 arM_1 b2 (g_bipush dX13_look_20 kb_10 (g_icmp_eq dX13_look_22 rfl (fun q3 => (g_aload_n dX13_look_39 0 0 rfl rfl (g_dup dX13_look_40 rfl (g_getI dX13_look_41 fl_X13_263 rfl obM_0 (g_iconst dX13_look_44 kc_1 (g_iadd dX13_look_45 (g_putI dX13_look_46 fl_X13_263 rfl rfl obM_0 (g_goto dX13_look_49 rfl ((h.2 q1).2.1 q3))))))))) (fun q3 => (g_aload_n dX13_look_25 0 0 rfl rfl (g_getP dX13_look_26 fl_X13_7 rfl obM_0 rfl (g_aload_n dX13_look_29 0 0 rfl rfl (g_getI dX13_look_30 fl_X13_263 rfl obM_0 (g_iald dX13_look_33 arM_1 b2 (g_bipush dX13_look_34 kb_32 (g_icmp_ne dX13_look_36 rfl (fun q4 => (g_aload_n dX13_look_52 0 0 rfl rfl (g_getI dX13_look_53 fl_X13_263 rfl obM_0 (g_aload_n dX13_look_56 0 0 rfl rfl (g_getI dX13_look_57 fl_X13_266 rfl obM_0 (g_icmp_ge dX13_look_60 rfl (fun q => absurd q q1) (fun _ => (g_aload_n dX13_look_63 0 0 rfl rfl (g_getP dX13_look_64 fl_X13_7 rfl obM_0 rfl (g_aload_n dX13_look_67 0 0 rfl rfl (g_getI dX13_look_68 fl_X13_263 rfl obM_0 (g_iald dX13_look_71 arM_1 b2 (g_goto dX13_look_72 rfl (g_ireturn dX13_look_76 rfl ⟨_, rfl, (((h.2 q1).2.2 q3).1 q4)⟩)))))))))))))) (fun q4 => (g_aload_n dX13_look_39 0 0 rfl rfl (g_dup dX13_look_40 rfl (g_getI dX13_look_41 fl_X13_263 rfl obM_0 (g_iconst dX13_look_44 kc_1 (g_iadd dX13_look_45 (g_putI dX13_look_46 fl_X13_263 rfl rfl obM_0 (g_goto dX13_look_49 rfl (((h.2 q1).2.2 q3).2 q4))))))))))))))))))))))))))))))
theorem dX13_isIn_0 : decode cX13_isIn 0 = .ok (.lload_n 0, 1) := by decide +kernel
theorem dX13_isIn_1 : decode cX13_isIn 1 = .ok (.lload_n 2, 1) := by decide +kernel
theorem dX13_isIn_2 : decode cX13_isIn 2 = .ok (.lcmp, 1) := by decide +kernel
theorem dX13_isIn_3 : decode cX13_isIn 3 = .ok (.ifCond .lt 14, 3) := by decide +kernel
theorem dX13_isIn_6 : decode cX13_isIn 6 = .ok (.lload_n 0, 1) := by decide +kernel
theorem dX13_isIn_7 : decode cX13_isIn 7 = .ok (.lload 4, 2) := by decide +kernel
theorem dX13_isIn_9 : decode cX13_isIn 9 = .ok (.lcmp, 1) := by decide +kernel
theorem dX13_isIn_10 : decode cX13_isIn 10 = .ok (.ifCond .gt 7, 3) := by decide +kernel
theorem dX13_isIn_13 : decode cX13_isIn 13 = .ok (.iconst 1, 1) := by decide +kernel
theorem dX13_isIn_14 : decode cX13_isIn 14 = .ok (.goto 4, 3) := by decide +kernel
theorem dX13_isIn_17 : decode cX13_isIn 17 = .ok (.iconst 0, 1) := by decide +kernel
theorem dX13_isIn_18 : decode cX13_isIn 18 = .ok (.ireturn, 1) := by decide +kernel
theorem bX13_isIn_0 {d : Nat}  {v0 : Int64} {v2 : Int64} {v4 : Int64} {I : Ii} {J : Jj} {K : KI}
    (h : (((lg_cmp v0 v2) < 0) → (K (0) I J)) ∧ ((¬ (lg_cmp v0 v2) < 0) → (((0 < (lg_cmp v0 v4)) → (K (0) I J)) ∧ ((¬ 0 < (lg_cmp v0 v4)) → (K (1) I J))))) :
    GoI wM d mX13_isIn 0 [(0, .long (v0)), (2, .long (v2)), (4, .long (v4))] [] I J K :=
  (g_lload_n dX13_isIn_0 0 0 rfl rfl (g_lload_n dX13_isIn_1 1 2 rfl rfl (g_lcmp dX13_isIn_2 (g_if_lt dX13_isIn_3 rfl (fun q1 => (g_iconst dX13_isIn_17 kc_0 (g_zreturn dX13_isIn_18 rfl (narZ (by decide)) ⟨_, rfl, (h.1 q1)⟩))) (fun q1 => (g_lload_n dX13_isIn_6 0 0 rfl rfl (g_lload dX13_isIn_7 2 rfl (g_lcmp dX13_isIn_9 (g_if_gt dX13_isIn_10 rfl (fun q2 => (g_iconst dX13_isIn_17 kc_0 (g_zreturn dX13_isIn_18 rfl (narZ (by decide)) ⟨_, rfl, ((h.2 q1).1 q2)⟩))) (fun q2 => (g_iconst dX13_isIn_13 kc_1 (g_goto dX13_isIn_14 rfl (g_zreturn dX13_isIn_18 rfl (narZ (by decide)) ⟨_, rfl, ((h.2 q1).2 q2)⟩)))))))))))))
theorem dX13_isHere_0 : decode cX13_isHere 0 = .ok (.aload_n 0, 1) := by decide +kernel
theorem dX13_isHere_1 : decode cX13_isHere 1 = .ok (.getfield 257, 3) := by decide +kernel
theorem dX13_isHere_4 : decode cX13_isHere 4 = .ok (.ifCond .ne 24, 3) := by decide +kernel
theorem dX13_isHere_7 : decode cX13_isHere 7 = .ok (.aload_n 0, 1) := by decide +kernel
theorem dX13_isHere_8 : decode cX13_isHere 8 = .ok (.invokevirtual 269, 3) := by decide +kernel
theorem dX13_isHere_11 : decode cX13_isHere 11 = .ok (.invokestatic 273, 3) := by decide +kernel
theorem dX13_isHere_14 : decode cX13_isHere 14 = .ok (.ifCond .eq 14, 3) := by decide +kernel
theorem dX13_isHere_17 : decode cX13_isHere 17 = .ok (.aload_n 0, 1) := by decide +kernel
theorem dX13_isHere_18 : decode cX13_isHere 18 = .ok (.getfield 263, 3) := by decide +kernel
theorem dX13_isHere_21 : decode cX13_isHere 21 = .ok (.aload_n 0, 1) := by decide +kernel
theorem dX13_isHere_22 : decode cX13_isHere 22 = .ok (.getfield 277, 3) := by decide +kernel
theorem dX13_isHere_25 : decode cX13_isHere 25 = .ok (.if_icmp .ne 5, 3) := by decide +kernel
theorem dX13_isHere_28 : decode cX13_isHere 28 = .ok (.iconst 0, 1) := by decide +kernel
theorem dX13_isHere_29 : decode cX13_isHere 29 = .ok (.ireturn, 1) := by decide +kernel
theorem dX13_isHere_30 : decode cX13_isHere 30 = .ok (.aload_n 0, 1) := by decide +kernel
theorem dX13_isHere_31 : decode cX13_isHere 31 = .ok (.getfield 263, 3) := by decide +kernel
theorem dX13_isHere_34 : decode cX13_isHere 34 = .ok (.istore_n 2, 1) := by decide +kernel
theorem dX13_isHere_35 : decode cX13_isHere 35 = .ok (.iload_n 2, 1) := by decide +kernel
theorem dX13_isHere_36 : decode cX13_isHere 36 = .ok (.aload_n 0, 1) := by decide +kernel
theorem dX13_isHere_37 : decode cX13_isHere 37 = .ok (.getfield 266, 3) := by decide +kernel
theorem dX13_isHere_40 : decode cX13_isHere 40 = .ok (.if_icmp .ge 21, 3) := by decide +kernel
theorem dX13_isHere_43 : decode cX13_isHere 43 = .ok (.aload_n 0, 1) := by decide +kernel
theorem dX13_isHere_44 : decode cX13_isHere 44 = .ok (.getfield 7, 3) := by decide +kernel
theorem dX13_isHere_47 : decode cX13_isHere 47 = .ok (.iload_n 2, 1) := by decide +kernel
theorem dX13_isHere_48 : decode cX13_isHere 48 = .ok (.iaload, 1) := by decide +kernel
theorem dX13_isHere_49 : decode cX13_isHere 49 = .ok (.invokestatic 273, 3) := by decide +kernel
theorem dX13_isHere_52 : decode cX13_isHere 52 = .ok (.ifCond .eq 9, 3) := by decide +kernel
theorem dX13_isHere_55 : decode cX13_isHere 55 = .ok (.iinc 2 1, 3) := by decide +kernel
theorem dX13_isHere_58 : decode cX13_isHere 58 = .ok (.goto (-23), 3) := by decide +kernel
theorem dX13_isHere_61 : decode cX13_isHere 61 = .ok (.iload_n 2, 1) := by decide +kernel
theorem dX13_isHere_62 : decode cX13_isHere 62 = .ok (.aload_n 0, 1) := by decide +kernel
theorem dX13_isHere_63 : decode cX13_isHere 63 = .ok (.getfield 263, 3) := by decide +kernel
theorem dX13_isHere_66 : decode cX13_isHere 66 = .ok (.isub, 1) := by decide +kernel
theorem dX13_isHere_67 : decode cX13_isHere 67 = .ok (.aload_n 1, 1) := by decide +kernel
theorem dX13_isHere_68 : decode cX13_isHere 68 = .ok (.arraylength, 1) := by decide +kernel
theorem dX13_isHere_69 : decode cX13_isHere 69 = .ok (.if_icmp .eq 5, 3) := by decide +kernel
theorem dX13_isHere_72 : decode cX13_isHere 72 = .ok (.iconst 0, 1) := by decide +kernel
theorem dX13_isHere_73 : decode cX13_isHere 73 = .ok (.ireturn, 1) := by decide +kernel
theorem dX13_isHere_74 : decode cX13_isHere 74 = .ok (.iconst 0, 1) := by decide +kernel
theorem dX13_isHere_75 : decode cX13_isHere 75 = .ok (.istore_n 3, 1) := by decide +kernel
theorem dX13_isHere_76 : decode cX13_isHere 76 = .ok (.iload_n 3, 1) := by decide +kernel
theorem dX13_isHere_77 : decode cX13_isHere 77 = .ok (.aload_n 1, 1) := by decide +kernel
theorem dX13_isHere_78 : decode cX13_isHere 78 = .ok (.arraylength, 1) := by decide +kernel
theorem dX13_isHere_79 : decode cX13_isHere 79 = .ok (.if_icmp .ge 28, 3) := by decide +kernel
theorem dX13_isHere_82 : decode cX13_isHere 82 = .ok (.aload_n 0, 1) := by decide +kernel
theorem dX13_isHere_83 : decode cX13_isHere 83 = .ok (.getfield 7, 3) := by decide +kernel
theorem dX13_isHere_86 : decode cX13_isHere 86 = .ok (.aload_n 0, 1) := by decide +kernel
theorem dX13_isHere_87 : decode cX13_isHere 87 = .ok (.getfield 263, 3) := by decide +kernel
theorem dX13_isHere_90 : decode cX13_isHere 90 = .ok (.iload_n 3, 1) := by decide +kernel
theorem dX13_isHere_91 : decode cX13_isHere 91 = .ok (.iadd, 1) := by decide +kernel
theorem dX13_isHere_92 : decode cX13_isHere 92 = .ok (.iaload, 1) := by decide +kernel
theorem dX13_isHere_93 : decode cX13_isHere 93 = .ok (.aload_n 1, 1) := by decide +kernel
theorem dX13_isHere_94 : decode cX13_isHere 94 = .ok (.iload_n 3, 1) := by decide +kernel
theorem dX13_isHere_95 : decode cX13_isHere 95 = .ok (.caload, 1) := by decide +kernel
theorem dX13_isHere_96 : decode cX13_isHere 96 = .ok (.if_icmp .eq 5, 3) := by decide +kernel
theorem dX13_isHere_99 : decode cX13_isHere 99 = .ok (.iconst 0, 1) := by decide +kernel
theorem dX13_isHere_100 : decode cX13_isHere 100 = .ok (.ireturn, 1) := by decide +kernel
theorem dX13_isHere_101 : decode cX13_isHere 101 = .ok (.iinc 3 1, 3) := by decide +kernel
theorem dX13_isHere_104 : decode cX13_isHere 104 = .ok (.goto (-28), 3) := by decide +kernel
theorem dX13_isHere_107 : decode cX13_isHere 107 = .ok (.iconst 1, 1) := by decide +kernel
theorem dX13_isHere_108 : decode cX13_isHere 108 = .ok (.ireturn, 1) := by decide +kernel
theorem bX13_isHere_0 {d : Nat}  {a1 n1 : Nat} (ha1 : z_Ar wM a1 2 n1)  {I : Ii} {J : Jj} {K : KI}
    (h : ((¬ (I 0 5) = 0) → (K (0) I J)) ∧ (((I 0 5) = 0) → (CalI wM d mX13_look [.ref (0)] I J (fun x4 I2 J3 => (CalI wM d mX13_isLetter [.int (x4)] I2 J3 (fun x7 I5 J6 => (((x7 = 0) → (K (0) I5 J6)) ∧ ((¬ x7 = 0) → (((¬ (I5 0 2) = (I5 0 4)) → (GoI wM (d + 1) mX13_isHere 35 [(0, .ref (0)), (1, .ref (a1)), (2, .int (I5 0 2))] [] I5 J6 K)) ∧ (((I5 0 2) = (I5 0 4)) → (K (0) I5 J6))))))))))) :
    GoI wM (d + 1) mX13_isHere 0 [(0, .ref (0)), (1, .ref (a1))] [] I J K :=
  (g_aload_n dX13_isHere_0 0 0 rfl rfl (g_getI dX13_isHere_1 fl_X13_257 rfl obM_0 (g_if_ne dX13_isHere_4 rfl (fun q1 => (g_iconst dX13_isHere_28 kc_0 (g_zreturn dX13_isHere_29 rfl (narZ (by decide)) ⟨_, rfl, (h.1 q1)⟩))) (fun q1 => (g_aload_n dX13_isHere_7 0 0 rfl rfl (g_callvI dX13_isHere_8 ml_X13_269 md_X13_look mv_X13_look obM_0 rfl rfl rfl (Nat.le_of_ble_eq_true rfl) (CalI.mono (h.2 q1) (fun x4 I2 J3 h11 => (g_callsI dX13_isHere_11 ml_X13_273 md_X13_isLetter ms_X13_isLetter rfl rfl (Nat.le_of_ble_eq_true rfl) (CalI.mono h11 (fun x7 I5 J6 h10 => (g_if_eq dX13_isHere_14 rfl (fun q8 => (g_iconst dX13_isHere_28 kc_0 (g_zreturn dX13_isHere_29 rfl (narZ (by decide)) ⟨_, rfl, (h10.1 q8)⟩))) (fun q8 => (g_aload_n dX13_isHere_17 0 0 rfl rfl (g_getI dX13_isHere_18 fl_X13_263 rfl obM_0 (g_aload_n dX13_isHere_21 0 0 rfl rfl (g_getI dX13_isHere_22 fl_X13_277 rfl obM_0 (g_icmp_ne dX13_isHere_25 rfl (fun q9 => (g_aload_n dX13_isHere_30 0 0 rfl rfl (g_getI dX13_isHere_31 fl_X13_263 rfl obM_0 (g_istore_n dX13_isHere_34 rfl (by decide) rfl (g_sub [1, 2, 0] rfl ((h10.2 q8).1 q9)))))) (fun q9 => (g_iconst dX13_isHere_28 kc_0 (g_zreturn dX13_isHere_29 rfl (narZ (by decide)) ⟨_, rfl, ((h10.2 q8).2 q9)⟩)))))))))))))))))))))
theorem bX13_isHere_35 {d : Nat}  {a1 n1 : Nat} (ha1 : z_Ar wM a1 2 n1) {v2 : Int32} {I : Ii} {J : Jj} {K : KI}
    (h : (((I 0 3) ≤ v2) → ((((v2 - (I 0 2)) = (Int32.ofNat n1)) → (GoI wM (d + 1) mX13_isHere 76 [(0, .ref (0)), (1, .ref (a1)), (3, .int (0))] [] I J K)) ∧ ((¬ (v2 - (I 0 2)) = (Int32.ofNat n1)) → (K (0) I J)))) ∧ ((¬ (I 0 3) ≤ v2) → (vp_in (v2) 1600 ∧ (CalI wM d mX13_isLetter [.int (I 1 v2.toNatClampNeg)] I J (fun x6 I4 J5 => (((x6 = 0) → ((((v2 - (I4 0 2)) = (Int32.ofNat n1)) → (GoI wM (d + 1) mX13_isHere 76 [(0, .ref (0)), (1, .ref (a1)), (3, .int (0))] [] I4 J5 K)) ∧ ((¬ (v2 - (I4 0 2)) = (Int32.ofNat n1)) → (K (0) I4 J5)))) ∧ ((¬ x6 = 0) → (GoI wM (d + 1) mX13_isHere 35 [(0, .ref (0)), (1, .ref (a1)), (2, .int (v2 + 1))] [] I4 J5 K)))))))) :
    GoI wM (d + 1) mX13_isHere 35 [(0, .ref (0)), (1, .ref (a1)), (2, .int (v2))] [] I J K :=
  (g_iload_n dX13_isHere_35 2 2 rfl rfl (g_aload_n dX13_isHere_36 0 0 rfl rfl (g_getI dX13_isHere_37 fl_X13_266 rfl obM_0 (g_icmp_ge dX13_isHere_40 rfl (fun q1 => (g_iload_n dX13_isHere_61 2 2 rfl rfl (g_aload_n dX13_isHere_62 0 0 rfl rfl (g_getI dX13_isHere_63 fl_X13_263 rfl obM_0 (g_isub dX13_isHere_66 (g_aload_n dX13_isHere_67 1 1 rfl rfl (g_alen (t := 1) dX13_isHere_68 ha1 (by decide) (g_icmp_eq dX13_isHere_69 rfl (fun q2 => (g_iconst dX13_isHere_74 kc_0 (g_istore_n dX13_isHere_75 rfl (by decide) rfl (g_sub [1, 2, 0] rfl ((h.1 q1).1 q2))))) (fun q2 => (g_iconst dX13_isHere_72 kc_0 (g_zreturn dX13_isHere_73 rfl (narZ (by decide)) ⟨_, rfl, ((h.1 q1).2 q2)⟩))))))))))) (fun q1 => (g_aload_n dX13_isHere_43 0 0 rfl rfl (g_getP dX13_isHere_44 fl_X13_7 rfl obM_0 rfl (g_iload_n dX13_isHere_47 2 2 rfl rfl (have b3 := (h.2 q1).1; g_iald dX13_isHere_48 arM_1 b3 (g_callsI dX13_isHere_49 ml_X13_273 md_X13_isLetter ms_X13_isLetter rfl rfl (Nat.le_of_ble_eq_true rfl) (CalI.mono (h.2 q1).2 (fun x6 I4 J5 h9 => (g_if_eq dX13_isHere_52 rfl (fun q7 => (g_iload_n dX13_isHere_61 2 2 rfl rfl (g_aload_n dX13_isHere_62 0 0 rfl rfl (g_getI dX13_isHere_63 fl_X13_263 rfl obM_0 (g_isub dX13_isHere_66 (g_aload_n dX13_isHere_67 1 1 rfl rfl (g_alen (t := 1) dX13_isHere_68 ha1 (by decide) (g_icmp_eq dX13_isHere_69 rfl (fun q8 => (g_iconst dX13_isHere_74 kc_0 (g_istore_n dX13_isHere_75 rfl (by decide) rfl (g_sub [1, 2, 0] rfl ((h9.1 q7).1 q8))))) (fun q8 => (g_iconst dX13_isHere_72 kc_0 (g_zreturn dX13_isHere_73 rfl (narZ (by decide)) ⟨_, rfl, ((h9.1 q7).2 q8)⟩))))))))))) (fun q7 => (g_iinc dX13_isHere_55 2 rfl rfl (by decide) rfl (g_goto dX13_isHere_58 rfl (g_sub [1, 2, 0] rfl (h9.2 q7))))))))))))))))))
theorem bX13_isHere_76 {d : Nat}  {a1 n1 : Nat} (ha1 : z_Ar wM a1 2 n1) {v3 : Int32} {I : Ii} {J : Jj} {K : KI}
    (h : (((Int32.ofNat n1) ≤ v3) → (K (1) I J)) ∧ ((¬ (Int32.ofNat n1) ≤ v3) → (vp_in ((I 0 2) + v3) 1600 ∧ (vp_in (v3) n1 ∧ ((((I 1 ((I 0 2) + v3).toNatClampNeg) = (I a1 v3.toNatClampNeg)) → (GoI wM (d + 1) mX13_isHere 76 [(0, .ref (0)), (1, .ref (a1)), (3, .int (v3 + 1))] [] I J K)) ∧ ((¬ (I 1 ((I 0 2) + v3).toNatClampNeg) = (I a1 v3.toNatClampNeg)) → (K (0) I J))))))) :
    GoI wM (d + 1) mX13_isHere 76 [(0, .ref (0)), (1, .ref (a1)), (3, .int (v3))] [] I J K :=
  (g_iload_n dX13_isHere_76 2 3 rfl rfl (g_aload_n dX13_isHere_77 1 1 rfl rfl (g_alen (t := 1) dX13_isHere_78 ha1 (by decide) (g_icmp_ge dX13_isHere_79 rfl (fun q1 => (g_iconst dX13_isHere_107 kc_1 (g_zreturn dX13_isHere_108 rfl (narZ (by decide)) ⟨_, rfl, (h.1 q1)⟩))) (fun q1 => (g_aload_n dX13_isHere_82 0 0 rfl rfl (g_getP dX13_isHere_83 fl_X13_7 rfl obM_0 rfl (g_aload_n dX13_isHere_86 0 0 rfl rfl (g_getI dX13_isHere_87 fl_X13_263 rfl obM_0 (g_iload_n dX13_isHere_90 2 3 rfl rfl (g_iadd dX13_isHere_91 (have b2 := (h.2 q1).1; g_iald dX13_isHere_92 arM_1 b2 (g_aload_n dX13_isHere_93 1 1 rfl rfl (g_iload_n dX13_isHere_94 2 3 rfl rfl (have b3 := (h.2 q1).2.1; g_cald dX13_isHere_95 ha1 b3 (g_icmp_eq dX13_isHere_96 rfl (fun q4 => (g_iinc dX13_isHere_101 2 rfl rfl (by decide) rfl (g_goto dX13_isHere_104 rfl (g_sub [1, 2, 0] rfl ((h.2 q1).2.2.1 q4))))) (fun q4 => (g_iconst dX13_isHere_99 kc_0 (g_zreturn dX13_isHere_100 rfl (narZ (by decide)) ⟨_, rfl, ((h.2 q1).2.2.2 q4)⟩)))))))))))))))))))

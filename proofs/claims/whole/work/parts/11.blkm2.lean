theorem dX13_leftOf_0 : decode cX13_leftOf 0 = .ok (.aload_n 0, 1) := by decide +kernel
theorem dX13_leftOf_1 : decode cX13_leftOf 1 = .ok (.getfield 139, 3) := by decide +kernel
theorem dX13_leftOf_4 : decode cX13_leftOf 4 = .ok (.iconst 1, 1) := by decide +kernel
theorem dX13_leftOf_5 : decode cX13_leftOf 5 = .ok (.iconst 5, 1) := by decide +kernel
theorem dX13_leftOf_6 : decode cX13_leftOf 6 = .ok (.iload_n 1, 1) := by decide +kernel
theorem dX13_leftOf_7 : decode cX13_leftOf 7 = .ok (.imul, 1) := by decide +kernel
theorem dX13_leftOf_8 : decode cX13_leftOf 8 = .ok (.iadd, 1) := by decide +kernel
theorem dX13_leftOf_9 : decode cX13_leftOf 9 = .ok (.iconst 3, 1) := by decide +kernel
theorem dX13_leftOf_10 : decode cX13_leftOf 10 = .ok (.iadd, 1) := by decide +kernel
theorem dX13_leftOf_11 : decode cX13_leftOf 11 = .ok (.iaload, 1) := by decide +kernel
theorem dX13_leftOf_12 : decode cX13_leftOf 12 = .ok (.ireturn, 1) := by decide +kernel
theorem bX13_leftOf_0 {d : Nat}  {v1 : Int32} {I : Ii} {J : Jj} {K : KI}
    (h : vp_in ((1 + (5 * v1)) + 3) 132 ∧ (K (I 42 ((1 + (5 * v1)) + 3).toNatClampNeg) I J)) :
    GoI wM d mX13_leftOf 0 [(0, .ref (0)), (1, .int (v1))] [] I J K :=
  (g_aload_n dX13_leftOf_0 0 0 rfl rfl (g_getP dX13_leftOf_1 fl_X13_139 rfl obM_0 rfl (g_iconst dX13_leftOf_4 kc_1 (g_iconst dX13_leftOf_5 kc_5 (g_iload_n dX13_leftOf_6 1 1 rfl rfl (g_imul dX13_leftOf_7 (g_iadd dX13_leftOf_8 (g_iconst dX13_leftOf_9 kc_3 (g_iadd dX13_leftOf_10 (have b1 := h.1; g_iald dX13_leftOf_11 arM_42 b1 (g_ireturn dX13_leftOf_12 rfl ⟨_, rfl, h.2⟩)))))))))))
theorem dX13_hasPassed_0 : decode cX13_hasPassed 0 = .ok (.aload_n 0, 1) := by decide +kernel
theorem dX13_hasPassed_1 : decode cX13_hasPassed 1 = .ok (.getfield 139, 3) := by decide +kernel
theorem dX13_hasPassed_4 : decode cX13_hasPassed 4 = .ok (.iconst 1, 1) := by decide +kernel
theorem dX13_hasPassed_5 : decode cX13_hasPassed 5 = .ok (.iconst 5, 1) := by decide +kernel
theorem dX13_hasPassed_6 : decode cX13_hasPassed 6 = .ok (.iload_n 1, 1) := by decide +kernel
theorem dX13_hasPassed_7 : decode cX13_hasPassed 7 = .ok (.imul, 1) := by decide +kernel
theorem dX13_hasPassed_8 : decode cX13_hasPassed 8 = .ok (.iadd, 1) := by decide +kernel
theorem dX13_hasPassed_9 : decode cX13_hasPassed 9 = .ok (.iconst 4, 1) := by decide +kernel
theorem dX13_hasPassed_10 : decode cX13_hasPassed 10 = .ok (.iadd, 1) := by decide +kernel
theorem dX13_hasPassed_11 : decode cX13_hasPassed 11 = .ok (.iaload, 1) := by decide +kernel
theorem dX13_hasPassed_12 : decode cX13_hasPassed 12 = .ok (.iconst 1, 1) := by decide +kernel
theorem dX13_hasPassed_13 : decode cX13_hasPassed 13 = .ok (.iand, 1) := by decide +kernel
theorem dX13_hasPassed_14 : decode cX13_hasPassed 14 = .ok (.ifCond .eq 7, 3) := by decide +kernel
theorem dX13_hasPassed_17 : decode cX13_hasPassed 17 = .ok (.iconst 1, 1) := by decide +kernel
theorem dX13_hasPassed_18 : decode cX13_hasPassed 18 = .ok (.goto 4, 3) := by decide +kernel
theorem dX13_hasPassed_21 : decode cX13_hasPassed 21 = .ok (.iconst 0, 1) := by decide +kernel
theorem dX13_hasPassed_22 : decode cX13_hasPassed 22 = .ok (.ireturn, 1) := by decide +kernel
theorem bX13_hasPassed_0 {d : Nat}  {v1 : Int32} {I : Ii} {J : Jj} {K : KI}
    (h : vp_in ((1 + (5 * v1)) + 4) 132 ∧ (((((I 42 ((1 + (5 * v1)) + 4).toNatClampNeg) &&& 1) = 0) → (K (0) I J)) ∧ ((¬ ((I 42 ((1 + (5 * v1)) + 4).toNatClampNeg) &&& 1) = 0) → (K (1) I J)))) :
    GoI wM d mX13_hasPassed 0 [(0, .ref (0)), (1, .int (v1))] [] I J K :=
  (g_aload_n dX13_hasPassed_0 0 0 rfl rfl (g_getP dX13_hasPassed_1 fl_X13_139 rfl obM_0 rfl (g_iconst dX13_hasPassed_4 kc_1 (g_iconst dX13_hasPassed_5 kc_5 (g_iload_n dX13_hasPassed_6 1 1 rfl rfl (g_imul dX13_hasPassed_7 (g_iadd dX13_hasPassed_8 (g_iconst dX13_hasPassed_9 kc_4 (g_iadd dX13_hasPassed_10 (have b1 := h.1; g_iald dX13_hasPassed_11 arM_42 b1 (g_iconst dX13_hasPassed_12 kc_1 (g_iand dX13_hasPassed_13 (g_if_eq dX13_hasPassed_14 rfl (fun q2 => (g_iconst dX13_hasPassed_21 kc_0 (g_zreturn dX13_hasPassed_22 rfl (narZ (by decide)) ⟨_, rfl, (h.2.1 q2)⟩))) (fun q2 => (g_iconst dX13_hasPassed_17 kc_1 (g_goto dX13_hasPassed_18 rfl (g_zreturn dX13_hasPassed_22 rfl (narZ (by decide)) ⟨_, rfl, (h.2.2 q2)⟩)))))))))))))))))
theorem dX13_isDoctor_0 : decode cX13_isDoctor 0 = .ok (.aload_n 0, 1) := by decide +kernel
theorem dX13_isDoctor_1 : decode cX13_isDoctor 1 = .ok (.getfield 139, 3) := by decide +kernel
theorem dX13_isDoctor_4 : decode cX13_isDoctor 4 = .ok (.iconst 1, 1) := by decide +kernel
theorem dX13_isDoctor_5 : decode cX13_isDoctor 5 = .ok (.iconst 5, 1) := by decide +kernel
theorem dX13_isDoctor_6 : decode cX13_isDoctor 6 = .ok (.iload_n 1, 1) := by decide +kernel
theorem dX13_isDoctor_7 : decode cX13_isDoctor 7 = .ok (.imul, 1) := by decide +kernel
theorem dX13_isDoctor_8 : decode cX13_isDoctor 8 = .ok (.iadd, 1) := by decide +kernel
theorem dX13_isDoctor_9 : decode cX13_isDoctor 9 = .ok (.iconst 4, 1) := by decide +kernel
theorem dX13_isDoctor_10 : decode cX13_isDoctor 10 = .ok (.iadd, 1) := by decide +kernel
theorem dX13_isDoctor_11 : decode cX13_isDoctor 11 = .ok (.iaload, 1) := by decide +kernel
theorem dX13_isDoctor_12 : decode cX13_isDoctor 12 = .ok (.iconst 2, 1) := by decide +kernel
theorem dX13_isDoctor_13 : decode cX13_isDoctor 13 = .ok (.iand, 1) := by decide +kernel
theorem dX13_isDoctor_14 : decode cX13_isDoctor 14 = .ok (.ifCond .eq 7, 3) := by decide +kernel
theorem dX13_isDoctor_17 : decode cX13_isDoctor 17 = .ok (.iconst 1, 1) := by decide +kernel
theorem dX13_isDoctor_18 : decode cX13_isDoctor 18 = .ok (.goto 4, 3) := by decide +kernel
theorem dX13_isDoctor_21 : decode cX13_isDoctor 21 = .ok (.iconst 0, 1) := by decide +kernel
theorem dX13_isDoctor_22 : decode cX13_isDoctor 22 = .ok (.ireturn, 1) := by decide +kernel
theorem bX13_isDoctor_0 {d : Nat}  {v1 : Int32} {I : Ii} {J : Jj} {K : KI}
    (h : vp_in ((1 + (5 * v1)) + 4) 132 ∧ (((((I 42 ((1 + (5 * v1)) + 4).toNatClampNeg) &&& 2) = 0) → (K (0) I J)) ∧ ((¬ ((I 42 ((1 + (5 * v1)) + 4).toNatClampNeg) &&& 2) = 0) → (K (1) I J)))) :
    GoI wM d mX13_isDoctor 0 [(0, .ref (0)), (1, .int (v1))] [] I J K :=
  (g_aload_n dX13_isDoctor_0 0 0 rfl rfl (g_getP dX13_isDoctor_1 fl_X13_139 rfl obM_0 rfl (g_iconst dX13_isDoctor_4 kc_1 (g_iconst dX13_isDoctor_5 kc_5 (g_iload_n dX13_isDoctor_6 1 1 rfl rfl (g_imul dX13_isDoctor_7 (g_iadd dX13_isDoctor_8 (g_iconst dX13_isDoctor_9 kc_4 (g_iadd dX13_isDoctor_10 (have b1 := h.1; g_iald dX13_isDoctor_11 arM_42 b1 (g_iconst dX13_isDoctor_12 kc_2 (g_iand dX13_isDoctor_13 (g_if_eq dX13_isDoctor_14 rfl (fun q2 => (g_iconst dX13_isDoctor_21 kc_0 (g_zreturn dX13_isDoctor_22 rfl (narZ (by decide)) ⟨_, rfl, (h.2.1 q2)⟩))) (fun q2 => (g_iconst dX13_isDoctor_17 kc_1 (g_goto dX13_isDoctor_18 rfl (g_zreturn dX13_isDoctor_22 rfl (narZ (by decide)) ⟨_, rfl, (h.2.2 q2)⟩)))))))))))))))))
theorem dX13_marks_0 : decode cX13_marks 0 = .ok (.aload_n 0, 1) := by decide +kernel
theorem dX13_marks_1 : decode cX13_marks 1 = .ok (.iload_n 1, 1) := by decide +kernel
theorem dX13_marks_2 : decode cX13_marks 2 = .ok (.invokevirtual 504, 3) := by decide +kernel
theorem dX13_marks_5 : decode cX13_marks 5 = .ok (.ifCond .eq 12, 3) := by decide +kernel
theorem dX13_marks_8 : decode cX13_marks 8 = .ok (.aload_n 0, 1) := by decide +kernel
theorem dX13_marks_9 : decode cX13_marks 9 = .ok (.iload_n 1, 1) := by decide +kernel
theorem dX13_marks_10 : decode cX13_marks 10 = .ok (.invokevirtual 453, 3) := by decide +kernel
theorem dX13_marks_13 : decode cX13_marks 13 = .ok (.i2l, 1) := by decide +kernel
theorem dX13_marks_14 : decode cX13_marks 14 = .ok (.goto 6, 3) := by decide +kernel
theorem dX13_marks_17 : decode cX13_marks 17 = .ok (.ldc2_w 510, 3) := by decide +kernel
theorem dX13_marks_20 : decode cX13_marks 20 = .ok (.lreturn, 1) := by decide +kernel
theorem bX13_marks_0 {d : Nat}  {v1 : Int32} {I : Ii} {J : Jj} {K : KL}
    (h : CalI wM d mX13_isPerson [.ref (0), .int (v1)] I J (fun x3 I1 J2 => (((x3 = 0) → (K ((-1000000000000000)) I1 J2)) ∧ ((¬ x3 = 0) → (CalI wM d mX13_marksOf [.ref (0), .int (v1)] I1 J2 (fun x7 I5 J6 => (K (x7.toInt64) I5 J6))))))) :
    GoL wM (d + 1) mX13_marks 0 [(0, .ref (0)), (1, .int (v1))] [] I J K :=
  (g_aload_n dX13_marks_0 0 0 rfl rfl (g_iload_n dX13_marks_1 1 1 rfl rfl (g_callvI dX13_marks_2 ml_X13_504 md_X13_isPerson mv_X13_isPerson obM_0 rfl rfl rfl (Nat.le_of_ble_eq_true rfl) (CalI.mono h (fun x3 I1 J2 h9 => (g_if_eq dX13_marks_5 rfl (fun q4 => (g_ldc2 dX13_marks_17 kl_X13_510 (g_lreturn dX13_marks_20 rfl ⟨_, rfl, (h9.1 q4)⟩))) (fun q4 => (g_aload_n dX13_marks_8 0 0 rfl rfl (g_iload_n dX13_marks_9 1 1 rfl rfl (g_callvI dX13_marks_10 ml_X13_453 md_X13_marksOf mv_X13_marksOf obM_0 rfl rfl rfl (Nat.le_of_ble_eq_true rfl) (CalI.mono (h9.2 q4) (fun x7 I5 J6 h8 => (g_i2l dX13_marks_13 (g_goto dX13_marks_14 rfl (g_lreturn dX13_marks_20 rfl ⟨_, rfl, h8⟩)))))))))))))))
theorem dX13_marksOf_0 : decode cX13_marksOf 0 = .ok (.iconst 0, 1) := by decide +kernel
theorem dX13_marksOf_1 : decode cX13_marksOf 1 = .ok (.istore_n 2, 1) := by decide +kernel
theorem dX13_marksOf_2 : decode cX13_marksOf 2 = .ok (.iconst 0, 1) := by decide +kernel
theorem dX13_marksOf_3 : decode cX13_marksOf 3 = .ok (.istore_n 3, 1) := by decide +kernel
theorem dX13_marksOf_4 : decode cX13_marksOf 4 = .ok (.iload_n 3, 1) := by decide +kernel
theorem dX13_marksOf_5 : decode cX13_marksOf 5 = .ok (.aload_n 0, 1) := by decide +kernel
theorem dX13_marksOf_6 : decode cX13_marksOf 6 = .ok (.invokevirtual 398, 3) := by decide +kernel
theorem dX13_marksOf_9 : decode cX13_marksOf 9 = .ok (.if_icmp .ge 41, 3) := by decide +kernel
theorem dX13_marksOf_12 : decode cX13_marksOf 12 = .ok (.iload_n 2, 1) := by decide +kernel
theorem dX13_marksOf_13 : decode cX13_marksOf 13 = .ok (.aload_n 0, 1) := by decide +kernel
theorem dX13_marksOf_14 : decode cX13_marksOf 14 = .ok (.getfield 112, 3) := by decide +kernel
theorem dX13_marksOf_17 : decode cX13_marksOf 17 = .ok (.bipush 8, 2) := by decide +kernel
theorem dX13_marksOf_19 : decode cX13_marksOf 19 = .ok (.iload_n 3, 1) := by decide +kernel
theorem dX13_marksOf_20 : decode cX13_marksOf 20 = .ok (.iadd, 1) := by decide +kernel
theorem dX13_marksOf_21 : decode cX13_marksOf 21 = .ok (.iaload, 1) := by decide +kernel
theorem dX13_marksOf_22 : decode cX13_marksOf 22 = .ok (.aload_n 0, 1) := by decide +kernel
theorem dX13_marksOf_23 : decode cX13_marksOf 23 = .ok (.iload_n 1, 1) := by decide +kernel
theorem dX13_marksOf_24 : decode cX13_marksOf 24 = .ok (.invokevirtual 404, 3) := by decide +kernel
theorem dX13_marksOf_27 : decode cX13_marksOf 27 = .ok (.iload_n 3, 1) := by decide +kernel
theorem dX13_marksOf_28 : decode cX13_marksOf 28 = .ok (.ishr, 1) := by decide +kernel
theorem dX13_marksOf_29 : decode cX13_marksOf 29 = .ok (.iconst 1, 1) := by decide +kernel
theorem dX13_marksOf_30 : decode cX13_marksOf 30 = .ok (.iand, 1) := by decide +kernel
theorem dX13_marksOf_31 : decode cX13_marksOf 31 = .ok (.aload_n 0, 1) := by decide +kernel
theorem dX13_marksOf_32 : decode cX13_marksOf 32 = .ok (.iload_n 1, 1) := by decide +kernel
theorem dX13_marksOf_33 : decode cX13_marksOf 33 = .ok (.invokevirtual 407, 3) := by decide +kernel
theorem dX13_marksOf_36 : decode cX13_marksOf 36 = .ok (.iload_n 3, 1) := by decide +kernel
theorem dX13_marksOf_37 : decode cX13_marksOf 37 = .ok (.ishr, 1) := by decide +kernel
theorem dX13_marksOf_38 : decode cX13_marksOf 38 = .ok (.iconst 1, 1) := by decide +kernel
theorem dX13_marksOf_39 : decode cX13_marksOf 39 = .ok (.iand, 1) := by decide +kernel
theorem dX13_marksOf_40 : decode cX13_marksOf 40 = .ok (.isub, 1) := by decide +kernel
theorem dX13_marksOf_41 : decode cX13_marksOf 41 = .ok (.imul, 1) := by decide +kernel
theorem dX13_marksOf_42 : decode cX13_marksOf 42 = .ok (.iadd, 1) := by decide +kernel
theorem dX13_marksOf_43 : decode cX13_marksOf 43 = .ok (.istore_n 2, 1) := by decide +kernel
theorem dX13_marksOf_44 : decode cX13_marksOf 44 = .ok (.iinc 3 1, 3) := by decide +kernel
theorem dX13_marksOf_47 : decode cX13_marksOf 47 = .ok (.goto (-43), 3) := by decide +kernel
theorem dX13_marksOf_50 : decode cX13_marksOf 50 = .ok (.iload_n 2, 1) := by decide +kernel
theorem dX13_marksOf_51 : decode cX13_marksOf 51 = .ok (.ireturn, 1) := by decide +kernel
theorem bX13_marksOf_0 {d : Nat}  {v1 : Int32} {I : Ii} {J : Jj} {K : KI}
    (h : GoI wM (d + 1) mX13_marksOf 4 [(0, .ref (0)), (1, .int (v1)), (2, .int (0)), (3, .int (0))] [] I J K) :
    GoI wM (d + 1) mX13_marksOf 0 [(0, .ref (0)), (1, .int (v1))] [] I J K :=
  (g_iconst dX13_marksOf_0 kc_0 (g_istore_n dX13_marksOf_1 rfl (by decide) rfl (g_iconst dX13_marksOf_2 kc_0 (g_istore_n dX13_marksOf_3 rfl (by decide) rfl (g_sub [2, 3, 1, 0] rfl h)))))
theorem bX13_marksOf_4 {d : Nat}  {v1 : Int32} {v2 : Int32} {v3 : Int32} {I : Ii} {J : Jj} {K : KI}
    (h : CalI wM d mX13_factMany [.ref (0)] I J (fun x3 I1 J2 => (((x3 ≤ v3) → (K (v2) I1 J2)) ∧ ((¬ x3 ≤ v3) → (vp_in (8 + v3) 16 ∧ (CalI wM d mX13_rightOf [.ref (0), .int (v1)] I1 J2 (fun x8 I6 J7 => (CalI wM d mX13_wrongOf [.ref (0), .int (v1)] I6 J7 (fun x11 I9 J10 => (∀ y12 : Int32, y12 = v2 + ((I1 33 (8 + v3).toNatClampNeg) * (((x8 >>> (v3 &&& 31)) &&& 1) - ((x11 >>> (v3 &&& 31)) &&& 1))) → (GoI wM (d + 1) mX13_marksOf 4 [(0, .ref (0)), (1, .int (v1)), (2, .int (y12)), (3, .int (v3 + 1))] [] I9 J10 K))))))))))) :
    GoI wM (d + 1) mX13_marksOf 4 [(0, .ref (0)), (1, .int (v1)), (2, .int (v2)), (3, .int (v3))] [] I J K :=
  (g_iload_n dX13_marksOf_4 3 3 rfl rfl (g_aload_n dX13_marksOf_5 0 0 rfl rfl (g_callvI dX13_marksOf_6 ml_X13_398 md_X13_factMany mv_X13_factMany obM_0 rfl rfl rfl (Nat.le_of_ble_eq_true rfl) (CalI.mono h (fun x3 I1 J2 h15 => (g_icmp_ge dX13_marksOf_9 rfl (fun q4 => (g_iload_n dX13_marksOf_50 2 2 rfl rfl (g_ireturn dX13_marksOf_51 rfl ⟨_, rfl, (h15.1 q4)⟩))) (fun q4 => (g_iload_n dX13_marksOf_12 2 2 rfl rfl (g_aload_n dX13_marksOf_13 0 0 rfl rfl (g_getP dX13_marksOf_14 fl_X13_112 rfl obM_0 rfl (g_bipush dX13_marksOf_17 kb_8 (g_iload_n dX13_marksOf_19 3 3 rfl rfl (g_iadd dX13_marksOf_20 (have b5 := (h15.2 q4).1; g_iald dX13_marksOf_21 arM_33 b5 (g_aload_n dX13_marksOf_22 0 0 rfl rfl (g_iload_n dX13_marksOf_23 1 1 rfl rfl (g_callvI dX13_marksOf_24 ml_X13_404 md_X13_rightOf mv_X13_rightOf obM_0 rfl rfl rfl (Nat.le_of_ble_eq_true rfl) (CalI.mono (h15.2 q4).2 (fun x8 I6 J7 h14 => (g_iload_n dX13_marksOf_27 3 3 rfl rfl (g_ishr dX13_marksOf_28 (g_iconst dX13_marksOf_29 kc_1 (g_iand dX13_marksOf_30 (g_aload_n dX13_marksOf_31 0 0 rfl rfl (g_iload_n dX13_marksOf_32 1 1 rfl rfl (g_callvI dX13_marksOf_33 ml_X13_407 md_X13_wrongOf mv_X13_wrongOf obM_0 rfl rfl rfl (Nat.le_of_ble_eq_true rfl) (CalI.mono h14 (fun x11 I9 J10 h13 => (g_iload_n dX13_marksOf_36 3 3 rfl rfl (g_ishr dX13_marksOf_37 (g_iconst dX13_marksOf_38 kc_1 (g_iand dX13_marksOf_39 (g_isub dX13_marksOf_40 (g_imul dX13_marksOf_41 (g_iadd dX13_marksOf_42 (g_istore_n dX13_marksOf_43 rfl (by decide) rfl (g_iinc dX13_marksOf_44 3 rfl rfl (by decide) rfl (g_goto dX13_marksOf_47 rfl (g_sub [2, 3, 1, 0] rfl (h13 _ rfl))))))))))))))))))))))))))))))))))))))))
theorem dX13_next_0 : decode cX13_next 0 = .ok (.aload_n 0, 1) := by decide +kernel
theorem dX13_next_1 : decode cX13_next 1 = .ok (.iload_n 1, 1) := by decide +kernel
theorem dX13_next_2 : decode cX13_next 2 = .ok (.invokevirtual 504, 3) := by decide +kernel
theorem dX13_next_5 : decode cX13_next 5 = .ok (.ifCond .eq 11, 3) := by decide +kernel
theorem dX13_next_8 : decode cX13_next 8 = .ok (.aload_n 0, 1) := by decide +kernel
theorem dX13_next_9 : decode cX13_next 9 = .ok (.iload_n 1, 1) := by decide +kernel
theorem dX13_next_10 : decode cX13_next 10 = .ok (.invokevirtual 436, 3) := by decide +kernel
theorem dX13_next_13 : decode cX13_next 13 = .ok (.goto 4, 3) := by decide +kernel
theorem dX13_next_16 : decode cX13_next 16 = .ok (.iconst (-1), 1) := by decide +kernel
theorem dX13_next_17 : decode cX13_next 17 = .ok (.ireturn, 1) := by decide +kernel
theorem bX13_next_0 {d : Nat}  {v1 : Int32} {I : Ii} {J : Jj} {K : KI}
    (h : CalI wM d mX13_isPerson [.ref (0), .int (v1)] I J (fun x3 I1 J2 => (((x3 = 0) → (K ((-1)) I1 J2)) ∧ ((¬ x3 = 0) → (CalI wM d mX13_taughtNext [.ref (0), .int (v1)] I1 J2 (fun x7 I5 J6 => (K (x7) I5 J6))))))) :
    GoI wM (d + 1) mX13_next 0 [(0, .ref (0)), (1, .int (v1))] [] I J K :=
  (g_aload_n dX13_next_0 0 0 rfl rfl (g_iload_n dX13_next_1 1 1 rfl rfl (g_callvI dX13_next_2 ml_X13_504 md_X13_isPerson mv_X13_isPerson obM_0 rfl rfl rfl (Nat.le_of_ble_eq_true rfl) (CalI.mono h (fun x3 I1 J2 h9 => (g_if_eq dX13_next_5 rfl (fun q4 => (g_iconst dX13_next_16 kc_n1 (g_ireturn dX13_next_17 rfl ⟨_, rfl, (h9.1 q4)⟩))) (fun q4 => (g_aload_n dX13_next_8 0 0 rfl rfl (g_iload_n dX13_next_9 1 1 rfl rfl (g_callvI dX13_next_10 ml_X13_436 md_X13_taughtNext mv_X13_taughtNext obM_0 rfl rfl rfl (Nat.le_of_ble_eq_true rfl) (CalI.mono (h9.2 q4) (fun x7 I5 J6 h8 => (g_goto dX13_next_13 rfl (g_ireturn dX13_next_17 rfl ⟨_, rfl, h8⟩))))))))))))))
theorem dX13_taughtNext_0 : decode cX13_taughtNext 0 = .ok (.aload_n 0, 1) := by decide +kernel
theorem dX13_taughtNext_1 : decode cX13_taughtNext 1 = .ok (.iload_n 1, 1) := by decide +kernel
theorem dX13_taughtNext_2 : decode cX13_taughtNext 2 = .ok (.invokevirtual 410, 3) := by decide +kernel
theorem dX13_taughtNext_5 : decode cX13_taughtNext 5 = .ok (.istore_n 2, 1) := by decide +kernel
theorem dX13_taughtNext_6 : decode cX13_taughtNext 6 = .ok (.iload_n 2, 1) := by decide +kernel
theorem dX13_taughtNext_7 : decode cX13_taughtNext 7 = .ok (.iconst (-1), 1) := by decide +kernel
theorem dX13_taughtNext_8 : decode cX13_taughtNext 8 = .ok (.if_icmp .ne 5, 3) := by decide +kernel
theorem dX13_taughtNext_11 : decode cX13_taughtNext 11 = .ok (.iconst (-1), 1) := by decide +kernel
theorem dX13_taughtNext_12 : decode cX13_taughtNext 12 = .ok (.ireturn, 1) := by decide +kernel
theorem dX13_taughtNext_13 : decode cX13_taughtNext 13 = .ok (.iconst 0, 1) := by decide +kernel
theorem dX13_taughtNext_14 : decode cX13_taughtNext 14 = .ok (.istore_n 3, 1) := by decide +kernel
theorem dX13_taughtNext_15 : decode cX13_taughtNext 15 = .ok (.iload_n 3, 1) := by decide +kernel
theorem dX13_taughtNext_16 : decode cX13_taughtNext 16 = .ok (.aload_n 0, 1) := by decide +kernel
theorem dX13_taughtNext_17 : decode cX13_taughtNext 17 = .ok (.invokevirtual 398, 3) := by decide +kernel
theorem dX13_taughtNext_20 : decode cX13_taughtNext 20 = .ok (.if_icmp .ge 73, 3) := by decide +kernel
theorem dX13_taughtNext_23 : decode cX13_taughtNext 23 = .ok (.aload_n 0, 1) := by decide +kernel
theorem dX13_taughtNext_24 : decode cX13_taughtNext 24 = .ok (.iload_n 1, 1) := by decide +kernel
theorem dX13_taughtNext_25 : decode cX13_taughtNext 25 = .ok (.iload_n 3, 1) := by decide +kernel
theorem dX13_taughtNext_26 : decode cX13_taughtNext 26 = .ok (.invokevirtual 430, 3) := by decide +kernel
theorem dX13_taughtNext_29 : decode cX13_taughtNext 29 = .ok (.istore 4, 2) := by decide +kernel
theorem dX13_taughtNext_31 : decode cX13_taughtNext 31 = .ok (.aload_n 0, 1) := by decide +kernel
theorem dX13_taughtNext_32 : decode cX13_taughtNext 32 = .ok (.iload_n 2, 1) := by decide +kernel
theorem dX13_taughtNext_33 : decode cX13_taughtNext 33 = .ok (.iload_n 3, 1) := by decide +kernel
theorem dX13_taughtNext_34 : decode cX13_taughtNext 34 = .ok (.invokevirtual 430, 3) := by decide +kernel
theorem dX13_taughtNext_37 : decode cX13_taughtNext 37 = .ok (.istore 5, 2) := by decide +kernel
theorem dX13_taughtNext_39 : decode cX13_taughtNext 39 = .ok (.iload 5, 2) := by decide +kernel
theorem dX13_taughtNext_41 : decode cX13_taughtNext 41 = .ok (.ifCond .eq 46, 3) := by decide +kernel
theorem dX13_taughtNext_44 : decode cX13_taughtNext 44 = .ok (.iload 4, 2) := by decide +kernel
theorem dX13_taughtNext_46 : decode cX13_taughtNext 46 = .ok (.iconst 1, 1) := by decide +kernel
theorem dX13_taughtNext_47 : decode cX13_taughtNext 47 = .ok (.if_icmp .eq 40, 3) := by decide +kernel
theorem dX13_taughtNext_50 : decode cX13_taughtNext 50 = .ok (.iload 4, 2) := by decide +kernel
theorem dX13_taughtNext_52 : decode cX13_taughtNext 52 = .ok (.iconst 2, 1) := by decide +kernel
theorem dX13_taughtNext_53 : decode cX13_taughtNext 53 = .ok (.if_icmp .ne 12, 3) := by decide +kernel
theorem dX13_taughtNext_56 : decode cX13_taughtNext 56 = .ok (.iload 5, 2) := by decide +kernel
theorem dX13_taughtNext_58 : decode cX13_taughtNext 58 = .ok (.iconst 2, 1) := by decide +kernel
theorem dX13_taughtNext_59 : decode cX13_taughtNext 59 = .ok (.if_icmp .ne 6, 3) := by decide +kernel
theorem dX13_taughtNext_62 : decode cX13_taughtNext 62 = .ok (.goto 25, 3) := by decide +kernel
theorem dX13_taughtNext_65 : decode cX13_taughtNext 65 = .ok (.aload_n 0, 1) := by decide +kernel
theorem dX13_taughtNext_66 : decode cX13_taughtNext 66 = .ok (.getfield 130, 3) := by decide +kernel
theorem dX13_taughtNext_69 : decode cX13_taughtNext 69 = .ok (.iconst 3, 1) := by decide +kernel
theorem dX13_taughtNext_70 : decode cX13_taughtNext 70 = .ok (.iaload, 1) := by decide +kernel
theorem dX13_taughtNext_71 : decode cX13_taughtNext 71 = .ok (.iconst (-1), 1) := by decide +kernel
theorem dX13_taughtNext_72 : decode cX13_taughtNext 72 = .ok (.if_icmp .eq 13, 3) := by decide +kernel
theorem dX13_taughtNext_75 : decode cX13_taughtNext 75 = .ok (.aload_n 0, 1) := by decide +kernel
theorem dX13_taughtNext_76 : decode cX13_taughtNext 76 = .ok (.iconst 0, 1) := by decide +kernel
theorem dX13_taughtNext_77 : decode cX13_taughtNext 77 = .ok (.iload_n 1, 1) := by decide +kernel
theorem dX13_taughtNext_78 : decode cX13_taughtNext 78 = .ok (.iload_n 3, 1) := by decide +kernel
theorem dX13_taughtNext_79 : decode cX13_taughtNext 79 = .ok (.invokevirtual 433, 3) := by decide +kernel
theorem dX13_taughtNext_82 : decode cX13_taughtNext 82 = .ok (.ifCond .eq 5, 3) := by decide +kernel
theorem dX13_taughtNext_85 : decode cX13_taughtNext 85 = .ok (.iload_n 3, 1) := by decide +kernel
theorem dX13_taughtNext_86 : decode cX13_taughtNext 86 = .ok (.ireturn, 1) := by decide +kernel
theorem dX13_taughtNext_87 : decode cX13_taughtNext 87 = .ok (.iinc 3 1, 3) := by decide +kernel
theorem dX13_taughtNext_90 : decode cX13_taughtNext 90 = .ok (.goto (-75), 3) := by decide +kernel
theorem dX13_taughtNext_93 : decode cX13_taughtNext 93 = .ok (.iconst (-1), 1) := by decide +kernel
theorem dX13_taughtNext_94 : decode cX13_taughtNext 94 = .ok (.ireturn, 1) := by decide +kernel
theorem bX13_taughtNext_0 {d : Nat}  {v1 : Int32} {I : Ii} {J : Jj} {K : KI}
    (h : CalI wM d mX13_masterOf [.ref (0), .int (v1)] I J (fun x3 I1 J2 => (((¬ x3 = ((-1))) → (GoI wM (d + 1) mX13_taughtNext 15 [(0, .ref (0)), (1, .int (v1)), (2, .int (x3)), (3, .int (0))] [] I1 J2 K)) ∧ ((x3 = ((-1))) → (K ((-1)) I1 J2))))) :
    GoI wM (d + 1) mX13_taughtNext 0 [(0, .ref (0)), (1, .int (v1))] [] I J K :=
  (g_aload_n dX13_taughtNext_0 0 0 rfl rfl (g_iload_n dX13_taughtNext_1 1 1 rfl rfl (g_callvI dX13_taughtNext_2 ml_X13_410 md_X13_masterOf mv_X13_masterOf obM_0 rfl rfl rfl (Nat.le_of_ble_eq_true rfl) (CalI.mono h (fun x3 I1 J2 h5 => (g_istore_n dX13_taughtNext_5 rfl (by decide) rfl (g_iload_n dX13_taughtNext_6 0 2 rfl rfl (g_iconst dX13_taughtNext_7 kc_n1 (g_icmp_ne dX13_taughtNext_8 rfl (fun q4 => (g_iconst dX13_taughtNext_13 kc_0 (g_istore_n dX13_taughtNext_14 rfl (by decide) rfl (g_sub [2, 3, 1, 0] rfl (h5.1 q4))))) (fun q4 => (g_iconst dX13_taughtNext_11 kc_n1 (g_ireturn dX13_taughtNext_12 rfl ⟨_, rfl, (h5.2 q4)⟩))))))))))))
theorem bX13_taughtNext_15 {d : Nat}  {v1 : Int32} {v2 : Int32} {v3 : Int32} {I : Ii} {J : Jj} {K : KI}
    (h : CalI wM d mX13_factMany [.ref (0)] I J (fun x3 I1 J2 => (((x3 ≤ v3) → (K ((-1)) I1 J2)) ∧ ((¬ x3 ≤ v3) → (CalI wM d mX13_isOf [.ref (0), .int (v1), .int (v3)] I1 J2 (fun x7 I5 J6 => (CalI wM d mX13_isOf [.ref (0), .int (v2), .int (v3)] I5 J6 (fun x10 I8 J9 => (((x10 = 0) → (GoI wM (d + 1) mX13_taughtNext 15 [(0, .ref (0)), (1, .int (v1)), (2, .int (v2)), (3, .int (v3 + 1))] [] I8 J9 K)) ∧ ((¬ x10 = 0) → (((x7 = 1) → (GoI wM (d + 1) mX13_taughtNext 15 [(0, .ref (0)), (1, .int (v1)), (2, .int (v2)), (3, .int (v3 + 1))] [] I8 J9 K)) ∧ ((¬ x7 = 1) → (((¬ x7 = 2) → ((((I8 39 (3 : Int32).toNatClampNeg) = ((-1))) → (K (v3) I8 J9)) ∧ ((¬ (I8 39 (3 : Int32).toNatClampNeg) = ((-1))) → (CalI wM d mX13_holds [.ref (0), .int (0), .int (v1), .int (v3)] I8 J9 (fun x18 I16 J17 => (((x18 = 0) → (GoI wM (d + 1) mX13_taughtNext 15 [(0, .ref (0)), (1, .int (v1)), (2, .int (v2)), (3, .int (v3 + 1))] [] I16 J17 K)) ∧ ((¬ x18 = 0) → (K (v3) I16 J17)))))))) ∧ ((x7 = 2) → (((¬ x10 = 2) → ((((I8 39 (3 : Int32).toNatClampNeg) = ((-1))) → (K (v3) I8 J9)) ∧ ((¬ (I8 39 (3 : Int32).toNatClampNeg) = ((-1))) → (CalI wM d mX13_holds [.ref (0), .int (0), .int (v1), .int (v3)] I8 J9 (fun x26 I24 J25 => (((x26 = 0) → (GoI wM (d + 1) mX13_taughtNext 15 [(0, .ref (0)), (1, .int (v1)), (2, .int (v2)), (3, .int (v3 + 1))] [] I24 J25 K)) ∧ ((¬ x26 = 0) → (K (v3) I24 J25)))))))) ∧ ((x10 = 2) → (GoI wM (d + 1) mX13_taughtNext 15 [(0, .ref (0)), (1, .int (v1)), (2, .int (v2)), (3, .int (v3 + 1))] [] I8 J9 K))))))))))))))))) :
    GoI wM (d + 1) mX13_taughtNext 15 [(0, .ref (0)), (1, .int (v1)), (2, .int (v2)), (3, .int (v3))] [] I J K :=
  (g_iload_n dX13_taughtNext_15 3 3 rfl rfl (g_aload_n dX13_taughtNext_16 0 0 rfl rfl (g_callvI dX13_taughtNext_17 ml_X13_398 md_X13_factMany mv_X13_factMany obM_0 rfl rfl rfl (Nat.le_of_ble_eq_true rfl) (CalI.mono h (fun x3 I1 J2 h31 => (g_icmp_ge dX13_taughtNext_20 rfl (fun q4 => (g_iconst dX13_taughtNext_93 kc_n1 (g_ireturn dX13_taughtNext_94 rfl ⟨_, rfl, (h31.1 q4)⟩))) (fun q4 => (g_aload_n dX13_taughtNext_23 0 0 rfl rfl (g_iload_n dX13_taughtNext_24 1 1 rfl rfl (g_iload_n dX13_taughtNext_25 3 3 rfl rfl (g_callvI dX13_taughtNext_26 ml_X13_430 md_X13_isOf mv_X13_isOf obM_0 rfl rfl rfl (Nat.le_of_ble_eq_true rfl) (CalI.mono (h31.2 q4) (fun x7 I5 J6 h30 => (g_istore dX13_taughtNext_29 (by decide) rfl (g_aload_n dX13_taughtNext_31 1 0 rfl rfl (g_iload_n dX13_taughtNext_32 3 2 rfl rfl (g_iload_n dX13_taughtNext_33 4 3 rfl rfl (g_callvI dX13_taughtNext_34 ml_X13_430 md_X13_isOf mv_X13_isOf obM_0 rfl rfl rfl (Nat.le_of_ble_eq_true rfl) (CalI.mono h30 (fun x10 I8 J9 h29 => (g_istore dX13_taughtNext_37 (by decide) rfl (g_iload dX13_taughtNext_39 0 rfl (g_if_eq dX13_taughtNext_41 rfl (fun q11 => (g_iinc dX13_taughtNext_87 5 rfl rfl (by decide) rfl (g_goto dX13_taughtNext_90 rfl (g_sub [3, 4, 5, 0] rfl (h29.1 q11))))) (fun q11 => (g_iload dX13_taughtNext_44 1 rfl (g_iconst dX13_taughtNext_46 kc_1 (g_icmp_eq dX13_taughtNext_47 rfl (fun q12 => (g_iinc dX13_taughtNext_87 5 rfl rfl (by decide) rfl (g_goto dX13_taughtNext_90 rfl (g_sub [3, 4, 5, 0] rfl ((h29.2 q11).1 q12))))) (fun q12 => (g_iload dX13_taughtNext_50 1 rfl (g_iconst dX13_taughtNext_52 kc_2 (g_icmp_ne dX13_taughtNext_53 rfl (fun q13 => (g_aload_n dX13_taughtNext_65 2 0 rfl rfl (g_getP dX13_taughtNext_66 fl_X13_130 rfl obM_0 rfl (g_iconst dX13_taughtNext_69 kc_3 (g_iald dX13_taughtNext_70 arM_39 (by unfold vp_in; decide) (g_iconst dX13_taughtNext_71 kc_n1 (g_icmp_eq dX13_taughtNext_72 rfl (fun q15 => (g_iload_n dX13_taughtNext_85 5 3 rfl rfl (g_ireturn dX13_taughtNext_86 rfl ⟨_, rfl, ((((h29.2 q11).2 q12).1 q13).1 q15)⟩))) (fun q15 => (g_aload_n dX13_taughtNext_75 2 0 rfl rfl (g_iconst dX13_taughtNext_76 kc_0 (g_iload_n dX13_taughtNext_77 3 1 rfl rfl (g_iload_n dX13_taughtNext_78 5 3 rfl rfl (g_callvI dX13_taughtNext_79 ml_X13_433 md_X13_holds mv_X13_holds obM_0 rfl rfl rfl (Nat.le_of_ble_eq_true rfl) (CalI.mono ((((h29.2 q11).2 q12).1 q13).2 q15) (fun x18 I16 J17 h20 => (g_if_eq dX13_taughtNext_82 rfl (fun q19 => (g_iinc dX13_taughtNext_87 5 rfl rfl (by decide) rfl (g_goto dX13_taughtNext_90 rfl (g_sub [3, 4, 5, 0] rfl (h20.1 q19))))) (fun q19 => (g_iload_n dX13_taughtNext_85 5 3 rfl rfl (g_ireturn dX13_taughtNext_86 rfl ⟨_, rfl, (h20.2 q19)⟩))))))))))))))))))) (fun q13 => (g_iload dX13_taughtNext_56 0 rfl (g_iconst dX13_taughtNext_58 kc_2 (g_icmp_ne dX13_taughtNext_59 rfl (fun q21 => (g_aload_n dX13_taughtNext_65 2 0 rfl rfl (g_getP dX13_taughtNext_66 fl_X13_130 rfl obM_0 rfl (g_iconst dX13_taughtNext_69 kc_3 (g_iald dX13_taughtNext_70 arM_39 (by unfold vp_in; decide) (g_iconst dX13_taughtNext_71 kc_n1 (g_icmp_eq dX13_taughtNext_72 rfl (fun q23 => (g_iload_n dX13_taughtNext_85 5 3 rfl rfl (g_ireturn dX13_taughtNext_86 rfl ⟨_, rfl, (((((h29.2 q11).2 q12).2 q13).1 q21).1 q23)⟩))) (fun q23 => (g_aload_n dX13_taughtNext_75 2 0 rfl rfl (g_iconst dX13_taughtNext_76 kc_0 (g_iload_n dX13_taughtNext_77 3 1 rfl rfl (g_iload_n dX13_taughtNext_78 5 3 rfl rfl (g_callvI dX13_taughtNext_79 ml_X13_433 md_X13_holds mv_X13_holds obM_0 rfl rfl rfl (Nat.le_of_ble_eq_true rfl) (CalI.mono (((((h29.2 q11).2 q12).2 q13).1 q21).2 q23) (fun x26 I24 J25 h28 => (g_if_eq dX13_taughtNext_82 rfl (fun q27 => (g_iinc dX13_taughtNext_87 5 rfl rfl (by decide) rfl (g_goto dX13_taughtNext_90 rfl (g_sub [3, 4, 5, 0] rfl (h28.1 q27))))) (fun q27 => (g_iload_n dX13_taughtNext_85 5 3 rfl rfl (g_ireturn dX13_taughtNext_86 rfl ⟨_, rfl, (h28.2 q27)⟩))))))))))))))))))) (fun q21 => (g_goto dX13_taughtNext_62 rfl (g_iinc dX13_taughtNext_87 5 rfl rfl (by decide) rfl (g_goto dX13_taughtNext_90 rfl (g_sub [3, 4, 5, 0] rfl ((((h29.2 q11).2 q12).2 q13).2 q21)))))))))))))))))))))))))))))))))))))))))
theorem dX13_isOf_0 : decode cX13_isOf 0 = .ok (.aload_n 0, 1) := by decide +kernel
theorem dX13_isOf_1 : decode cX13_isOf 1 = .ok (.iload_n 1, 1) := by decide +kernel
theorem dX13_isOf_2 : decode cX13_isOf 2 = .ok (.invokevirtual 404, 3) := by decide +kernel
theorem dX13_isOf_5 : decode cX13_isOf 5 = .ok (.iload_n 2, 1) := by decide +kernel
theorem dX13_isOf_6 : decode cX13_isOf 6 = .ok (.ishr, 1) := by decide +kernel
theorem dX13_isOf_7 : decode cX13_isOf 7 = .ok (.iconst 1, 1) := by decide +kernel
theorem dX13_isOf_8 : decode cX13_isOf 8 = .ok (.iand, 1) := by decide +kernel
theorem dX13_isOf_9 : decode cX13_isOf 9 = .ok (.iconst 1, 1) := by decide +kernel
theorem dX13_isOf_10 : decode cX13_isOf 10 = .ok (.if_icmp .ne 7, 3) := by decide +kernel
theorem dX13_isOf_13 : decode cX13_isOf 13 = .ok (.iconst 1, 1) := by decide +kernel
theorem dX13_isOf_14 : decode cX13_isOf 14 = .ok (.goto 21, 3) := by decide +kernel
theorem dX13_isOf_17 : decode cX13_isOf 17 = .ok (.aload_n 0, 1) := by decide +kernel
theorem dX13_isOf_18 : decode cX13_isOf 18 = .ok (.iload_n 1, 1) := by decide +kernel
theorem dX13_isOf_19 : decode cX13_isOf 19 = .ok (.invokevirtual 407, 3) := by decide +kernel
theorem dX13_isOf_22 : decode cX13_isOf 22 = .ok (.iload_n 2, 1) := by decide +kernel
theorem dX13_isOf_23 : decode cX13_isOf 23 = .ok (.ishr, 1) := by decide +kernel
theorem dX13_isOf_24 : decode cX13_isOf 24 = .ok (.iconst 1, 1) := by decide +kernel
theorem dX13_isOf_25 : decode cX13_isOf 25 = .ok (.iand, 1) := by decide +kernel
theorem dX13_isOf_26 : decode cX13_isOf 26 = .ok (.iconst 1, 1) := by decide +kernel
theorem dX13_isOf_27 : decode cX13_isOf 27 = .ok (.if_icmp .ne 7, 3) := by decide +kernel
theorem dX13_isOf_30 : decode cX13_isOf 30 = .ok (.iconst 2, 1) := by decide +kernel
theorem dX13_isOf_31 : decode cX13_isOf 31 = .ok (.goto 4, 3) := by decide +kernel
theorem dX13_isOf_34 : decode cX13_isOf 34 = .ok (.iconst 0, 1) := by decide +kernel
theorem dX13_isOf_35 : decode cX13_isOf 35 = .ok (.ireturn, 1) := by decide +kernel
theorem bX13_isOf_0 {d : Nat}  {v1 : Int32} {v2 : Int32} {I : Ii} {J : Jj} {K : KI}
    (h : CalI wM d mX13_rightOf [.ref (0), .int (v1)] I J (fun x3 I1 J2 => (((¬ ((x3 >>> (v2 &&& 31)) &&& 1) = 1) → (CalI wM d mX13_wrongOf [.ref (0), .int (v1)] I1 J2 (fun x7 I5 J6 => (((¬ ((x7 >>> (v2 &&& 31)) &&& 1) = 1) → (K (0) I5 J6)) ∧ ((((x7 >>> (v2 &&& 31)) &&& 1) = 1) → (K (2) I5 J6)))))) ∧ ((((x3 >>> (v2 &&& 31)) &&& 1) = 1) → (K (1) I1 J2))))) :
    GoI wM (d + 1) mX13_isOf 0 [(0, .ref (0)), (1, .int (v1)), (2, .int (v2))] [] I J K :=
  (g_aload_n dX13_isOf_0 0 0 rfl rfl (g_iload_n dX13_isOf_1 1 1 rfl rfl (g_callvI dX13_isOf_2 ml_X13_404 md_X13_rightOf mv_X13_rightOf obM_0 rfl rfl rfl (Nat.le_of_ble_eq_true rfl) (CalI.mono h (fun x3 I1 J2 h10 => (g_iload_n dX13_isOf_5 2 2 rfl rfl (g_ishr dX13_isOf_6 (g_iconst dX13_isOf_7 kc_1 (g_iand dX13_isOf_8 (g_iconst dX13_isOf_9 kc_1 (g_icmp_ne dX13_isOf_10 rfl (fun q4 => (g_aload_n dX13_isOf_17 0 0 rfl rfl (g_iload_n dX13_isOf_18 1 1 rfl rfl (g_callvI dX13_isOf_19 ml_X13_407 md_X13_wrongOf mv_X13_wrongOf obM_0 rfl rfl rfl (Nat.le_of_ble_eq_true rfl) (CalI.mono (h10.1 q4) (fun x7 I5 J6 h9 => (g_iload_n dX13_isOf_22 2 2 rfl rfl (g_ishr dX13_isOf_23 (g_iconst dX13_isOf_24 kc_1 (g_iand dX13_isOf_25 (g_iconst dX13_isOf_26 kc_1 (g_icmp_ne dX13_isOf_27 rfl (fun q8 => (g_iconst dX13_isOf_34 kc_0 (g_ireturn dX13_isOf_35 rfl ⟨_, rfl, (h9.1 q8)⟩))) (fun q8 => (g_iconst dX13_isOf_30 kc_2 (g_goto dX13_isOf_31 rfl (g_ireturn dX13_isOf_35 rfl ⟨_, rfl, (h9.2 q8)⟩)))))))))))))))) (fun q4 => (g_iconst dX13_isOf_13 kc_1 (g_goto dX13_isOf_14 rfl (g_ireturn dX13_isOf_35 rfl ⟨_, rfl, (h10.2 q4)⟩)))))))))))))))
theorem dX13_holds_0 : decode cX13_holds 0 = .ok (.aload_n 0, 1) := by decide +kernel
theorem dX13_holds_1 : decode cX13_holds 1 = .ok (.iload_n 2, 1) := by decide +kernel
theorem dX13_holds_2 : decode cX13_holds 2 = .ok (.putfield 413, 3) := by decide +kernel
theorem dX13_holds_5 : decode cX13_holds 5 = .ok (.aload_n 0, 1) := by decide +kernel
theorem dX13_holds_6 : decode cX13_holds 6 = .ok (.iload_n 1, 1) := by decide +kernel
theorem dX13_holds_7 : decode cX13_holds 7 = .ok (.iconst 2, 1) := by decide +kernel
theorem dX13_holds_8 : decode cX13_holds 8 = .ok (.if_icmp .ne 7, 3) := by decide +kernel
theorem dX13_holds_11 : decode cX13_holds 11 = .ok (.iconst 1, 1) := by decide +kernel
theorem dX13_holds_12 : decode cX13_holds 12 = .ok (.goto 4, 3) := by decide +kernel
theorem dX13_holds_15 : decode cX13_holds 15 = .ok (.iconst 0, 1) := by decide +kernel
theorem dX13_holds_16 : decode cX13_holds 16 = .ok (.putfield 312, 3) := by decide +kernel
theorem dX13_holds_19 : decode cX13_holds 19 = .ok (.aload_n 0, 1) := by decide +kernel
theorem dX13_holds_20 : decode cX13_holds 20 = .ok (.iconst 0, 1) := by decide +kernel
theorem dX13_holds_21 : decode cX13_holds 21 = .ok (.putfield 416, 3) := by decide +kernel
theorem dX13_holds_24 : decode cX13_holds 24 = .ok (.aload_n 0, 1) := by decide +kernel
theorem dX13_holds_25 : decode cX13_holds 25 = .ok (.getfield 130, 3) := by decide +kernel
theorem dX13_holds_28 : decode cX13_holds 28 = .ok (.iconst 3, 1) := by decide +kernel
theorem dX13_holds_29 : decode cX13_holds 29 = .ok (.iload_n 1, 1) := by decide +kernel
theorem dX13_holds_30 : decode cX13_holds 30 = .ok (.iadd, 1) := by decide +kernel
theorem dX13_holds_31 : decode cX13_holds 31 = .ok (.iaload, 1) := by decide +kernel
theorem dX13_holds_32 : decode cX13_holds 32 = .ok (.istore 4, 2) := by decide +kernel
theorem dX13_holds_34 : decode cX13_holds 34 = .ok (.iload 4, 2) := by decide +kernel
theorem dX13_holds_36 : decode cX13_holds 36 = .ok (.aload_n 0, 1) := by decide +kernel
theorem dX13_holds_37 : decode cX13_holds 37 = .ok (.getfield 133, 3) := by decide +kernel
theorem dX13_holds_40 : decode cX13_holds 40 = .ok (.iconst 3, 1) := by decide +kernel
theorem dX13_holds_41 : decode cX13_holds 41 = .ok (.iload_n 1, 1) := by decide +kernel
theorem dX13_holds_42 : decode cX13_holds 42 = .ok (.iadd, 1) := by decide +kernel
theorem dX13_holds_43 : decode cX13_holds 43 = .ok (.iaload, 1) := by decide +kernel
theorem dX13_holds_44 : decode cX13_holds 44 = .ok (.if_icmp .ge 123, 3) := by decide +kernel
theorem dX13_holds_47 : decode cX13_holds 47 = .ok (.aload_n 0, 1) := by decide +kernel
theorem dX13_holds_48 : decode cX13_holds 48 = .ok (.getfield 136, 3) := by decide +kernel
theorem dX13_holds_51 : decode cX13_holds 51 = .ok (.sipush 1600, 3) := by decide +kernel
theorem dX13_holds_54 : decode cX13_holds 54 = .ok (.iload 4, 2) := by decide +kernel
theorem dX13_holds_56 : decode cX13_holds 56 = .ok (.iadd, 1) := by decide +kernel
theorem dX13_holds_57 : decode cX13_holds 57 = .ok (.iaload, 1) := by decide +kernel
theorem dX13_holds_58 : decode cX13_holds 58 = .ok (.istore 5, 2) := by decide +kernel
theorem dX13_holds_60 : decode cX13_holds 60 = .ok (.iload 5, 2) := by decide +kernel
theorem dX13_holds_62 : decode cX13_holds 62 = .ok (.sipush 1000, 3) := by decide +kernel
theorem dX13_holds_65 : decode cX13_holds 65 = .ok (.if_icmp .lt 17, 3) := by decide +kernel
theorem dX13_holds_68 : decode cX13_holds 68 = .ok (.aload_n 0, 1) := by decide +kernel
theorem dX13_holds_69 : decode cX13_holds 69 = .ok (.iload 5, 2) := by decide +kernel
theorem dX13_holds_71 : decode cX13_holds 71 = .ok (.sipush 1000, 3) := by decide +kernel
theorem dX13_holds_74 : decode cX13_holds 74 = .ok (.isub, 1) := by decide +kernel
theorem dX13_holds_75 : decode cX13_holds 75 = .ok (.i2l, 1) := by decide +kernel
theorem dX13_holds_76 : decode cX13_holds 76 = .ok (.invokevirtual 419, 3) := by decide +kernel
theorem dX13_holds_79 : decode cX13_holds 79 = .ok (.goto 82, 3) := by decide +kernel
theorem dX13_holds_82 : decode cX13_holds 82 = .ok (.iload 5, 2) := by decide +kernel
theorem dX13_holds_84 : decode cX13_holds 84 = .ok (.bipush 40, 2) := by decide +kernel
theorem dX13_holds_86 : decode cX13_holds 86 = .ok (.if_icmp .lt 20, 3) := by decide +kernel
theorem dX13_holds_89 : decode cX13_holds 89 = .ok (.aload_n 0, 1) := by decide +kernel
theorem dX13_holds_90 : decode cX13_holds 90 = .ok (.aload_n 0, 1) := by decide +kernel
theorem dX13_holds_91 : decode cX13_holds 91 = .ok (.iload 5, 2) := by decide +kernel
theorem dX13_holds_93 : decode cX13_holds 93 = .ok (.bipush 40, 2) := by decide +kernel
theorem dX13_holds_95 : decode cX13_holds 95 = .ok (.isub, 1) := by decide +kernel
theorem dX13_holds_96 : decode cX13_holds 96 = .ok (.iload_n 3, 1) := by decide +kernel
theorem dX13_holds_97 : decode cX13_holds 97 = .ok (.invokevirtual 423, 3) := by decide +kernel
theorem dX13_holds_100 : decode cX13_holds 100 = .ok (.invokevirtual 419, 3) := by decide +kernel
theorem dX13_holds_103 : decode cX13_holds 103 = .ok (.goto 58, 3) := by decide +kernel
theorem dX13_holds_106 : decode cX13_holds 106 = .ok (.iload 5, 2) := by decide +kernel
theorem dX13_holds_108 : decode cX13_holds 108 = .ok (.bipush 13, 2) := by decide +kernel
theorem dX13_holds_110 : decode cX13_holds 110 = .ok (.if_icmp .ne 11, 3) := by decide +kernel
theorem dX13_holds_113 : decode cX13_holds 113 = .ok (.aload_n 0, 1) := by decide +kernel
theorem dX13_holds_114 : decode cX13_holds 114 = .ok (.lconst 1, 1) := by decide +kernel
theorem dX13_holds_115 : decode cX13_holds 115 = .ok (.invokevirtual 419, 3) := by decide +kernel
theorem dX13_holds_118 : decode cX13_holds 118 = .ok (.goto 43, 3) := by decide +kernel
theorem dX13_holds_121 : decode cX13_holds 121 = .ok (.iload 5, 2) := by decide +kernel
theorem dX13_holds_123 : decode cX13_holds 123 = .ok (.bipush 12, 2) := by decide +kernel
theorem dX13_holds_125 : decode cX13_holds 125 = .ok (.if_icmp .ne 30, 3) := by decide +kernel
theorem dX13_holds_128 : decode cX13_holds 128 = .ok (.aload_n 0, 1) := by decide +kernel
theorem dX13_holds_129 : decode cX13_holds 129 = .ok (.getfield 248, 3) := by decide +kernel
theorem dX13_holds_132 : decode cX13_holds 132 = .ok (.aload_n 0, 1) := by decide +kernel
theorem dX13_holds_133 : decode cX13_holds 133 = .ok (.getfield 416, 3) := by decide +kernel
theorem dX13_holds_136 : decode cX13_holds 136 = .ok (.iconst 1, 1) := by decide +kernel
theorem dX13_holds_137 : decode cX13_holds 137 = .ok (.isub, 1) := by decide +kernel
theorem dX13_holds_138 : decode cX13_holds 138 = .ok (.lconst 1, 1) := by decide +kernel
theorem dX13_holds_139 : decode cX13_holds 139 = .ok (.aload_n 0, 1) := by decide +kernel
theorem dX13_holds_140 : decode cX13_holds 140 = .ok (.getfield 248, 3) := by decide +kernel
theorem dX13_holds_143 : decode cX13_holds 143 = .ok (.aload_n 0, 1) := by decide +kernel
theorem dX13_holds_144 : decode cX13_holds 144 = .ok (.getfield 416, 3) := by decide +kernel
theorem dX13_holds_147 : decode cX13_holds 147 = .ok (.iconst 1, 1) := by decide +kernel
theorem dX13_holds_148 : decode cX13_holds 148 = .ok (.isub, 1) := by decide +kernel
theorem dX13_holds_149 : decode cX13_holds 149 = .ok (.laload, 1) := by decide +kernel
theorem dX13_holds_150 : decode cX13_holds 150 = .ok (.lsub, 1) := by decide +kernel
theorem dX13_holds_151 : decode cX13_holds 151 = .ok (.lastore, 1) := by decide +kernel
theorem dX13_holds_152 : decode cX13_holds 152 = .ok (.goto 9, 3) := by decide +kernel
theorem dX13_holds_155 : decode cX13_holds 155 = .ok (.aload_n 0, 1) := by decide +kernel
theorem dX13_holds_156 : decode cX13_holds 156 = .ok (.iload 5, 2) := by decide +kernel
theorem dX13_holds_158 : decode cX13_holds 158 = .ok (.invokevirtual 427, 3) := by decide +kernel
theorem dX13_holds_161 : decode cX13_holds 161 = .ok (.iinc 4 1, 3) := by decide +kernel
theorem dX13_holds_164 : decode cX13_holds 164 = .ok (.goto (-130), 3) := by decide +kernel
theorem dX13_holds_167 : decode cX13_holds 167 = .ok (.aload_n 0, 1) := by decide +kernel
theorem dX13_holds_168 : decode cX13_holds 168 = .ok (.getfield 248, 3) := by decide +kernel
theorem dX13_holds_171 : decode cX13_holds 171 = .ok (.iconst 0, 1) := by decide +kernel
theorem dX13_holds_172 : decode cX13_holds 172 = .ok (.laload, 1) := by decide +kernel
theorem dX13_holds_173 : decode cX13_holds 173 = .ok (.lconst 1, 1) := by decide +kernel
theorem dX13_holds_174 : decode cX13_holds 174 = .ok (.lcmp, 1) := by decide +kernel
theorem dX13_holds_175 : decode cX13_holds 175 = .ok (.ifCond .ne 7, 3) := by decide +kernel
theorem dX13_holds_178 : decode cX13_holds 178 = .ok (.iconst 1, 1) := by decide +kernel
theorem dX13_holds_179 : decode cX13_holds 179 = .ok (.goto 4, 3) := by decide +kernel
theorem dX13_holds_182 : decode cX13_holds 182 = .ok (.iconst 0, 1) := by decide +kernel
theorem dX13_holds_183 : decode cX13_holds 183 = .ok (.ireturn, 1) := by decide +kernel
theorem bX13_holds_0 {d : Nat}  {v1 : Int32} {v2 : Int32} {v3 : Int32} {I : Ii} {J : Jj} {K : KI}
    (h : ∀ I1 : Ii, I1 = u2 I 0 55 v2 → (((¬ v1 = 2) → (∀ I4 : Ii, I4 = u2 (u2 I1 0 52 0) 0 100 0 → (vp_in (3 + v1) 6 ∧ (GoI wM (d + 1) mX13_holds 34 [(0, .ref (0)), (1, .int (v1)), (3, .int (v3)), (4, .int (I4 39 (3 + v1).toNatClampNeg))] [] I4 J K)))) ∧ ((v1 = 2) → (∀ I7 : Ii, I7 = u2 (u2 I1 0 52 1) 0 100 0 → (vp_in (3 + v1) 6 ∧ (GoI wM (d + 1) mX13_holds 34 [(0, .ref (0)), (1, .int (v1)), (3, .int (v3)), (4, .int (I7 39 (3 + v1).toNatClampNeg))] [] I7 J K)))))) :
    GoI wM (d + 1) mX13_holds 0 [(0, .ref (0)), (1, .int (v1)), (2, .int (v2)), (3, .int (v3))] [] I J K :=
  (g_aload_n dX13_holds_0 0 0 rfl rfl (g_iload_n dX13_holds_1 2 2 rfl rfl (g_putI dX13_holds_2 fl_X13_413 rfl rfl obM_0 (g_aload_n dX13_holds_5 0 0 rfl rfl (g_iload_n dX13_holds_6 1 1 rfl rfl (g_iconst dX13_holds_7 kc_2 (g_icmp_ne dX13_holds_8 rfl (fun q2 => (g_iconst dX13_holds_15 kc_0 (g_putI dX13_holds_16 fl_X13_312 rfl rfl obM_0 (g_aload_n dX13_holds_19 0 0 rfl rfl (g_iconst dX13_holds_20 kc_0 (g_putI dX13_holds_21 fl_X13_416 rfl rfl obM_0 (g_aload_n dX13_holds_24 0 0 rfl rfl (g_getP dX13_holds_25 fl_X13_130 rfl obM_0 rfl (g_iconst dX13_holds_28 kc_3 (g_iload_n dX13_holds_29 1 1 rfl rfl (g_iadd dX13_holds_30 (have b5 := (((h _ rfl).1 q2) _ rfl).1; g_iald dX13_holds_31 arM_39 b5 (g_istore dX13_holds_32 (by decide) rfl (g_sub [1, 2, 4, 0] rfl (((h _ rfl).1 q2) _ rfl).2)))))))))))))) (fun q2 => (g_iconst dX13_holds_11 kc_1 (g_goto dX13_holds_12 rfl (g_putI dX13_holds_16 fl_X13_312 rfl rfl obM_0 (g_aload_n dX13_holds_19 0 0 rfl rfl (g_iconst dX13_holds_20 kc_0 (g_putI dX13_holds_21 fl_X13_416 rfl rfl obM_0 (g_aload_n dX13_holds_24 0 0 rfl rfl (g_getP dX13_holds_25 fl_X13_130 rfl obM_0 rfl (g_iconst dX13_holds_28 kc_3 (g_iload_n dX13_holds_29 1 1 rfl rfl (g_iadd dX13_holds_30 (have b8 := (((h _ rfl).2 q2) _ rfl).1; g_iald dX13_holds_31 arM_39 b8 (g_istore dX13_holds_32 (by decide) rfl (g_sub [1, 2, 4, 0] rfl (((h _ rfl).2 q2) _ rfl).2))))))))))))))))))))))
theorem bX13_holds_34 {d : Nat}  {v1 : Int32} {v3 : Int32} {v4 : Int32} {I : Ii} {J : Jj} {K : KI}
    (h : vp_in (3 + v1) 6 ∧ ((((I 40 (3 + v1).toNatClampNeg) ≤ v4) → (((¬ (lg_cmp (J 77 (0 : Int32).toNatClampNeg) 1) = 0) → (K (0) I J)) ∧ (((lg_cmp (J 77 (0 : Int32).toNatClampNeg) 1) = 0) → (K (1) I J)))) ∧ ((¬ (I 40 (3 + v1).toNatClampNeg) ≤ v4) → (vp_in (1600 + v4) 3200 ∧ ((((I 41 (1600 + v4).toNatClampNeg) < 1000) → ((((I 41 (1600 + v4).toNatClampNeg) < 40) → (((¬ (I 41 (1600 + v4).toNatClampNeg) = 13) → (((¬ (I 41 (1600 + v4).toNatClampNeg) = 12) → (CalV wM d mX13_qJoins [.ref (0), .int (I 41 (1600 + v4).toNatClampNeg)] I J (fun I10 J11 => (GoI wM (d + 1) mX13_holds 34 [(0, .ref (0)), (1, .int (v1)), (3, .int (v3)), (4, .int (v4 + 1))] [] I10 J11 K)))) ∧ (((I 41 (1600 + v4).toNatClampNeg) = 12) → (vp_in ((I 0 100) - 1) 1700 ∧ (GoI wM (d + 1) mX13_holds 34 [(0, .ref (0)), (1, .int (v1)), (3, .int (v3)), (4, .int (v4 + 1))] [] I (w2 J 77 ((I 0 100) - 1).toNatClampNeg (1 - (J 77 ((I 0 100) - 1).toNatClampNeg))) K))))) ∧ (((I 41 (1600 + v4).toNatClampNeg) = 13) → (CalV wM d mX13_qPuts [.ref (0), .long (1)] I J (fun I15 J16 => (GoI wM (d + 1) mX13_holds 34 [(0, .ref (0)), (1, .int (v1)), (3, .int (v3)), (4, .int (v4 + 1))] [] I15 J16 K)))))) ∧ ((¬ (I 41 (1600 + v4).toNatClampNeg) < 40) → (CalL wM d mX13_qPartOf [.ref (0), .int ((I 41 (1600 + v4).toNatClampNeg) - 40), .int (v3)] I J (fun x20 I18 J19 => (CalV wM d mX13_qPuts [.ref (0), .long (x20)] I18 J19 (fun I21 J22 => (GoI wM (d + 1) mX13_holds 34 [(0, .ref (0)), (1, .int (v1)), (3, .int (v3)), (4, .int (v4 + 1))] [] I21 J22 K)))))))) ∧ ((¬ (I 41 (1600 + v4).toNatClampNeg) < 1000) → (CalV wM d mX13_qPuts [.ref (0), .long (((I 41 (1600 + v4).toNatClampNeg) - 1000).toInt64)] I J (fun I25 J26 => (GoI wM (d + 1) mX13_holds 34 [(0, .ref (0)), (1, .int (v1)), (3, .int (v3)), (4, .int (v4 + 1))] [] I25 J26 K))))))))) :
    GoI wM (d + 1) mX13_holds 34 [(0, .ref (0)), (1, .int (v1)), (3, .int (v3)), (4, .int (v4))] [] I J K :=
  (g_iload dX13_holds_34 3 rfl (g_aload_n dX13_holds_36 0 0 rfl rfl (g_getP dX13_holds_37 fl_X13_133 rfl obM_0 rfl (g_iconst dX13_holds_40 kc_3 (g_iload_n dX13_holds_41 1 1 rfl rfl (g_iadd dX13_holds_42 (have b1 := h.1; g_iald dX13_holds_43 arM_40 b1 (g_icmp_ge dX13_holds_44 rfl (fun q2 => (g_aload_n dX13_holds_167 0 0 rfl rfl (g_getP dX13_holds_168 fl_X13_248 rfl obM_0 rfl (g_iconst dX13_holds_171 kc_0 (g_lald dX13_holds_172 arM_77 (by unfold vp_in; decide) (g_lconst dX13_holds_173 kq_1 (g_lcmp dX13_holds_174 (g_if_ne dX13_holds_175 rfl (fun q4 => (g_iconst dX13_holds_182 kc_0 (g_zreturn dX13_holds_183 rfl (narZ (by decide)) ⟨_, rfl, ((h.2.1 q2).1 q4)⟩))) (fun q4 => (g_iconst dX13_holds_178 kc_1 (g_goto dX13_holds_179 rfl (g_zreturn dX13_holds_183 rfl (narZ (by decide)) ⟨_, rfl, ((h.2.1 q2).2 q4)⟩)))))))))))) (fun q2 => (g_aload_n dX13_holds_47 0 0 rfl rfl (g_getP dX13_holds_48 fl_X13_136 rfl obM_0 rfl (g_sipush dX13_holds_51 ks_1600 (g_iload dX13_holds_54 3 rfl (g_iadd dX13_holds_56 (have b5 := (h.2.2 q2).1; g_iald dX13_holds_57 arM_41 b5 (g_istore dX13_holds_58 (by decide) rfl (g_iload dX13_holds_60 0 rfl (g_sipush dX13_holds_62 ks_1000 (g_icmp_lt dX13_holds_65 rfl (fun q6 => (g_iload dX13_holds_82 0 rfl (g_bipush dX13_holds_84 kb_40 (g_icmp_lt dX13_holds_86 rfl (fun q7 => (g_iload dX13_holds_106 0 rfl (g_bipush dX13_holds_108 kb_13 (g_icmp_ne dX13_holds_110 rfl (fun q8 => (g_iload dX13_holds_121 0 rfl (g_bipush dX13_holds_123 kb_12 (g_icmp_ne dX13_holds_125 rfl (fun q9 => (g_aload_n dX13_holds_155 1 0 rfl rfl (g_iload dX13_holds_156 0 rfl (g_callvV dX13_holds_158 ml_X13_427 md_X13_qJoins mv_X13_qJoins obM_0 rfl rfl rfl (Nat.le_of_ble_eq_true rfl) (CalV.mono (((((h.2.2 q2).2.1 q6).1 q7).1 q8).1 q9) (fun I10 J11 h12 => (g_iinc dX13_holds_161 4 rfl rfl (by decide) rfl (g_goto dX13_holds_164 rfl (g_sub [2, 3, 4, 0] rfl h12))))))))) (fun q9 => (g_aload_n dX13_holds_128 1 0 rfl rfl (g_getP dX13_holds_129 fl_X13_248 rfl obM_0 rfl (g_aload_n dX13_holds_132 1 0 rfl rfl (g_getI dX13_holds_133 fl_X13_416 rfl obM_0 (g_iconst dX13_holds_136 kc_1 (g_isub dX13_holds_137 (g_lconst dX13_holds_138 kq_1 (g_aload_n dX13_holds_139 1 0 rfl rfl (g_getP dX13_holds_140 fl_X13_248 rfl obM_0 rfl (g_aload_n dX13_holds_143 1 0 rfl rfl (g_getI dX13_holds_144 fl_X13_416 rfl obM_0 (g_iconst dX13_holds_147 kc_1 (g_isub dX13_holds_148 (have b13 := (((((h.2.2 q2).2.1 q6).1 q7).1 q8).2 q9).1; g_lald dX13_holds_149 arM_77 b13 (g_lsub dX13_holds_150 (g_last dX13_holds_151 arM_77 b13 (g_goto dX13_holds_152 rfl (g_iinc dX13_holds_161 4 rfl rfl (by decide) rfl (g_goto dX13_holds_164 rfl (g_sub [2, 3, 4, 0] rfl (((((h.2.2 q2).2.1 q6).1 q7).1 q8).2 q9).2))))))))))))))))))))))))) (fun q8 => (g_aload_n dX13_holds_113 1 0 rfl rfl (g_lconst dX13_holds_114 kq_1 (g_callvV dX13_holds_115 ml_X13_419 md_X13_qPuts mv_X13_qPuts obM_0 rfl rfl rfl (Nat.le_of_ble_eq_true rfl) (CalV.mono ((((h.2.2 q2).2.1 q6).1 q7).2 q8) (fun I15 J16 h17 => (g_goto dX13_holds_118 rfl (g_iinc dX13_holds_161 4 rfl rfl (by decide) rfl (g_goto dX13_holds_164 rfl (g_sub [2, 3, 4, 0] rfl h17)))))))))))))) (fun q7 => (g_aload_n dX13_holds_89 1 0 rfl rfl (g_aload_n dX13_holds_90 1 0 rfl rfl (g_iload dX13_holds_91 0 rfl (g_bipush dX13_holds_93 kb_40 (g_isub dX13_holds_95 (g_iload_n dX13_holds_96 3 3 rfl rfl (g_callvL dX13_holds_97 ml_X13_423 md_X13_qPartOf mv_X13_qPartOf obM_0 rfl rfl rfl (Nat.le_of_ble_eq_true rfl) (CalL.mono (((h.2.2 q2).2.1 q6).2 q7) (fun x20 I18 J19 h24 => (g_callvV dX13_holds_100 ml_X13_419 md_X13_qPuts mv_X13_qPuts obM_0 rfl rfl rfl (Nat.le_of_ble_eq_true rfl) (CalV.mono h24 (fun I21 J22 h23 => (g_goto dX13_holds_103 rfl (g_iinc dX13_holds_161 4 rfl rfl (by decide) rfl (g_goto dX13_holds_164 rfl (g_sub [2, 3, 4, 0] rfl h23))))))))))))))))))))) (fun q6 => (g_aload_n dX13_holds_68 1 0 rfl rfl (g_iload dX13_holds_69 0 rfl (g_sipush dX13_holds_71 ks_1000 (g_isub dX13_holds_74 (g_i2l dX13_holds_75 (g_callvV dX13_holds_76 ml_X13_419 md_X13_qPuts mv_X13_qPuts obM_0 rfl rfl rfl (Nat.le_of_ble_eq_true rfl) (CalV.mono ((h.2.2 q2).2.2 q6) (fun I25 J26 h27 => (g_goto dX13_holds_79 rfl (g_iinc dX13_holds_161 4 rfl rfl (by decide) rfl (g_goto dX13_holds_164 rfl (g_sub [2, 3, 4, 0] rfl h27))))))))))))))))))))))))))))))))
theorem dX13_qPuts_0 : decode cX13_qPuts 0 = .ok (.aload_n 0, 1) := by decide +kernel
theorem dX13_qPuts_1 : decode cX13_qPuts 1 = .ok (.getfield 248, 3) := by decide +kernel
theorem dX13_qPuts_4 : decode cX13_qPuts 4 = .ok (.aload_n 0, 1) := by decide +kernel
theorem dX13_qPuts_5 : decode cX13_qPuts 5 = .ok (.getfield 416, 3) := by decide +kernel
theorem dX13_qPuts_8 : decode cX13_qPuts 8 = .ok (.lload_n 1, 1) := by decide +kernel
theorem dX13_qPuts_9 : decode cX13_qPuts 9 = .ok (.lastore, 1) := by decide +kernel
theorem dX13_qPuts_10 : decode cX13_qPuts 10 = .ok (.aload_n 0, 1) := by decide +kernel
theorem dX13_qPuts_11 : decode cX13_qPuts 11 = .ok (.dup, 1) := by decide +kernel
theorem dX13_qPuts_12 : decode cX13_qPuts 12 = .ok (.getfield 416, 3) := by decide +kernel
theorem dX13_qPuts_15 : decode cX13_qPuts 15 = .ok (.iconst 1, 1) := by decide +kernel
theorem dX13_qPuts_16 : decode cX13_qPuts 16 = .ok (.iadd, 1) := by decide +kernel
theorem dX13_qPuts_17 : decode cX13_qPuts 17 = .ok (.putfield 416, 3) := by decide +kernel
theorem dX13_qPuts_20 : decode cX13_qPuts 20 = .ok (.return_, 1) := by decide +kernel
theorem bX13_qPuts_0 {d : Nat}  {v1 : Int64} {I : Ii} {J : Jj} {K : KV}
    (h : vp_in (I 0 100) 1700 ∧ (K (u2 I 0 100 ((I 0 100) + 1)) (w2 J 77 (I 0 100).toNatClampNeg v1))) :
    GoV wM d mX13_qPuts 0 [(0, .ref (0)), (1, .long (v1))] [] I J K :=
  (g_aload_n dX13_qPuts_0 0 0 rfl rfl (g_getP dX13_qPuts_1 fl_X13_248 rfl obM_0 rfl (g_aload_n dX13_qPuts_4 0 0 rfl rfl (g_getI dX13_qPuts_5 fl_X13_416 rfl obM_0 (g_lload_n dX13_qPuts_8 1 1 rfl rfl (have b1 := h.1; g_last dX13_qPuts_9 arM_77 b1 (g_aload_n dX13_qPuts_10 0 0 rfl rfl (g_dup dX13_qPuts_11 rfl (g_getI dX13_qPuts_12 fl_X13_416 rfl obM_0 (g_iconst dX13_qPuts_15 kc_1 (g_iadd dX13_qPuts_16 (g_putI dX13_qPuts_17 fl_X13_416 rfl rfl obM_0 (g_return dX13_qPuts_20 rfl ⟨rfl, h.2⟩)))))))))))))
theorem dX13_qPartOf_0 : decode cX13_qPartOf 0 = .ok (.iload_n 1, 1) := by decide +kernel
theorem dX13_qPartOf_1 : decode cX13_qPartOf 1 = .ok (.tableswitch 224 0 10 #[59, 73, 103, 133, 141, 152, 169, 187, 197, 207, 210], 59) := by decide +kernel
theorem dX13_qPartOf_60 : decode cX13_qPartOf 60 = .ok (.aload_n 0, 1) := by decide +kernel
theorem dX13_qPartOf_61 : decode cX13_qPartOf 61 = .ok (.getfield 115, 3) := by decide +kernel
theorem dX13_qPartOf_64 : decode cX13_qPartOf 64 = .ok (.bipush 8, 2) := by decide +kernel
theorem dX13_qPartOf_66 : decode cX13_qPartOf 66 = .ok (.aload_n 0, 1) := by decide +kernel
theorem dX13_qPartOf_67 : decode cX13_qPartOf 67 = .ok (.getfield 413, 3) := by decide +kernel
theorem dX13_qPartOf_70 : decode cX13_qPartOf 70 = .ok (.iadd, 1) := by decide +kernel
theorem dX13_qPartOf_71 : decode cX13_qPartOf 71 = .ok (.iaload, 1) := by decide +kernel
theorem dX13_qPartOf_72 : decode cX13_qPartOf 72 = .ok (.i2l, 1) := by decide +kernel
theorem dX13_qPartOf_73 : decode cX13_qPartOf 73 = .ok (.lreturn, 1) := by decide +kernel
theorem dX13_qPartOf_74 : decode cX13_qPartOf 74 = .ok (.aload_n 0, 1) := by decide +kernel
theorem dX13_qPartOf_75 : decode cX13_qPartOf 75 = .ok (.getfield 312, 3) := by decide +kernel
theorem dX13_qPartOf_78 : decode cX13_qPartOf 78 = .ok (.iconst 2, 1) := by decide +kernel
theorem dX13_qPartOf_79 : decode cX13_qPartOf 79 = .ok (.if_icmp .ne 12, 3) := by decide +kernel
theorem dX13_qPartOf_82 : decode cX13_qPartOf 82 = .ok (.aload_n 0, 1) := by decide +kernel
theorem dX13_qPartOf_83 : decode cX13_qPartOf 83 = .ok (.iload_n 2, 1) := by decide +kernel
theorem dX13_qPartOf_84 : decode cX13_qPartOf 84 = .ok (.invokevirtual 498, 3) := by decide +kernel
theorem dX13_qPartOf_87 : decode cX13_qPartOf 87 = .ok (.i2l, 1) := by decide +kernel
theorem dX13_qPartOf_88 : decode cX13_qPartOf 88 = .ok (.goto 15, 3) := by decide +kernel
theorem dX13_qPartOf_91 : decode cX13_qPartOf 91 = .ok (.aload_n 0, 1) := by decide +kernel
theorem dX13_qPartOf_92 : decode cX13_qPartOf 92 = .ok (.aload_n 0, 1) := by decide +kernel
theorem dX13_qPartOf_93 : decode cX13_qPartOf 93 = .ok (.getfield 413, 3) := by decide +kernel
theorem dX13_qPartOf_96 : decode cX13_qPartOf 96 = .ok (.invokevirtual 404, 3) := by decide +kernel
theorem dX13_qPartOf_99 : decode cX13_qPartOf 99 = .ok (.invokestatic 483, 3) := by decide +kernel
theorem dX13_qPartOf_102 : decode cX13_qPartOf 102 = .ok (.i2l, 1) := by decide +kernel
theorem dX13_qPartOf_103 : decode cX13_qPartOf 103 = .ok (.lreturn, 1) := by decide +kernel
theorem dX13_qPartOf_104 : decode cX13_qPartOf 104 = .ok (.aload_n 0, 1) := by decide +kernel
theorem dX13_qPartOf_105 : decode cX13_qPartOf 105 = .ok (.getfield 312, 3) := by decide +kernel
theorem dX13_qPartOf_108 : decode cX13_qPartOf 108 = .ok (.iconst 2, 1) := by decide +kernel
theorem dX13_qPartOf_109 : decode cX13_qPartOf 109 = .ok (.if_icmp .ne 12, 3) := by decide +kernel
theorem dX13_qPartOf_112 : decode cX13_qPartOf 112 = .ok (.aload_n 0, 1) := by decide +kernel
theorem dX13_qPartOf_113 : decode cX13_qPartOf 113 = .ok (.iload_n 2, 1) := by decide +kernel
theorem dX13_qPartOf_114 : decode cX13_qPartOf 114 = .ok (.invokevirtual 501, 3) := by decide +kernel
theorem dX13_qPartOf_117 : decode cX13_qPartOf 117 = .ok (.i2l, 1) := by decide +kernel
theorem dX13_qPartOf_118 : decode cX13_qPartOf 118 = .ok (.goto 15, 3) := by decide +kernel
theorem dX13_qPartOf_121 : decode cX13_qPartOf 121 = .ok (.aload_n 0, 1) := by decide +kernel
theorem dX13_qPartOf_122 : decode cX13_qPartOf 122 = .ok (.aload_n 0, 1) := by decide +kernel
theorem dX13_qPartOf_123 : decode cX13_qPartOf 123 = .ok (.getfield 413, 3) := by decide +kernel
theorem dX13_qPartOf_126 : decode cX13_qPartOf 126 = .ok (.invokevirtual 407, 3) := by decide +kernel
theorem dX13_qPartOf_129 : decode cX13_qPartOf 129 = .ok (.invokestatic 483, 3) := by decide +kernel
theorem dX13_qPartOf_132 : decode cX13_qPartOf 132 = .ok (.i2l, 1) := by decide +kernel
theorem dX13_qPartOf_133 : decode cX13_qPartOf 133 = .ok (.lreturn, 1) := by decide +kernel
theorem dX13_qPartOf_134 : decode cX13_qPartOf 134 = .ok (.aload_n 0, 1) := by decide +kernel
theorem dX13_qPartOf_135 : decode cX13_qPartOf 135 = .ok (.getfield 139, 3) := by decide +kernel
theorem dX13_qPartOf_138 : decode cX13_qPartOf 138 = .ok (.iconst 0, 1) := by decide +kernel
theorem dX13_qPartOf_139 : decode cX13_qPartOf 139 = .ok (.iaload, 1) := by decide +kernel
theorem dX13_qPartOf_140 : decode cX13_qPartOf 140 = .ok (.i2l, 1) := by decide +kernel
theorem dX13_qPartOf_141 : decode cX13_qPartOf 141 = .ok (.lreturn, 1) := by decide +kernel
theorem dX13_qPartOf_142 : decode cX13_qPartOf 142 = .ok (.aload_n 0, 1) := by decide +kernel
theorem dX13_qPartOf_143 : decode cX13_qPartOf 143 = .ok (.getfield 112, 3) := by decide +kernel
theorem dX13_qPartOf_146 : decode cX13_qPartOf 146 = .ok (.bipush 8, 2) := by decide +kernel
theorem dX13_qPartOf_148 : decode cX13_qPartOf 148 = .ok (.iload_n 2, 1) := by decide +kernel
theorem dX13_qPartOf_149 : decode cX13_qPartOf 149 = .ok (.iadd, 1) := by decide +kernel
theorem dX13_qPartOf_150 : decode cX13_qPartOf 150 = .ok (.iaload, 1) := by decide +kernel
theorem dX13_qPartOf_151 : decode cX13_qPartOf 151 = .ok (.i2l, 1) := by decide +kernel
theorem dX13_qPartOf_152 : decode cX13_qPartOf 152 = .ok (.lreturn, 1) := by decide +kernel
theorem dX13_qPartOf_153 : decode cX13_qPartOf 153 = .ok (.aload_n 0, 1) := by decide +kernel
theorem dX13_qPartOf_154 : decode cX13_qPartOf 154 = .ok (.aload_n 0, 1) := by decide +kernel
theorem dX13_qPartOf_155 : decode cX13_qPartOf 155 = .ok (.aload_n 0, 1) := by decide +kernel
theorem dX13_qPartOf_156 : decode cX13_qPartOf 156 = .ok (.getfield 413, 3) := by decide +kernel
theorem dX13_qPartOf_159 : decode cX13_qPartOf 159 = .ok (.invokevirtual 410, 3) := by decide +kernel
theorem dX13_qPartOf_162 : decode cX13_qPartOf 162 = .ok (.invokevirtual 507, 3) := by decide +kernel
theorem dX13_qPartOf_165 : decode cX13_qPartOf 165 = .ok (.invokestatic 483, 3) := by decide +kernel
theorem dX13_qPartOf_168 : decode cX13_qPartOf 168 = .ok (.i2l, 1) := by decide +kernel
theorem dX13_qPartOf_169 : decode cX13_qPartOf 169 = .ok (.lreturn, 1) := by decide +kernel
theorem dX13_qPartOf_170 : decode cX13_qPartOf 170 = .ok (.aload_n 0, 1) := by decide +kernel
theorem dX13_qPartOf_171 : decode cX13_qPartOf 171 = .ok (.getfield 115, 3) := by decide +kernel
theorem dX13_qPartOf_174 : decode cX13_qPartOf 174 = .ok (.bipush 8, 2) := by decide +kernel
theorem dX13_qPartOf_176 : decode cX13_qPartOf 176 = .ok (.aload_n 0, 1) := by decide +kernel
theorem dX13_qPartOf_177 : decode cX13_qPartOf 177 = .ok (.aload_n 0, 1) := by decide +kernel
theorem dX13_qPartOf_178 : decode cX13_qPartOf 178 = .ok (.getfield 413, 3) := by decide +kernel
theorem dX13_qPartOf_181 : decode cX13_qPartOf 181 = .ok (.invokevirtual 410, 3) := by decide +kernel
theorem dX13_qPartOf_184 : decode cX13_qPartOf 184 = .ok (.iadd, 1) := by decide +kernel
theorem dX13_qPartOf_185 : decode cX13_qPartOf 185 = .ok (.iaload, 1) := by decide +kernel
theorem dX13_qPartOf_186 : decode cX13_qPartOf 186 = .ok (.i2l, 1) := by decide +kernel
theorem dX13_qPartOf_187 : decode cX13_qPartOf 187 = .ok (.lreturn, 1) := by decide +kernel
theorem dX13_qPartOf_188 : decode cX13_qPartOf 188 = .ok (.aload_n 0, 1) := by decide +kernel
theorem dX13_qPartOf_189 : decode cX13_qPartOf 189 = .ok (.aload_n 0, 1) := by decide +kernel
theorem dX13_qPartOf_190 : decode cX13_qPartOf 190 = .ok (.getfield 413, 3) := by decide +kernel
theorem dX13_qPartOf_193 : decode cX13_qPartOf 193 = .ok (.invokevirtual 450, 3) := by decide +kernel
theorem dX13_qPartOf_196 : decode cX13_qPartOf 196 = .ok (.i2l, 1) := by decide +kernel
theorem dX13_qPartOf_197 : decode cX13_qPartOf 197 = .ok (.lreturn, 1) := by decide +kernel
theorem dX13_qPartOf_198 : decode cX13_qPartOf 198 = .ok (.aload_n 0, 1) := by decide +kernel
theorem dX13_qPartOf_199 : decode cX13_qPartOf 199 = .ok (.aload_n 0, 1) := by decide +kernel
theorem dX13_qPartOf_200 : decode cX13_qPartOf 200 = .ok (.getfield 413, 3) := by decide +kernel
theorem dX13_qPartOf_203 : decode cX13_qPartOf 203 = .ok (.invokevirtual 453, 3) := by decide +kernel
theorem dX13_qPartOf_206 : decode cX13_qPartOf 206 = .ok (.i2l, 1) := by decide +kernel
theorem dX13_qPartOf_207 : decode cX13_qPartOf 207 = .ok (.lreturn, 1) := by decide +kernel
theorem dX13_qPartOf_208 : decode cX13_qPartOf 208 = .ok (.iload_n 2, 1) := by decide +kernel
theorem dX13_qPartOf_209 : decode cX13_qPartOf 209 = .ok (.i2l, 1) := by decide +kernel
theorem dX13_qPartOf_210 : decode cX13_qPartOf 210 = .ok (.lreturn, 1) := by decide +kernel
theorem dX13_qPartOf_211 : decode cX13_qPartOf 211 = .ok (.aload_n 0, 1) := by decide +kernel
theorem dX13_qPartOf_212 : decode cX13_qPartOf 212 = .ok (.aload_n 0, 1) := by decide +kernel
theorem dX13_qPartOf_213 : decode cX13_qPartOf 213 = .ok (.getfield 413, 3) := by decide +kernel
theorem dX13_qPartOf_216 : decode cX13_qPartOf 216 = .ok (.invokevirtual 404, 3) := by decide +kernel
theorem dX13_qPartOf_219 : decode cX13_qPartOf 219 = .ok (.iload_n 2, 1) := by decide +kernel
theorem dX13_qPartOf_220 : decode cX13_qPartOf 220 = .ok (.ishr, 1) := by decide +kernel
theorem dX13_qPartOf_221 : decode cX13_qPartOf 221 = .ok (.iconst 1, 1) := by decide +kernel
theorem dX13_qPartOf_222 : decode cX13_qPartOf 222 = .ok (.iand, 1) := by decide +kernel
theorem dX13_qPartOf_223 : decode cX13_qPartOf 223 = .ok (.i2l, 1) := by decide +kernel
theorem dX13_qPartOf_224 : decode cX13_qPartOf 224 = .ok (.lreturn, 1) := by decide +kernel
theorem dX13_qPartOf_225 : decode cX13_qPartOf 225 = .ok (.aload_n 0, 1) := by decide +kernel
theorem dX13_qPartOf_226 : decode cX13_qPartOf 226 = .ok (.aload_n 0, 1) := by decide +kernel
theorem dX13_qPartOf_227 : decode cX13_qPartOf 227 = .ok (.getfield 413, 3) := by decide +kernel
theorem dX13_qPartOf_230 : decode cX13_qPartOf 230 = .ok (.invokevirtual 407, 3) := by decide +kernel
theorem dX13_qPartOf_233 : decode cX13_qPartOf 233 = .ok (.iload_n 2, 1) := by decide +kernel
theorem dX13_qPartOf_234 : decode cX13_qPartOf 234 = .ok (.ishr, 1) := by decide +kernel
theorem dX13_qPartOf_235 : decode cX13_qPartOf 235 = .ok (.iconst 1, 1) := by decide +kernel
theorem dX13_qPartOf_236 : decode cX13_qPartOf 236 = .ok (.iand, 1) := by decide +kernel
theorem dX13_qPartOf_237 : decode cX13_qPartOf 237 = .ok (.i2l, 1) := by decide +kernel
theorem dX13_qPartOf_238 : decode cX13_qPartOf 238 = .ok (.lreturn, 1) := by decide +kernel
theorem bX13_qPartOf_0 {d : Nat}  {v1 : Int32} {v2 : Int32} {I : Ii} {J : Jj} {K : KL}
    (h : ((v1) = 0 → (vp_in (8 + (I 0 55)) 16 ∧ (K ((I 34 (8 + (I 0 55)).toNatClampNeg).toInt64) I J))) ∧ ((v1) = 1 → (((¬ (I 0 52) = 2) → (CalI wM d mX13_rightOf [.ref (0), .int (I 0 55)] I J (fun x5 I3 J4 => (CalI wM d mX13_bits [.int (x5)] I3 J4 (fun x8 I6 J7 => (K (x8.toInt64) I6 J7)))))) ∧ (((I 0 52) = 2) → (CalI wM d mX13_rightMany [.ref (0), .int (v2)] I J (fun x13 I11 J12 => (K (x13.toInt64) I11 J12)))))) ∧ ((v1) = 2 → (((¬ (I 0 52) = 2) → (CalI wM d mX13_wrongOf [.ref (0), .int (I 0 55)] I J (fun x18 I16 J17 => (CalI wM d mX13_bits [.int (x18)] I16 J17 (fun x21 I19 J20 => (K (x21.toInt64) I19 J20)))))) ∧ (((I 0 52) = 2) → (CalI wM d mX13_wrongMany [.ref (0), .int (v2)] I J (fun x26 I24 J25 => (K (x26.toInt64) I24 J25)))))) ∧ ((v1) = 3 → (K ((I 42 (0 : Int32).toNatClampNeg).toInt64) I J)) ∧ ((v1) = 4 → (vp_in (8 + v2) 16 ∧ (K ((I 33 (8 + v2).toNatClampNeg).toInt64) I J))) ∧ ((v1) = 5 → (CalI wM d mX13_masterOf [.ref (0), .int (I 0 55)] I J (fun x32 I30 J31 => (CalI wM d mX13_pupilsOf [.ref (0), .int (x32)] I30 J31 (fun x35 I33 J34 => (CalI wM d mX13_bits [.int (x35)] I33 J34 (fun x38 I36 J37 => (K (x38.toInt64) I36 J37)))))))) ∧ ((v1) = 6 → (CalI wM d mX13_masterOf [.ref (0), .int (I 0 55)] I J (fun x44 I42 J43 => (vp_in (8 + x44) 16 ∧ (K ((I42 34 (8 + x44).toNatClampNeg).toInt64) I42 J43))))) ∧ ((v1) = 7 → (CalI wM d mX13_leftOf [.ref (0), .int (I 0 55)] I J (fun x49 I47 J48 => (K (x49.toInt64) I47 J48)))) ∧ ((v1) = 8 → (CalI wM d mX13_marksOf [.ref (0), .int (I 0 55)] I J (fun x53 I51 J52 => (K (x53.toInt64) I51 J52)))) ∧ ((v1) = 9 → (K (v2.toInt64) I J)) ∧ ((v1) = 10 → (CalI wM d mX13_rightOf [.ref (0), .int (I 0 55)] I J (fun x57 I55 J56 => (K (((x57 >>> (v2 &&& 31)) &&& 1).toInt64) I55 J56)))) ∧ (¬ (v1) = 0 → ¬ (v1) = 1 → ¬ (v1) = 2 → ¬ (v1) = 3 → ¬ (v1) = 4 → ¬ (v1) = 5 → ¬ (v1) = 6 → ¬ (v1) = 7 → ¬ (v1) = 8 → ¬ (v1) = 9 → ¬ (v1) = 10 → (CalI wM d mX13_wrongOf [.ref (0), .int (I 0 55)] I J (fun x61 I59 J60 => (K (((x61 >>> (v2 &&& 31)) &&& 1).toInt64) I59 J60))))) :
    GoL wM (d + 1) mX13_qPartOf 0 [(0, .ref (0)), (1, .int (v1)), (2, .int (v2))] [] I J K :=
  (g_iload_n dX13_qPartOf_0 1 1 rfl rfl (by
      by_cases q1_0 : (v1) = 0
      · exact g_tableIn (off := 59) dX13_qPartOf_1 (by rw [q1_0]; decide) (by rw [q1_0]; decide) (by rw [q1_0]; rfl) rfl (g_aload_n dX13_qPartOf_60 0 0 rfl rfl (g_getP dX13_qPartOf_61 fl_X13_115 rfl obM_0 rfl (g_bipush dX13_qPartOf_64 kb_8 (g_aload_n dX13_qPartOf_66 0 0 rfl rfl (g_getI dX13_qPartOf_67 fl_X13_413 rfl obM_0 (g_iadd dX13_qPartOf_70 (have b1 := (h.1 q1_0).1; g_iald dX13_qPartOf_71 arM_34 b1 (g_i2l dX13_qPartOf_72 (g_lreturn dX13_qPartOf_73 rfl ⟨_, rfl, (h.1 q1_0).2⟩)))))))))
      by_cases q1_1 : (v1) = 1
      · exact g_tableIn (off := 73) dX13_qPartOf_1 (by rw [q1_1]; decide) (by rw [q1_1]; decide) (by rw [q1_1]; rfl) rfl (g_aload_n dX13_qPartOf_74 0 0 rfl rfl (g_getI dX13_qPartOf_75 fl_X13_312 rfl obM_0 (g_iconst dX13_qPartOf_78 kc_2 (g_icmp_ne dX13_qPartOf_79 rfl (fun q2 => (g_aload_n dX13_qPartOf_91 0 0 rfl rfl (g_aload_n dX13_qPartOf_92 0 0 rfl rfl (g_getI dX13_qPartOf_93 fl_X13_413 rfl obM_0 (g_callvI dX13_qPartOf_96 ml_X13_404 md_X13_rightOf mv_X13_rightOf obM_0 rfl rfl rfl (Nat.le_of_ble_eq_true rfl) (CalI.mono ((h.2.1 q1_1).1 q2) (fun x5 I3 J4 h10 => (g_callsI dX13_qPartOf_99 ml_X13_483 md_X13_bits ms_X13_bits rfl rfl (Nat.le_of_ble_eq_true rfl) (CalI.mono h10 (fun x8 I6 J7 h9 => (g_i2l dX13_qPartOf_102 (g_lreturn dX13_qPartOf_103 rfl ⟨_, rfl, h9⟩)))))))))))) (fun q2 => (g_aload_n dX13_qPartOf_82 0 0 rfl rfl (g_iload_n dX13_qPartOf_83 2 2 rfl rfl (g_callvI dX13_qPartOf_84 ml_X13_498 md_X13_rightMany mv_X13_rightMany obM_0 rfl rfl rfl (Nat.le_of_ble_eq_true rfl) (CalI.mono ((h.2.1 q1_1).2 q2) (fun x13 I11 J12 h14 => (g_i2l dX13_qPartOf_87 (g_goto dX13_qPartOf_88 rfl (g_lreturn dX13_qPartOf_103 rfl ⟨_, rfl, h14⟩)))))))))))))
      by_cases q1_2 : (v1) = 2
      · exact g_tableIn (off := 103) dX13_qPartOf_1 (by rw [q1_2]; decide) (by rw [q1_2]; decide) (by rw [q1_2]; rfl) rfl (g_aload_n dX13_qPartOf_104 0 0 rfl rfl (g_getI dX13_qPartOf_105 fl_X13_312 rfl obM_0 (g_iconst dX13_qPartOf_108 kc_2 (g_icmp_ne dX13_qPartOf_109 rfl (fun q15 => (g_aload_n dX13_qPartOf_121 0 0 rfl rfl (g_aload_n dX13_qPartOf_122 0 0 rfl rfl (g_getI dX13_qPartOf_123 fl_X13_413 rfl obM_0 (g_callvI dX13_qPartOf_126 ml_X13_407 md_X13_wrongOf mv_X13_wrongOf obM_0 rfl rfl rfl (Nat.le_of_ble_eq_true rfl) (CalI.mono ((h.2.2.1 q1_2).1 q15) (fun x18 I16 J17 h23 => (g_callsI dX13_qPartOf_129 ml_X13_483 md_X13_bits ms_X13_bits rfl rfl (Nat.le_of_ble_eq_true rfl) (CalI.mono h23 (fun x21 I19 J20 h22 => (g_i2l dX13_qPartOf_132 (g_lreturn dX13_qPartOf_133 rfl ⟨_, rfl, h22⟩)))))))))))) (fun q15 => (g_aload_n dX13_qPartOf_112 0 0 rfl rfl (g_iload_n dX13_qPartOf_113 2 2 rfl rfl (g_callvI dX13_qPartOf_114 ml_X13_501 md_X13_wrongMany mv_X13_wrongMany obM_0 rfl rfl rfl (Nat.le_of_ble_eq_true rfl) (CalI.mono ((h.2.2.1 q1_2).2 q15) (fun x26 I24 J25 h27 => (g_i2l dX13_qPartOf_117 (g_goto dX13_qPartOf_118 rfl (g_lreturn dX13_qPartOf_133 rfl ⟨_, rfl, h27⟩)))))))))))))
      by_cases q1_3 : (v1) = 3
      · exact g_tableIn (off := 133) dX13_qPartOf_1 (by rw [q1_3]; decide) (by rw [q1_3]; decide) (by rw [q1_3]; rfl) rfl (g_aload_n dX13_qPartOf_134 0 0 rfl rfl (g_getP dX13_qPartOf_135 fl_X13_139 rfl obM_0 rfl (g_iconst dX13_qPartOf_138 kc_0 (g_iald dX13_qPartOf_139 arM_42 (by unfold vp_in; decide) (g_i2l dX13_qPartOf_140 (g_lreturn dX13_qPartOf_141 rfl ⟨_, rfl, (h.2.2.2.1 q1_3)⟩))))))
      by_cases q1_4 : (v1) = 4
      · exact g_tableIn (off := 141) dX13_qPartOf_1 (by rw [q1_4]; decide) (by rw [q1_4]; decide) (by rw [q1_4]; rfl) rfl (g_aload_n dX13_qPartOf_142 0 0 rfl rfl (g_getP dX13_qPartOf_143 fl_X13_112 rfl obM_0 rfl (g_bipush dX13_qPartOf_146 kb_8 (g_iload_n dX13_qPartOf_148 2 2 rfl rfl (g_iadd dX13_qPartOf_149 (have b29 := (h.2.2.2.2.1 q1_4).1; g_iald dX13_qPartOf_150 arM_33 b29 (g_i2l dX13_qPartOf_151 (g_lreturn dX13_qPartOf_152 rfl ⟨_, rfl, (h.2.2.2.2.1 q1_4).2⟩))))))))
      by_cases q1_5 : (v1) = 5
      · exact g_tableIn (off := 152) dX13_qPartOf_1 (by rw [q1_5]; decide) (by rw [q1_5]; decide) (by rw [q1_5]; rfl) rfl (g_aload_n dX13_qPartOf_153 0 0 rfl rfl (g_aload_n dX13_qPartOf_154 0 0 rfl rfl (g_aload_n dX13_qPartOf_155 0 0 rfl rfl (g_getI dX13_qPartOf_156 fl_X13_413 rfl obM_0 (g_callvI dX13_qPartOf_159 ml_X13_410 md_X13_masterOf mv_X13_masterOf obM_0 rfl rfl rfl (Nat.le_of_ble_eq_true rfl) (CalI.mono (h.2.2.2.2.2.1 q1_5) (fun x32 I30 J31 h41 => (g_callvI dX13_qPartOf_162 ml_X13_507 md_X13_pupilsOf mv_X13_pupilsOf obM_0 rfl rfl rfl (Nat.le_of_ble_eq_true rfl) (CalI.mono h41 (fun x35 I33 J34 h40 => (g_callsI dX13_qPartOf_165 ml_X13_483 md_X13_bits ms_X13_bits rfl rfl (Nat.le_of_ble_eq_true rfl) (CalI.mono h40 (fun x38 I36 J37 h39 => (g_i2l dX13_qPartOf_168 (g_lreturn dX13_qPartOf_169 rfl ⟨_, rfl, h39⟩)))))))))))))))
      by_cases q1_6 : (v1) = 6
      · exact g_tableIn (off := 169) dX13_qPartOf_1 (by rw [q1_6]; decide) (by rw [q1_6]; decide) (by rw [q1_6]; rfl) rfl (g_aload_n dX13_qPartOf_170 0 0 rfl rfl (g_getP dX13_qPartOf_171 fl_X13_115 rfl obM_0 rfl (g_bipush dX13_qPartOf_174 kb_8 (g_aload_n dX13_qPartOf_176 0 0 rfl rfl (g_aload_n dX13_qPartOf_177 0 0 rfl rfl (g_getI dX13_qPartOf_178 fl_X13_413 rfl obM_0 (g_callvI dX13_qPartOf_181 ml_X13_410 md_X13_masterOf mv_X13_masterOf obM_0 rfl rfl rfl (Nat.le_of_ble_eq_true rfl) (CalI.mono (h.2.2.2.2.2.2.1 q1_6) (fun x44 I42 J43 h46 => (g_iadd dX13_qPartOf_184 (have b45 := h46.1; g_iald dX13_qPartOf_185 arM_34 b45 (g_i2l dX13_qPartOf_186 (g_lreturn dX13_qPartOf_187 rfl ⟨_, rfl, h46.2⟩)))))))))))))
      by_cases q1_7 : (v1) = 7
      · exact g_tableIn (off := 187) dX13_qPartOf_1 (by rw [q1_7]; decide) (by rw [q1_7]; decide) (by rw [q1_7]; rfl) rfl (g_aload_n dX13_qPartOf_188 0 0 rfl rfl (g_aload_n dX13_qPartOf_189 0 0 rfl rfl (g_getI dX13_qPartOf_190 fl_X13_413 rfl obM_0 (g_callvI dX13_qPartOf_193 ml_X13_450 md_X13_leftOf mv_X13_leftOf obM_0 rfl rfl rfl (Nat.le_of_ble_eq_true rfl) (CalI.mono (h.2.2.2.2.2.2.2.1 q1_7) (fun x49 I47 J48 h50 => (g_i2l dX13_qPartOf_196 (g_lreturn dX13_qPartOf_197 rfl ⟨_, rfl, h50⟩))))))))
      by_cases q1_8 : (v1) = 8
      · exact g_tableIn (off := 197) dX13_qPartOf_1 (by rw [q1_8]; decide) (by rw [q1_8]; decide) (by rw [q1_8]; rfl) rfl (g_aload_n dX13_qPartOf_198 0 0 rfl rfl (g_aload_n dX13_qPartOf_199 0 0 rfl rfl (g_getI dX13_qPartOf_200 fl_X13_413 rfl obM_0 (g_callvI dX13_qPartOf_203 ml_X13_453 md_X13_marksOf mv_X13_marksOf obM_0 rfl rfl rfl (Nat.le_of_ble_eq_true rfl) (CalI.mono (h.2.2.2.2.2.2.2.2.1 q1_8) (fun x53 I51 J52 h54 => (g_i2l dX13_qPartOf_206 (g_lreturn dX13_qPartOf_207 rfl ⟨_, rfl, h54⟩))))))))
      by_cases q1_9 : (v1) = 9
      · exact g_tableIn (off := 207) dX13_qPartOf_1 (by rw [q1_9]; decide) (by rw [q1_9]; decide) (by rw [q1_9]; rfl) rfl (g_iload_n dX13_qPartOf_208 2 2 rfl rfl (g_i2l dX13_qPartOf_209 (g_lreturn dX13_qPartOf_210 rfl ⟨_, rfl, (h.2.2.2.2.2.2.2.2.2.1 q1_9)⟩)))
      by_cases q1_10 : (v1) = 10
      · exact g_tableIn (off := 210) dX13_qPartOf_1 (by rw [q1_10]; decide) (by rw [q1_10]; decide) (by rw [q1_10]; rfl) rfl (g_aload_n dX13_qPartOf_211 0 0 rfl rfl (g_aload_n dX13_qPartOf_212 0 0 rfl rfl (g_getI dX13_qPartOf_213 fl_X13_413 rfl obM_0 (g_callvI dX13_qPartOf_216 ml_X13_404 md_X13_rightOf mv_X13_rightOf obM_0 rfl rfl rfl (Nat.le_of_ble_eq_true rfl) (CalI.mono (h.2.2.2.2.2.2.2.2.2.2.1 q1_10) (fun x57 I55 J56 h58 => (g_iload_n dX13_qPartOf_219 2 2 rfl rfl (g_ishr dX13_qPartOf_220 (g_iconst dX13_qPartOf_221 kc_1 (g_iand dX13_qPartOf_222 (g_i2l dX13_qPartOf_223 (g_lreturn dX13_qPartOf_224 rfl ⟨_, rfl, h58⟩))))))))))))
      have e1_0 : (v1).toInt ≠ 0 := fun e => q1_0 (Int32.toInt_inj.mp e)
      have e1_1 : (v1).toInt ≠ 1 := fun e => q1_1 (Int32.toInt_inj.mp e)
      have e1_2 : (v1).toInt ≠ 2 := fun e => q1_2 (Int32.toInt_inj.mp e)
      have e1_3 : (v1).toInt ≠ 3 := fun e => q1_3 (Int32.toInt_inj.mp e)
      have e1_4 : (v1).toInt ≠ 4 := fun e => q1_4 (Int32.toInt_inj.mp e)
      have e1_5 : (v1).toInt ≠ 5 := fun e => q1_5 (Int32.toInt_inj.mp e)
      have e1_6 : (v1).toInt ≠ 6 := fun e => q1_6 (Int32.toInt_inj.mp e)
      have e1_7 : (v1).toInt ≠ 7 := fun e => q1_7 (Int32.toInt_inj.mp e)
      have e1_8 : (v1).toInt ≠ 8 := fun e => q1_8 (Int32.toInt_inj.mp e)
      have e1_9 : (v1).toInt ≠ 9 := fun e => q1_9 (Int32.toInt_inj.mp e)
      have e1_10 : (v1).toInt ≠ 10 := fun e => q1_10 (Int32.toInt_inj.mp e)
      exact g_tableOut dX13_qPartOf_1 (by omega) rfl (g_aload_n dX13_qPartOf_225 0 0 rfl rfl (g_aload_n dX13_qPartOf_226 0 0 rfl rfl (g_getI dX13_qPartOf_227 fl_X13_413 rfl obM_0 (g_callvI dX13_qPartOf_230 ml_X13_407 md_X13_wrongOf mv_X13_wrongOf obM_0 rfl rfl rfl (Nat.le_of_ble_eq_true rfl) (CalI.mono (h.2.2.2.2.2.2.2.2.2.2.2 q1_0 q1_1 q1_2 q1_3 q1_4 q1_5 q1_6 q1_7 q1_8 q1_9 q1_10) (fun x61 I59 J60 h62 => (g_iload_n dX13_qPartOf_233 2 2 rfl rfl (g_ishr dX13_qPartOf_234 (g_iconst dX13_qPartOf_235 kc_1 (g_iand dX13_qPartOf_236 (g_i2l dX13_qPartOf_237 (g_lreturn dX13_qPartOf_238 rfl ⟨_, rfl, h62⟩))))))))))))))
theorem dX13_qJoins_0 : decode cX13_qJoins 0 = .ok (.aload_n 0, 1) := by decide +kernel
theorem dX13_qJoins_1 : decode cX13_qJoins 1 = .ok (.getfield 248, 3) := by decide +kernel
theorem dX13_qJoins_4 : decode cX13_qJoins 4 = .ok (.aload_n 0, 1) := by decide +kernel
theorem dX13_qJoins_5 : decode cX13_qJoins 5 = .ok (.getfield 416, 3) := by decide +kernel
theorem dX13_qJoins_8 : decode cX13_qJoins 8 = .ok (.iconst 1, 1) := by decide +kernel
theorem dX13_qJoins_9 : decode cX13_qJoins 9 = .ok (.isub, 1) := by decide +kernel
theorem dX13_qJoins_10 : decode cX13_qJoins 10 = .ok (.laload, 1) := by decide +kernel
theorem dX13_qJoins_11 : decode cX13_qJoins 11 = .ok (.lstore_n 2, 1) := by decide +kernel
theorem dX13_qJoins_12 : decode cX13_qJoins 12 = .ok (.aload_n 0, 1) := by decide +kernel
theorem dX13_qJoins_13 : decode cX13_qJoins 13 = .ok (.getfield 248, 3) := by decide +kernel
theorem dX13_qJoins_16 : decode cX13_qJoins 16 = .ok (.aload_n 0, 1) := by decide +kernel
theorem dX13_qJoins_17 : decode cX13_qJoins 17 = .ok (.getfield 416, 3) := by decide +kernel
theorem dX13_qJoins_20 : decode cX13_qJoins 20 = .ok (.iconst 2, 1) := by decide +kernel
theorem dX13_qJoins_21 : decode cX13_qJoins 21 = .ok (.isub, 1) := by decide +kernel
theorem dX13_qJoins_22 : decode cX13_qJoins 22 = .ok (.laload, 1) := by decide +kernel
theorem dX13_qJoins_23 : decode cX13_qJoins 23 = .ok (.lstore 4, 2) := by decide +kernel
theorem dX13_qJoins_25 : decode cX13_qJoins 25 = .ok (.aload_n 0, 1) := by decide +kernel
theorem dX13_qJoins_26 : decode cX13_qJoins 26 = .ok (.dup, 1) := by decide +kernel
theorem dX13_qJoins_27 : decode cX13_qJoins 27 = .ok (.getfield 416, 3) := by decide +kernel
theorem dX13_qJoins_30 : decode cX13_qJoins 30 = .ok (.iconst 2, 1) := by decide +kernel
theorem dX13_qJoins_31 : decode cX13_qJoins 31 = .ok (.isub, 1) := by decide +kernel
theorem dX13_qJoins_32 : decode cX13_qJoins 32 = .ok (.putfield 416, 3) := by decide +kernel
theorem dX13_qJoins_35 : decode cX13_qJoins 35 = .ok (.iload_n 1, 1) := by decide +kernel
theorem dX13_qJoins_36 : decode cX13_qJoins 36 = .ok (.tableswitch 219 1 10 #[56, 70, 84, 98, 111, 131, 151, 170, 189, 208], 56) := by decide +kernel
theorem dX13_qJoins_92 : decode cX13_qJoins 92 = .ok (.aload_n 0, 1) := by decide +kernel
theorem dX13_qJoins_93 : decode cX13_qJoins 93 = .ok (.lload 4, 2) := by decide +kernel
theorem dX13_qJoins_95 : decode cX13_qJoins 95 = .ok (.lload_n 2, 1) := by decide +kernel
theorem dX13_qJoins_96 : decode cX13_qJoins 96 = .ok (.ladd, 1) := by decide +kernel
theorem dX13_qJoins_97 : decode cX13_qJoins 97 = .ok (.invokestatic 622, 3) := by decide +kernel
theorem dX13_qJoins_100 : decode cX13_qJoins 100 = .ok (.invokevirtual 419, 3) := by decide +kernel
theorem dX13_qJoins_103 : decode cX13_qJoins 103 = .ok (.goto 170, 3) := by decide +kernel
theorem dX13_qJoins_106 : decode cX13_qJoins 106 = .ok (.aload_n 0, 1) := by decide +kernel
theorem dX13_qJoins_107 : decode cX13_qJoins 107 = .ok (.lload 4, 2) := by decide +kernel
theorem dX13_qJoins_109 : decode cX13_qJoins 109 = .ok (.lload_n 2, 1) := by decide +kernel
theorem dX13_qJoins_110 : decode cX13_qJoins 110 = .ok (.lsub, 1) := by decide +kernel
theorem dX13_qJoins_111 : decode cX13_qJoins 111 = .ok (.invokestatic 622, 3) := by decide +kernel
theorem dX13_qJoins_114 : decode cX13_qJoins 114 = .ok (.invokevirtual 419, 3) := by decide +kernel
theorem dX13_qJoins_117 : decode cX13_qJoins 117 = .ok (.goto 156, 3) := by decide +kernel
theorem dX13_qJoins_120 : decode cX13_qJoins 120 = .ok (.aload_n 0, 1) := by decide +kernel
theorem dX13_qJoins_121 : decode cX13_qJoins 121 = .ok (.lload 4, 2) := by decide +kernel
theorem dX13_qJoins_123 : decode cX13_qJoins 123 = .ok (.lload_n 2, 1) := by decide +kernel
theorem dX13_qJoins_124 : decode cX13_qJoins 124 = .ok (.lmul, 1) := by decide +kernel
theorem dX13_qJoins_125 : decode cX13_qJoins 125 = .ok (.invokestatic 622, 3) := by decide +kernel
theorem dX13_qJoins_128 : decode cX13_qJoins 128 = .ok (.invokevirtual 419, 3) := by decide +kernel
theorem dX13_qJoins_131 : decode cX13_qJoins 131 = .ok (.goto 142, 3) := by decide +kernel
theorem dX13_qJoins_134 : decode cX13_qJoins 134 = .ok (.aload_n 0, 1) := by decide +kernel
theorem dX13_qJoins_135 : decode cX13_qJoins 135 = .ok (.lload 4, 2) := by decide +kernel
theorem dX13_qJoins_137 : decode cX13_qJoins 137 = .ok (.lload_n 2, 1) := by decide +kernel
theorem dX13_qJoins_138 : decode cX13_qJoins 138 = .ok (.invokestatic 626, 3) := by decide +kernel
theorem dX13_qJoins_141 : decode cX13_qJoins 141 = .ok (.invokevirtual 419, 3) := by decide +kernel
theorem dX13_qJoins_144 : decode cX13_qJoins 144 = .ok (.goto 129, 3) := by decide +kernel
theorem dX13_qJoins_147 : decode cX13_qJoins 147 = .ok (.aload_n 0, 1) := by decide +kernel
theorem dX13_qJoins_148 : decode cX13_qJoins 148 = .ok (.lload 4, 2) := by decide +kernel
theorem dX13_qJoins_150 : decode cX13_qJoins 150 = .ok (.lload_n 2, 1) := by decide +kernel
theorem dX13_qJoins_151 : decode cX13_qJoins 151 = .ok (.lcmp, 1) := by decide +kernel
theorem dX13_qJoins_152 : decode cX13_qJoins 152 = .ok (.ifCond .ge 8, 3) := by decide +kernel
theorem dX13_qJoins_155 : decode cX13_qJoins 155 = .ok (.lload 4, 2) := by decide +kernel
theorem dX13_qJoins_157 : decode cX13_qJoins 157 = .ok (.goto 4, 3) := by decide +kernel
theorem dX13_qJoins_160 : decode cX13_qJoins 160 = .ok (.lload_n 2, 1) := by decide +kernel
theorem dX13_qJoins_161 : decode cX13_qJoins 161 = .ok (.invokevirtual 419, 3) := by decide +kernel
theorem dX13_qJoins_164 : decode cX13_qJoins 164 = .ok (.goto 109, 3) := by decide +kernel
theorem dX13_qJoins_167 : decode cX13_qJoins 167 = .ok (.aload_n 0, 1) := by decide +kernel
theorem dX13_qJoins_168 : decode cX13_qJoins 168 = .ok (.lload 4, 2) := by decide +kernel
theorem dX13_qJoins_170 : decode cX13_qJoins 170 = .ok (.lload_n 2, 1) := by decide +kernel
theorem dX13_qJoins_171 : decode cX13_qJoins 171 = .ok (.lcmp, 1) := by decide +kernel
theorem dX13_qJoins_172 : decode cX13_qJoins 172 = .ok (.ifCond .le 8, 3) := by decide +kernel
theorem dX13_qJoins_175 : decode cX13_qJoins 175 = .ok (.lload 4, 2) := by decide +kernel
theorem dX13_qJoins_177 : decode cX13_qJoins 177 = .ok (.goto 4, 3) := by decide +kernel
theorem dX13_qJoins_180 : decode cX13_qJoins 180 = .ok (.lload_n 2, 1) := by decide +kernel
theorem dX13_qJoins_181 : decode cX13_qJoins 181 = .ok (.invokevirtual 419, 3) := by decide +kernel
theorem dX13_qJoins_184 : decode cX13_qJoins 184 = .ok (.goto 89, 3) := by decide +kernel
theorem dX13_qJoins_187 : decode cX13_qJoins 187 = .ok (.aload_n 0, 1) := by decide +kernel
theorem dX13_qJoins_188 : decode cX13_qJoins 188 = .ok (.lload 4, 2) := by decide +kernel
theorem dX13_qJoins_190 : decode cX13_qJoins 190 = .ok (.lload_n 2, 1) := by decide +kernel
theorem dX13_qJoins_191 : decode cX13_qJoins 191 = .ok (.lcmp, 1) := by decide +kernel
theorem dX13_qJoins_192 : decode cX13_qJoins 192 = .ok (.ifCond .ge 7, 3) := by decide +kernel
theorem dX13_qJoins_195 : decode cX13_qJoins 195 = .ok (.lconst 1, 1) := by decide +kernel
theorem dX13_qJoins_196 : decode cX13_qJoins 196 = .ok (.goto 4, 3) := by decide +kernel
theorem dX13_qJoins_199 : decode cX13_qJoins 199 = .ok (.lconst 0, 1) := by decide +kernel
theorem dX13_qJoins_200 : decode cX13_qJoins 200 = .ok (.invokevirtual 419, 3) := by decide +kernel
theorem dX13_qJoins_203 : decode cX13_qJoins 203 = .ok (.goto 70, 3) := by decide +kernel
theorem dX13_qJoins_206 : decode cX13_qJoins 206 = .ok (.aload_n 0, 1) := by decide +kernel
theorem dX13_qJoins_207 : decode cX13_qJoins 207 = .ok (.lload 4, 2) := by decide +kernel
theorem dX13_qJoins_209 : decode cX13_qJoins 209 = .ok (.lload_n 2, 1) := by decide +kernel
theorem dX13_qJoins_210 : decode cX13_qJoins 210 = .ok (.lcmp, 1) := by decide +kernel
theorem dX13_qJoins_211 : decode cX13_qJoins 211 = .ok (.ifCond .le 7, 3) := by decide +kernel
theorem dX13_qJoins_214 : decode cX13_qJoins 214 = .ok (.lconst 1, 1) := by decide +kernel
theorem dX13_qJoins_215 : decode cX13_qJoins 215 = .ok (.goto 4, 3) := by decide +kernel
theorem dX13_qJoins_218 : decode cX13_qJoins 218 = .ok (.lconst 0, 1) := by decide +kernel
theorem dX13_qJoins_219 : decode cX13_qJoins 219 = .ok (.invokevirtual 419, 3) := by decide +kernel
theorem dX13_qJoins_222 : decode cX13_qJoins 222 = .ok (.goto 51, 3) := by decide +kernel
theorem dX13_qJoins_225 : decode cX13_qJoins 225 = .ok (.aload_n 0, 1) := by decide +kernel
theorem dX13_qJoins_226 : decode cX13_qJoins 226 = .ok (.lload 4, 2) := by decide +kernel
theorem dX13_qJoins_228 : decode cX13_qJoins 228 = .ok (.lload_n 2, 1) := by decide +kernel
theorem dX13_qJoins_229 : decode cX13_qJoins 229 = .ok (.lcmp, 1) := by decide +kernel
theorem dX13_qJoins_230 : decode cX13_qJoins 230 = .ok (.ifCond .ne 7, 3) := by decide +kernel
theorem dX13_qJoins_233 : decode cX13_qJoins 233 = .ok (.lconst 1, 1) := by decide +kernel
theorem dX13_qJoins_234 : decode cX13_qJoins 234 = .ok (.goto 4, 3) := by decide +kernel
theorem dX13_qJoins_237 : decode cX13_qJoins 237 = .ok (.lconst 0, 1) := by decide +kernel
theorem dX13_qJoins_238 : decode cX13_qJoins 238 = .ok (.invokevirtual 419, 3) := by decide +kernel
theorem dX13_qJoins_241 : decode cX13_qJoins 241 = .ok (.goto 32, 3) := by decide +kernel
theorem dX13_qJoins_244 : decode cX13_qJoins 244 = .ok (.aload_n 0, 1) := by decide +kernel
theorem dX13_qJoins_245 : decode cX13_qJoins 245 = .ok (.lload 4, 2) := by decide +kernel
theorem dX13_qJoins_247 : decode cX13_qJoins 247 = .ok (.lload_n 2, 1) := by decide +kernel
theorem dX13_qJoins_248 : decode cX13_qJoins 248 = .ok (.lmul, 1) := by decide +kernel
theorem dX13_qJoins_249 : decode cX13_qJoins 249 = .ok (.invokevirtual 419, 3) := by decide +kernel
theorem dX13_qJoins_252 : decode cX13_qJoins 252 = .ok (.goto 21, 3) := by decide +kernel
theorem dX13_qJoins_255 : decode cX13_qJoins 255 = .ok (.aload_n 0, 1) := by decide +kernel
theorem dX13_qJoins_256 : decode cX13_qJoins 256 = .ok (.lload 4, 2) := by decide +kernel
theorem dX13_qJoins_258 : decode cX13_qJoins 258 = .ok (.lload_n 2, 1) := by decide +kernel
theorem dX13_qJoins_259 : decode cX13_qJoins 259 = .ok (.ladd, 1) := by decide +kernel
theorem dX13_qJoins_260 : decode cX13_qJoins 260 = .ok (.lconst 0, 1) := by decide +kernel
theorem dX13_qJoins_261 : decode cX13_qJoins 261 = .ok (.lcmp, 1) := by decide +kernel
theorem dX13_qJoins_262 : decode cX13_qJoins 262 = .ok (.ifCond .le 7, 3) := by decide +kernel
theorem dX13_qJoins_265 : decode cX13_qJoins 265 = .ok (.lconst 1, 1) := by decide +kernel
theorem dX13_qJoins_266 : decode cX13_qJoins 266 = .ok (.goto 4, 3) := by decide +kernel
theorem dX13_qJoins_269 : decode cX13_qJoins 269 = .ok (.lconst 0, 1) := by decide +kernel
theorem dX13_qJoins_270 : decode cX13_qJoins 270 = .ok (.invokevirtual 419, 3) := by decide +kernel
theorem dX13_qJoins_273 : decode cX13_qJoins 273 = .ok (.return_, 1) := by decide +kernel
theorem bX13_qJoins_0 {d : Nat}  {v1 : Int32} {I : Ii} {J : Jj} {K : KV}
    (h : vp_in ((I 0 100) - 1) 1700 ∧ (∀ y2 : Int64, y2 = J 77 ((I 0 100) - 1).toNatClampNeg → (vp_in ((I 0 100) - 2) 1700 ∧ (∀ y4 : Int64, y4 = J 77 ((I 0 100) - 2).toNatClampNeg → (∀ I5 : Ii, I5 = u2 I 0 100 ((I 0 100) - 2) → (((v1) = 1 → (CalL wM d mX13_qClip [.long (y4 + y2)] I5 J (fun x8 I6 J7 => (CalV wM d mX13_qPuts [.ref (0), .long (x8)] I6 J7 (fun I9 J10 => (K I9 J10)))))) ∧ ((v1) = 2 → (CalL wM d mX13_qClip [.long (y4 - y2)] I5 J (fun x15 I13 J14 => (CalV wM d mX13_qPuts [.ref (0), .long (x15)] I13 J14 (fun I16 J17 => (K I16 J17)))))) ∧ ((v1) = 3 → (CalL wM d mX13_qClip [.long (y4 * y2)] I5 J (fun x22 I20 J21 => (CalV wM d mX13_qPuts [.ref (0), .long (x22)] I20 J21 (fun I23 J24 => (K I23 J24)))))) ∧ ((v1) = 4 → (CalL wM d mX13_qFloor [.long (y4), .long (y2)] I5 J (fun x29 I27 J28 => (CalV wM d mX13_qPuts [.ref (0), .long (x29)] I27 J28 (fun I30 J31 => (K I30 J31)))))) ∧ ((v1) = 5 → (((0 ≤ (lg_cmp y4 y2)) → (CalV wM d mX13_qPuts [.ref (0), .long (y2)] I5 J (fun I35 J36 => (K I35 J36)))) ∧ ((¬ 0 ≤ (lg_cmp y4 y2)) → (CalV wM d mX13_qPuts [.ref (0), .long (y4)] I5 J (fun I38 J39 => (K I38 J39)))))) ∧ ((v1) = 6 → ((((lg_cmp y4 y2) ≤ 0) → (CalV wM d mX13_qPuts [.ref (0), .long (y2)] I5 J (fun I42 J43 => (K I42 J43)))) ∧ ((¬ (lg_cmp y4 y2) ≤ 0) → (CalV wM d mX13_qPuts [.ref (0), .long (y4)] I5 J (fun I45 J46 => (K I45 J46)))))) ∧ ((v1) = 7 → (((0 ≤ (lg_cmp y4 y2)) → (CalV wM d mX13_qPuts [.ref (0), .long (0)] I5 J (fun I49 J50 => (K I49 J50)))) ∧ ((¬ 0 ≤ (lg_cmp y4 y2)) → (CalV wM d mX13_qPuts [.ref (0), .long (1)] I5 J (fun I52 J53 => (K I52 J53)))))) ∧ ((v1) = 8 → ((((lg_cmp y4 y2) ≤ 0) → (CalV wM d mX13_qPuts [.ref (0), .long (0)] I5 J (fun I56 J57 => (K I56 J57)))) ∧ ((¬ (lg_cmp y4 y2) ≤ 0) → (CalV wM d mX13_qPuts [.ref (0), .long (1)] I5 J (fun I59 J60 => (K I59 J60)))))) ∧ ((v1) = 9 → (((¬ (lg_cmp y4 y2) = 0) → (CalV wM d mX13_qPuts [.ref (0), .long (0)] I5 J (fun I63 J64 => (K I63 J64)))) ∧ (((lg_cmp y4 y2) = 0) → (CalV wM d mX13_qPuts [.ref (0), .long (1)] I5 J (fun I66 J67 => (K I66 J67)))))) ∧ ((v1) = 10 → (CalV wM d mX13_qPuts [.ref (0), .long (y4 * y2)] I5 J (fun I69 J70 => (K I69 J70)))) ∧ (¬ (v1) = 1 → ¬ (v1) = 2 → ¬ (v1) = 3 → ¬ (v1) = 4 → ¬ (v1) = 5 → ¬ (v1) = 6 → ¬ (v1) = 7 → ¬ (v1) = 8 → ¬ (v1) = 9 → ¬ (v1) = 10 → ((((lg_cmp (y4 + y2) 0) ≤ 0) → (CalV wM d mX13_qPuts [.ref (0), .long (0)] I5 J (fun I73 J74 => (K I73 J74)))) ∧ ((¬ (lg_cmp (y4 + y2) 0) ≤ 0) → (CalV wM d mX13_qPuts [.ref (0), .long (1)] I5 J (fun I76 J77 => (K I76 J77)))))))))))) :
    GoV wM (d + 1) mX13_qJoins 0 [(0, .ref (0)), (1, .int (v1))] [] I J K :=
  (g_aload_n dX13_qJoins_0 0 0 rfl rfl (g_getP dX13_qJoins_1 fl_X13_248 rfl obM_0 rfl (g_aload_n dX13_qJoins_4 0 0 rfl rfl (g_getI dX13_qJoins_5 fl_X13_416 rfl obM_0 (g_iconst dX13_qJoins_8 kc_1 (g_isub dX13_qJoins_9 (have b1 := h.1; g_lald dX13_qJoins_10 arM_77 b1 (g_lstore_n dX13_qJoins_11 rfl (by decide) rfl (g_aload_n dX13_qJoins_12 1 0 rfl rfl (g_getP dX13_qJoins_13 fl_X13_248 rfl obM_0 rfl (g_aload_n dX13_qJoins_16 1 0 rfl rfl (g_getI dX13_qJoins_17 fl_X13_416 rfl obM_0 (g_iconst dX13_qJoins_20 kc_2 (g_isub dX13_qJoins_21 (have b3 := (h.2 _ rfl).1; g_lald dX13_qJoins_22 arM_77 b3 (g_lstore dX13_qJoins_23 (by decide) rfl (g_aload_n dX13_qJoins_25 2 0 rfl rfl (g_dup dX13_qJoins_26 rfl (g_getI dX13_qJoins_27 fl_X13_416 rfl obM_0 (g_iconst dX13_qJoins_30 kc_2 (g_isub dX13_qJoins_31 (g_putI dX13_qJoins_32 fl_X13_416 rfl rfl obM_0 (g_iload_n dX13_qJoins_35 3 1 rfl rfl (by
      by_cases q36_1 : (v1) = 1
      · exact g_tableIn (off := 56) dX13_qJoins_36 (by rw [q36_1]; decide) (by rw [q36_1]; decide) (by rw [q36_1]; rfl) rfl (g_aload_n dX13_qJoins_92 2 0 rfl rfl (g_lload dX13_qJoins_93 0 rfl (g_lload_n dX13_qJoins_95 1 2 rfl rfl (g_ladd dX13_qJoins_96 (g_callsL dX13_qJoins_97 ml_X13_622 md_X13_qClip ms_X13_qClip rfl rfl (Nat.le_of_ble_eq_true rfl) (CalL.mono ((((h.2 _ rfl).2 _ rfl) _ rfl).1 q36_1) (fun x8 I6 J7 h12 => (g_callvV dX13_qJoins_100 ml_X13_419 md_X13_qPuts mv_X13_qPuts obM_0 rfl rfl rfl (Nat.le_of_ble_eq_true rfl) (CalV.mono h12 (fun I9 J10 h11 => (g_goto dX13_qJoins_103 rfl (g_return dX13_qJoins_273 rfl ⟨rfl, h11⟩))))))))))))
      by_cases q36_2 : (v1) = 2
      · exact g_tableIn (off := 70) dX13_qJoins_36 (by rw [q36_2]; decide) (by rw [q36_2]; decide) (by rw [q36_2]; rfl) rfl (g_aload_n dX13_qJoins_106 2 0 rfl rfl (g_lload dX13_qJoins_107 0 rfl (g_lload_n dX13_qJoins_109 1 2 rfl rfl (g_lsub dX13_qJoins_110 (g_callsL dX13_qJoins_111 ml_X13_622 md_X13_qClip ms_X13_qClip rfl rfl (Nat.le_of_ble_eq_true rfl) (CalL.mono ((((h.2 _ rfl).2 _ rfl) _ rfl).2.1 q36_2) (fun x15 I13 J14 h19 => (g_callvV dX13_qJoins_114 ml_X13_419 md_X13_qPuts mv_X13_qPuts obM_0 rfl rfl rfl (Nat.le_of_ble_eq_true rfl) (CalV.mono h19 (fun I16 J17 h18 => (g_goto dX13_qJoins_117 rfl (g_return dX13_qJoins_273 rfl ⟨rfl, h18⟩))))))))))))
      by_cases q36_3 : (v1) = 3
      · exact g_tableIn (off := 84) dX13_qJoins_36 (by rw [q36_3]; decide) (by rw [q36_3]; decide) (by rw [q36_3]; rfl) rfl (g_aload_n dX13_qJoins_120 2 0 rfl rfl (g_lload dX13_qJoins_121 0 rfl (g_lload_n dX13_qJoins_123 1 2 rfl rfl (g_lmul dX13_qJoins_124 (g_callsL dX13_qJoins_125 ml_X13_622 md_X13_qClip ms_X13_qClip rfl rfl (Nat.le_of_ble_eq_true rfl) (CalL.mono ((((h.2 _ rfl).2 _ rfl) _ rfl).2.2.1 q36_3) (fun x22 I20 J21 h26 => (g_callvV dX13_qJoins_128 ml_X13_419 md_X13_qPuts mv_X13_qPuts obM_0 rfl rfl rfl (Nat.le_of_ble_eq_true rfl) (CalV.mono h26 (fun I23 J24 h25 => (g_goto dX13_qJoins_131 rfl (g_return dX13_qJoins_273 rfl ⟨rfl, h25⟩))))))))))))
      by_cases q36_4 : (v1) = 4
      · exact g_tableIn (off := 98) dX13_qJoins_36 (by rw [q36_4]; decide) (by rw [q36_4]; decide) (by rw [q36_4]; rfl) rfl (g_aload_n dX13_qJoins_134 2 0 rfl rfl (g_lload dX13_qJoins_135 0 rfl (g_lload_n dX13_qJoins_137 1 2 rfl rfl (g_callsL dX13_qJoins_138 ml_X13_626 md_X13_qFloor ms_X13_qFloor rfl rfl (Nat.le_of_ble_eq_true rfl) (CalL.mono ((((h.2 _ rfl).2 _ rfl) _ rfl).2.2.2.1 q36_4) (fun x29 I27 J28 h33 => (g_callvV dX13_qJoins_141 ml_X13_419 md_X13_qPuts mv_X13_qPuts obM_0 rfl rfl rfl (Nat.le_of_ble_eq_true rfl) (CalV.mono h33 (fun I30 J31 h32 => (g_goto dX13_qJoins_144 rfl (g_return dX13_qJoins_273 rfl ⟨rfl, h32⟩)))))))))))
      by_cases q36_5 : (v1) = 5
      · exact g_tableIn (off := 111) dX13_qJoins_36 (by rw [q36_5]; decide) (by rw [q36_5]; decide) (by rw [q36_5]; rfl) rfl (g_aload_n dX13_qJoins_147 2 0 rfl rfl (g_lload dX13_qJoins_148 0 rfl (g_lload_n dX13_qJoins_150 1 2 rfl rfl (g_lcmp dX13_qJoins_151 (g_if_ge dX13_qJoins_152 rfl (fun q34 => (g_lload_n dX13_qJoins_160 1 2 rfl rfl (g_callvV dX13_qJoins_161 ml_X13_419 md_X13_qPuts mv_X13_qPuts obM_0 rfl rfl rfl (Nat.le_of_ble_eq_true rfl) (CalV.mono (((((h.2 _ rfl).2 _ rfl) _ rfl).2.2.2.2.1 q36_5).1 q34) (fun I35 J36 h37 => (g_goto dX13_qJoins_164 rfl (g_return dX13_qJoins_273 rfl ⟨rfl, h37⟩))))))) (fun q34 => (g_lload dX13_qJoins_155 0 rfl (g_goto dX13_qJoins_157 rfl (g_callvV dX13_qJoins_161 ml_X13_419 md_X13_qPuts mv_X13_qPuts obM_0 rfl rfl rfl (Nat.le_of_ble_eq_true rfl) (CalV.mono (((((h.2 _ rfl).2 _ rfl) _ rfl).2.2.2.2.1 q36_5).2 q34) (fun I38 J39 h40 => (g_goto dX13_qJoins_164 rfl (g_return dX13_qJoins_273 rfl ⟨rfl, h40⟩)))))))))))))
      by_cases q36_6 : (v1) = 6
      · exact g_tableIn (off := 131) dX13_qJoins_36 (by rw [q36_6]; decide) (by rw [q36_6]; decide) (by rw [q36_6]; rfl) rfl (g_aload_n dX13_qJoins_167 2 0 rfl rfl (g_lload dX13_qJoins_168 0 rfl (g_lload_n dX13_qJoins_170 1 2 rfl rfl (g_lcmp dX13_qJoins_171 (g_if_le dX13_qJoins_172 rfl (fun q41 => (g_lload_n dX13_qJoins_180 1 2 rfl rfl (g_callvV dX13_qJoins_181 ml_X13_419 md_X13_qPuts mv_X13_qPuts obM_0 rfl rfl rfl (Nat.le_of_ble_eq_true rfl) (CalV.mono (((((h.2 _ rfl).2 _ rfl) _ rfl).2.2.2.2.2.1 q36_6).1 q41) (fun I42 J43 h44 => (g_goto dX13_qJoins_184 rfl (g_return dX13_qJoins_273 rfl ⟨rfl, h44⟩))))))) (fun q41 => (g_lload dX13_qJoins_175 0 rfl (g_goto dX13_qJoins_177 rfl (g_callvV dX13_qJoins_181 ml_X13_419 md_X13_qPuts mv_X13_qPuts obM_0 rfl rfl rfl (Nat.le_of_ble_eq_true rfl) (CalV.mono (((((h.2 _ rfl).2 _ rfl) _ rfl).2.2.2.2.2.1 q36_6).2 q41) (fun I45 J46 h47 => (g_goto dX13_qJoins_184 rfl (g_return dX13_qJoins_273 rfl ⟨rfl, h47⟩)))))))))))))
      by_cases q36_7 : (v1) = 7
      · exact g_tableIn (off := 151) dX13_qJoins_36 (by rw [q36_7]; decide) (by rw [q36_7]; decide) (by rw [q36_7]; rfl) rfl (g_aload_n dX13_qJoins_187 2 0 rfl rfl (g_lload dX13_qJoins_188 0 rfl (g_lload_n dX13_qJoins_190 1 2 rfl rfl (g_lcmp dX13_qJoins_191 (g_if_ge dX13_qJoins_192 rfl (fun q48 => (g_lconst dX13_qJoins_199 kq_0 (g_callvV dX13_qJoins_200 ml_X13_419 md_X13_qPuts mv_X13_qPuts obM_0 rfl rfl rfl (Nat.le_of_ble_eq_true rfl) (CalV.mono (((((h.2 _ rfl).2 _ rfl) _ rfl).2.2.2.2.2.2.1 q36_7).1 q48) (fun I49 J50 h51 => (g_goto dX13_qJoins_203 rfl (g_return dX13_qJoins_273 rfl ⟨rfl, h51⟩))))))) (fun q48 => (g_lconst dX13_qJoins_195 kq_1 (g_goto dX13_qJoins_196 rfl (g_callvV dX13_qJoins_200 ml_X13_419 md_X13_qPuts mv_X13_qPuts obM_0 rfl rfl rfl (Nat.le_of_ble_eq_true rfl) (CalV.mono (((((h.2 _ rfl).2 _ rfl) _ rfl).2.2.2.2.2.2.1 q36_7).2 q48) (fun I52 J53 h54 => (g_goto dX13_qJoins_203 rfl (g_return dX13_qJoins_273 rfl ⟨rfl, h54⟩)))))))))))))
      by_cases q36_8 : (v1) = 8
      · exact g_tableIn (off := 170) dX13_qJoins_36 (by rw [q36_8]; decide) (by rw [q36_8]; decide) (by rw [q36_8]; rfl) rfl (g_aload_n dX13_qJoins_206 2 0 rfl rfl (g_lload dX13_qJoins_207 0 rfl (g_lload_n dX13_qJoins_209 1 2 rfl rfl (g_lcmp dX13_qJoins_210 (g_if_le dX13_qJoins_211 rfl (fun q55 => (g_lconst dX13_qJoins_218 kq_0 (g_callvV dX13_qJoins_219 ml_X13_419 md_X13_qPuts mv_X13_qPuts obM_0 rfl rfl rfl (Nat.le_of_ble_eq_true rfl) (CalV.mono (((((h.2 _ rfl).2 _ rfl) _ rfl).2.2.2.2.2.2.2.1 q36_8).1 q55) (fun I56 J57 h58 => (g_goto dX13_qJoins_222 rfl (g_return dX13_qJoins_273 rfl ⟨rfl, h58⟩))))))) (fun q55 => (g_lconst dX13_qJoins_214 kq_1 (g_goto dX13_qJoins_215 rfl (g_callvV dX13_qJoins_219 ml_X13_419 md_X13_qPuts mv_X13_qPuts obM_0 rfl rfl rfl (Nat.le_of_ble_eq_true rfl) (CalV.mono (((((h.2 _ rfl).2 _ rfl) _ rfl).2.2.2.2.2.2.2.1 q36_8).2 q55) (fun I59 J60 h61 => (g_goto dX13_qJoins_222 rfl (g_return dX13_qJoins_273 rfl ⟨rfl, h61⟩)))))))))))))
      by_cases q36_9 : (v1) = 9
      · exact g_tableIn (off := 189) dX13_qJoins_36 (by rw [q36_9]; decide) (by rw [q36_9]; decide) (by rw [q36_9]; rfl) rfl (g_aload_n dX13_qJoins_225 2 0 rfl rfl (g_lload dX13_qJoins_226 0 rfl (g_lload_n dX13_qJoins_228 1 2 rfl rfl (g_lcmp dX13_qJoins_229 (g_if_ne dX13_qJoins_230 rfl (fun q62 => (g_lconst dX13_qJoins_237 kq_0 (g_callvV dX13_qJoins_238 ml_X13_419 md_X13_qPuts mv_X13_qPuts obM_0 rfl rfl rfl (Nat.le_of_ble_eq_true rfl) (CalV.mono (((((h.2 _ rfl).2 _ rfl) _ rfl).2.2.2.2.2.2.2.2.1 q36_9).1 q62) (fun I63 J64 h65 => (g_goto dX13_qJoins_241 rfl (g_return dX13_qJoins_273 rfl ⟨rfl, h65⟩))))))) (fun q62 => (g_lconst dX13_qJoins_233 kq_1 (g_goto dX13_qJoins_234 rfl (g_callvV dX13_qJoins_238 ml_X13_419 md_X13_qPuts mv_X13_qPuts obM_0 rfl rfl rfl (Nat.le_of_ble_eq_true rfl) (CalV.mono (((((h.2 _ rfl).2 _ rfl) _ rfl).2.2.2.2.2.2.2.2.1 q36_9).2 q62) (fun I66 J67 h68 => (g_goto dX13_qJoins_241 rfl (g_return dX13_qJoins_273 rfl ⟨rfl, h68⟩)))))))))))))
      by_cases q36_10 : (v1) = 10
      · exact g_tableIn (off := 208) dX13_qJoins_36 (by rw [q36_10]; decide) (by rw [q36_10]; decide) (by rw [q36_10]; rfl) rfl (g_aload_n dX13_qJoins_244 2 0 rfl rfl (g_lload dX13_qJoins_245 0 rfl (g_lload_n dX13_qJoins_247 1 2 rfl rfl (g_lmul dX13_qJoins_248 (g_callvV dX13_qJoins_249 ml_X13_419 md_X13_qPuts mv_X13_qPuts obM_0 rfl rfl rfl (Nat.le_of_ble_eq_true rfl) (CalV.mono ((((h.2 _ rfl).2 _ rfl) _ rfl).2.2.2.2.2.2.2.2.2.1 q36_10) (fun I69 J70 h71 => (g_goto dX13_qJoins_252 rfl (g_return dX13_qJoins_273 rfl ⟨rfl, h71⟩)))))))))
      have e36_1 : (v1).toInt ≠ 1 := fun e => q36_1 (Int32.toInt_inj.mp e)
      have e36_2 : (v1).toInt ≠ 2 := fun e => q36_2 (Int32.toInt_inj.mp e)
      have e36_3 : (v1).toInt ≠ 3 := fun e => q36_3 (Int32.toInt_inj.mp e)
      have e36_4 : (v1).toInt ≠ 4 := fun e => q36_4 (Int32.toInt_inj.mp e)
      have e36_5 : (v1).toInt ≠ 5 := fun e => q36_5 (Int32.toInt_inj.mp e)
      have e36_6 : (v1).toInt ≠ 6 := fun e => q36_6 (Int32.toInt_inj.mp e)
      have e36_7 : (v1).toInt ≠ 7 := fun e => q36_7 (Int32.toInt_inj.mp e)
      have e36_8 : (v1).toInt ≠ 8 := fun e => q36_8 (Int32.toInt_inj.mp e)
      have e36_9 : (v1).toInt ≠ 9 := fun e => q36_9 (Int32.toInt_inj.mp e)
      have e36_10 : (v1).toInt ≠ 10 := fun e => q36_10 (Int32.toInt_inj.mp e)
      exact g_tableOut dX13_qJoins_36 (by omega) rfl (g_aload_n dX13_qJoins_255 2 0 rfl rfl (g_lload dX13_qJoins_256 0 rfl (g_lload_n dX13_qJoins_258 1 2 rfl rfl (g_ladd dX13_qJoins_259 (g_lconst dX13_qJoins_260 kq_0 (g_lcmp dX13_qJoins_261 (g_if_le dX13_qJoins_262 rfl (fun q72 => (g_lconst dX13_qJoins_269 kq_0 (g_callvV dX13_qJoins_270 ml_X13_419 md_X13_qPuts mv_X13_qPuts obM_0 rfl rfl rfl (Nat.le_of_ble_eq_true rfl) (CalV.mono (((((h.2 _ rfl).2 _ rfl) _ rfl).2.2.2.2.2.2.2.2.2.2 q36_1 q36_2 q36_3 q36_4 q36_5 q36_6 q36_7 q36_8 q36_9 q36_10).1 q72) (fun I73 J74 h75 => (g_return dX13_qJoins_273 rfl ⟨rfl, h75⟩)))))) (fun q72 => (g_lconst dX13_qJoins_265 kq_1 (g_goto dX13_qJoins_266 rfl (g_callvV dX13_qJoins_270 ml_X13_419 md_X13_qPuts mv_X13_qPuts obM_0 rfl rfl rfl (Nat.le_of_ble_eq_true rfl) (CalV.mono (((((h.2 _ rfl).2 _ rfl) _ rfl).2.2.2.2.2.2.2.2.2.2 q36_1 q36_2 q36_3 q36_4 q36_5 q36_6 q36_7 q36_8 q36_9 q36_10).2 q72) (fun I76 J77 h78 => (g_return dX13_qJoins_273 rfl ⟨rfl, h78⟩))))))))))))))))))))))))))))))))))))))
theorem dX13_qClip_0 : decode cX13_qClip 0 = .ok (.lload_n 0, 1) := by decide +kernel
theorem dX13_qClip_1 : decode cX13_qClip 1 = .ok (.ldc2_w 618, 3) := by decide +kernel
theorem dX13_qClip_4 : decode cX13_qClip 4 = .ok (.lcmp, 1) := by decide +kernel
theorem dX13_qClip_5 : decode cX13_qClip 5 = .ok (.ifCond .le 9, 3) := by decide +kernel
theorem dX13_qClip_8 : decode cX13_qClip 8 = .ok (.ldc2_w 618, 3) := by decide +kernel
theorem dX13_qClip_11 : decode cX13_qClip 11 = .ok (.goto 18, 3) := by decide +kernel
theorem dX13_qClip_14 : decode cX13_qClip 14 = .ok (.lload_n 0, 1) := by decide +kernel
theorem dX13_qClip_15 : decode cX13_qClip 15 = .ok (.ldc2_w 620, 3) := by decide +kernel
theorem dX13_qClip_18 : decode cX13_qClip 18 = .ok (.lcmp, 1) := by decide +kernel
theorem dX13_qClip_19 : decode cX13_qClip 19 = .ok (.ifCond .ge 9, 3) := by decide +kernel
theorem dX13_qClip_22 : decode cX13_qClip 22 = .ok (.ldc2_w 620, 3) := by decide +kernel
theorem dX13_qClip_25 : decode cX13_qClip 25 = .ok (.goto 4, 3) := by decide +kernel
theorem dX13_qClip_28 : decode cX13_qClip 28 = .ok (.lload_n 0, 1) := by decide +kernel
theorem dX13_qClip_29 : decode cX13_qClip 29 = .ok (.lreturn, 1) := by decide +kernel
theorem bX13_qClip_0 {d : Nat}  {v0 : Int64} {I : Ii} {J : Jj} {K : KL}
    (h : (((lg_cmp v0 1000000) ≤ 0) → (((0 ≤ (lg_cmp v0 ((-1000000)))) → (K (v0) I J)) ∧ ((¬ 0 ≤ (lg_cmp v0 ((-1000000)))) → (K ((-1000000)) I J)))) ∧ ((¬ (lg_cmp v0 1000000) ≤ 0) → (K (1000000) I J))) :
    GoL wM d mX13_qClip 0 [(0, .long (v0))] [] I J K :=
  (g_lload_n dX13_qClip_0 0 0 rfl rfl (g_ldc2 dX13_qClip_1 kl_X13_618 (g_lcmp dX13_qClip_4 (g_if_le dX13_qClip_5 rfl (fun q1 => (g_lload_n dX13_qClip_14 0 0 rfl rfl (g_ldc2 dX13_qClip_15 kl_X13_620 (g_lcmp dX13_qClip_18 (g_if_ge dX13_qClip_19 rfl (fun q2 => (g_lload_n dX13_qClip_28 0 0 rfl rfl (g_lreturn dX13_qClip_29 rfl ⟨_, rfl, ((h.1 q1).1 q2)⟩))) (fun q2 => (g_ldc2 dX13_qClip_22 kl_X13_620 (g_goto dX13_qClip_25 rfl (g_lreturn dX13_qClip_29 rfl ⟨_, rfl, ((h.1 q1).2 q2)⟩))))))))) (fun q1 => (g_ldc2 dX13_qClip_8 kl_X13_618 (g_goto dX13_qClip_11 rfl (g_lreturn dX13_qClip_29 rfl ⟨_, rfl, (h.2 q1)⟩))))))))
theorem dX13_qFloor_0 : decode cX13_qFloor 0 = .ok (.lload_n 2, 1) := by decide +kernel
theorem dX13_qFloor_1 : decode cX13_qFloor 1 = .ok (.lconst 0, 1) := by decide +kernel
theorem dX13_qFloor_2 : decode cX13_qFloor 2 = .ok (.lcmp, 1) := by decide +kernel
theorem dX13_qFloor_3 : decode cX13_qFloor 3 = .ok (.ifCond .ne 5, 3) := by decide +kernel
theorem dX13_qFloor_6 : decode cX13_qFloor 6 = .ok (.lconst 0, 1) := by decide +kernel
theorem dX13_qFloor_7 : decode cX13_qFloor 7 = .ok (.lreturn, 1) := by decide +kernel
theorem dX13_qFloor_8 : decode cX13_qFloor 8 = .ok (.lload_n 0, 1) := by decide +kernel
theorem dX13_qFloor_9 : decode cX13_qFloor 9 = .ok (.lload_n 2, 1) := by decide +kernel
theorem dX13_qFloor_10 : decode cX13_qFloor 10 = .ok (.ldiv, 1) := by decide +kernel
theorem dX13_qFloor_11 : decode cX13_qFloor 11 = .ok (.lstore 4, 2) := by decide +kernel
theorem dX13_qFloor_13 : decode cX13_qFloor 13 = .ok (.lload_n 0, 1) := by decide +kernel
theorem dX13_qFloor_14 : decode cX13_qFloor 14 = .ok (.lload_n 2, 1) := by decide +kernel
theorem dX13_qFloor_15 : decode cX13_qFloor 15 = .ok (.lrem, 1) := by decide +kernel
theorem dX13_qFloor_16 : decode cX13_qFloor 16 = .ok (.lconst 0, 1) := by decide +kernel
theorem dX13_qFloor_17 : decode cX13_qFloor 17 = .ok (.lcmp, 1) := by decide +kernel
theorem dX13_qFloor_18 : decode cX13_qFloor 18 = .ok (.ifCond .eq 35, 3) := by decide +kernel
theorem dX13_qFloor_21 : decode cX13_qFloor 21 = .ok (.lload_n 0, 1) := by decide +kernel
theorem dX13_qFloor_22 : decode cX13_qFloor 22 = .ok (.lconst 0, 1) := by decide +kernel
theorem dX13_qFloor_23 : decode cX13_qFloor 23 = .ok (.lcmp, 1) := by decide +kernel
theorem dX13_qFloor_24 : decode cX13_qFloor 24 = .ok (.ifCond .ge 7, 3) := by decide +kernel
theorem dX13_qFloor_27 : decode cX13_qFloor 27 = .ok (.iconst 1, 1) := by decide +kernel
theorem dX13_qFloor_28 : decode cX13_qFloor 28 = .ok (.goto 4, 3) := by decide +kernel
theorem dX13_qFloor_31 : decode cX13_qFloor 31 = .ok (.iconst 0, 1) := by decide +kernel
theorem dX13_qFloor_32 : decode cX13_qFloor 32 = .ok (.lload_n 2, 1) := by decide +kernel
theorem dX13_qFloor_33 : decode cX13_qFloor 33 = .ok (.lconst 0, 1) := by decide +kernel
theorem dX13_qFloor_34 : decode cX13_qFloor 34 = .ok (.lcmp, 1) := by decide +kernel
theorem dX13_qFloor_35 : decode cX13_qFloor 35 = .ok (.ifCond .ge 7, 3) := by decide +kernel
theorem dX13_qFloor_38 : decode cX13_qFloor 38 = .ok (.iconst 1, 1) := by decide +kernel
theorem dX13_qFloor_39 : decode cX13_qFloor 39 = .ok (.goto 4, 3) := by decide +kernel
theorem dX13_qFloor_42 : decode cX13_qFloor 42 = .ok (.iconst 0, 1) := by decide +kernel
theorem dX13_qFloor_43 : decode cX13_qFloor 43 = .ok (.if_icmp .eq 10, 3) := by decide +kernel
theorem dX13_qFloor_46 : decode cX13_qFloor 46 = .ok (.lload 4, 2) := by decide +kernel
theorem dX13_qFloor_48 : decode cX13_qFloor 48 = .ok (.lconst 1, 1) := by decide +kernel
theorem dX13_qFloor_49 : decode cX13_qFloor 49 = .ok (.lsub, 1) := by decide +kernel
theorem dX13_qFloor_50 : decode cX13_qFloor 50 = .ok (.goto 5, 3) := by decide +kernel
theorem dX13_qFloor_53 : decode cX13_qFloor 53 = .ok (.lload 4, 2) := by decide +kernel
theorem dX13_qFloor_55 : decode cX13_qFloor 55 = .ok (.lreturn, 1) := by decide +kernel
theorem bX13_qFloor_0 {d : Nat}  {v0 : Int64} {v2 : Int64} {I : Ii} {J : Jj} {K : KL}
    (h : ((¬ (lg_cmp v2 0) = 0) → ((¬ v2 = 0) ∧ ((¬ v2 = 0) ∧ ((((lg_cmp (v0 - v0 / v2 * v2) 0) = 0) → (K (v0 / v2) I J)) ∧ ((¬ (lg_cmp (v0 - v0 / v2 * v2) 0) = 0) → (((0 ≤ (lg_cmp v0 0)) → (((0 ≤ (lg_cmp v2 0)) → (K (v0 / v2) I J)) ∧ ((¬ 0 ≤ (lg_cmp v2 0)) → (K ((v0 / v2) - 1) I J)))) ∧ ((¬ 0 ≤ (lg_cmp v0 0)) → (((0 ≤ (lg_cmp v2 0)) → (K ((v0 / v2) - 1) I J)) ∧ ((¬ 0 ≤ (lg_cmp v2 0)) → (K (v0 / v2) I J)))))))))) ∧ (((lg_cmp v2 0) = 0) → (K (0) I J))) :
    GoL wM d mX13_qFloor 0 [(0, .long (v0)), (2, .long (v2))] [] I J K :=
  (g_lload_n dX13_qFloor_0 1 2 rfl rfl (g_lconst dX13_qFloor_1 kq_0 (g_lcmp dX13_qFloor_2 (g_if_ne dX13_qFloor_3 rfl (fun q1 => (g_lload_n dX13_qFloor_8 0 0 rfl rfl (g_lload_n dX13_qFloor_9 1 2 rfl rfl (g_ldiv dX13_qFloor_10 (h.1 q1).1 (g_lstore dX13_qFloor_11 (by decide) rfl (g_lload_n dX13_qFloor_13 1 0 rfl rfl (g_lload_n dX13_qFloor_14 2 2 rfl rfl (g_lrem dX13_qFloor_15 (h.1 q1).2.1 (g_lconst dX13_qFloor_16 kq_0 (g_lcmp dX13_qFloor_17 (g_if_eq dX13_qFloor_18 rfl (fun q2 => (g_lload dX13_qFloor_53 0 rfl (g_lreturn dX13_qFloor_55 rfl ⟨_, rfl, ((h.1 q1).2.2.1 q2)⟩))) (fun q2 => (g_lload_n dX13_qFloor_21 1 0 rfl rfl (g_lconst dX13_qFloor_22 kq_0 (g_lcmp dX13_qFloor_23 (g_if_ge dX13_qFloor_24 rfl (fun q3 => (g_iconst dX13_qFloor_31 kc_0 (g_lload_n dX13_qFloor_32 2 2 rfl rfl (g_lconst dX13_qFloor_33 kq_0 (g_lcmp dX13_qFloor_34 (g_if_ge dX13_qFloor_35 rfl (fun q4 => (g_iconst dX13_qFloor_42 kc_0 (g_icmp_eq dX13_qFloor_43 rfl (fun _ => (g_lload dX13_qFloor_53 0 rfl (g_lreturn dX13_qFloor_55 rfl ⟨_, rfl, ((((h.1 q1).2.2.2 q2).1 q3).1 q4)⟩))) (fun q => absurd q (by decide))))) (fun q4 => (g_iconst dX13_qFloor_38 kc_1 (g_goto dX13_qFloor_39 rfl (g_icmp_eq dX13_qFloor_43 rfl (fun q => absurd q (by decide)) (fun _ => (g_lload dX13_qFloor_46 0 rfl (g_lconst dX13_qFloor_48 kq_1 (g_lsub dX13_qFloor_49 (g_goto dX13_qFloor_50 rfl (g_lreturn dX13_qFloor_55 rfl ⟨_, rfl, ((((h.1 q1).2.2.2 q2).1 q3).2 q4)⟩)))))))))))))))) (fun q3 => (g_iconst dX13_qFloor_27 kc_1 (g_goto dX13_qFloor_28 rfl (g_lload_n dX13_qFloor_32 2 2 rfl rfl (g_lconst dX13_qFloor_33 kq_0 (g_lcmp dX13_qFloor_34 (g_if_ge dX13_qFloor_35 rfl (fun q5 => (g_iconst dX13_qFloor_42 kc_0 (g_icmp_eq dX13_qFloor_43 rfl (fun q => absurd q (by decide)) (fun _ => (g_lload dX13_qFloor_46 0 rfl (g_lconst dX13_qFloor_48 kq_1 (g_lsub dX13_qFloor_49 (g_goto dX13_qFloor_50 rfl (g_lreturn dX13_qFloor_55 rfl ⟨_, rfl, ((((h.1 q1).2.2.2 q2).2 q3).1 q5)⟩))))))))) (fun q5 => (g_iconst dX13_qFloor_38 kc_1 (g_goto dX13_qFloor_39 rfl (g_icmp_eq dX13_qFloor_43 rfl (fun _ => (g_lload dX13_qFloor_53 0 rfl (g_lreturn dX13_qFloor_55 rfl ⟨_, rfl, ((((h.1 q1).2.2.2 q2).2 q3).2 q5)⟩))) (fun q => absurd q (by decide))))))))))))))))))))))))))))) (fun q1 => (g_lconst dX13_qFloor_6 kq_0 (g_lreturn dX13_qFloor_7 rfl ⟨_, rfl, (h.2 q1)⟩)))))))
theorem dX13_kept_0 : decode cX13_kept 0 = .ok (.iload_n 1, 1) := by decide +kernel
theorem dX13_kept_1 : decode cX13_kept 1 = .ok (.i2l, 1) := by decide +kernel
theorem dX13_kept_2 : decode cX13_kept 2 = .ok (.lconst 0, 1) := by decide +kernel
theorem dX13_kept_3 : decode cX13_kept 3 = .ok (.aload_n 0, 1) := by decide +kernel
theorem dX13_kept_4 : decode cX13_kept 4 = .ok (.getfield 139, 3) := by decide +kernel
theorem dX13_kept_7 : decode cX13_kept 7 = .ok (.bipush 41, 2) := by decide +kernel
theorem dX13_kept_9 : decode cX13_kept 9 = .ok (.iaload, 1) := by decide +kernel
theorem dX13_kept_10 : decode cX13_kept 10 = .ok (.iconst 1, 1) := by decide +kernel
theorem dX13_kept_11 : decode cX13_kept 11 = .ok (.isub, 1) := by decide +kernel
theorem dX13_kept_12 : decode cX13_kept 12 = .ok (.i2l, 1) := by decide +kernel
theorem dX13_kept_13 : decode cX13_kept 13 = .ok (.invokestatic 297, 3) := by decide +kernel
theorem dX13_kept_16 : decode cX13_kept 16 = .ok (.ifCond .eq 31, 3) := by decide +kernel
theorem dX13_kept_19 : decode cX13_kept 19 = .ok (.iload_n 2, 1) := by decide +kernel
theorem dX13_kept_20 : decode cX13_kept 20 = .ok (.i2l, 1) := by decide +kernel
theorem dX13_kept_21 : decode cX13_kept 21 = .ok (.lconst 0, 1) := by decide +kernel
theorem dX13_kept_22 : decode cX13_kept 22 = .ok (.ldc2_w 512, 3) := by decide +kernel
theorem dX13_kept_25 : decode cX13_kept 25 = .ok (.invokestatic 297, 3) := by decide +kernel
theorem dX13_kept_28 : decode cX13_kept 28 = .ok (.ifCond .eq 19, 3) := by decide +kernel
theorem dX13_kept_31 : decode cX13_kept 31 = .ok (.aload_n 0, 1) := by decide +kernel
theorem dX13_kept_32 : decode cX13_kept 32 = .ok (.getfield 139, 3) := by decide +kernel
theorem dX13_kept_35 : decode cX13_kept 35 = .ok (.bipush 42, 2) := by decide +kernel
theorem dX13_kept_37 : decode cX13_kept 37 = .ok (.iconst 3, 1) := by decide +kernel
theorem dX13_kept_38 : decode cX13_kept 38 = .ok (.iload_n 1, 1) := by decide +kernel
theorem dX13_kept_39 : decode cX13_kept 39 = .ok (.imul, 1) := by decide +kernel
theorem dX13_kept_40 : decode cX13_kept 40 = .ok (.iadd, 1) := by decide +kernel
theorem dX13_kept_41 : decode cX13_kept 41 = .ok (.iload_n 2, 1) := by decide +kernel
theorem dX13_kept_42 : decode cX13_kept 42 = .ok (.iadd, 1) := by decide +kernel
theorem dX13_kept_43 : decode cX13_kept 43 = .ok (.iaload, 1) := by decide +kernel
theorem dX13_kept_44 : decode cX13_kept 44 = .ok (.goto 4, 3) := by decide +kernel
theorem dX13_kept_47 : decode cX13_kept 47 = .ok (.iconst (-1), 1) := by decide +kernel
theorem dX13_kept_48 : decode cX13_kept 48 = .ok (.ireturn, 1) := by decide +kernel
theorem bX13_kept_0 {d : Nat}  {v1 : Int32} {v2 : Int32} {I : Ii} {J : Jj} {K : KI}
    (h : CalI wM d mX13_isIn [.long (v1.toInt64), .long (0), .long (((I 42 (41 : Int32).toNatClampNeg) - 1).toInt64)] I J (fun x4 I2 J3 => (((x4 = 0) → (K ((-1)) I2 J3)) ∧ ((¬ x4 = 0) → (CalI wM d mX13_isIn [.long (v2.toInt64), .long (0), .long (2)] I2 J3 (fun x8 I6 J7 => (((x8 = 0) → (K ((-1)) I6 J7)) ∧ ((¬ x8 = 0) → (vp_in ((42 + (3 * v1)) + v2) 132 ∧ (K (I6 42 ((42 + (3 * v1)) + v2).toNatClampNeg) I6 J7)))))))))) :
    GoI wM (d + 1) mX13_kept 0 [(0, .ref (0)), (1, .int (v1)), (2, .int (v2))] [] I J K :=
  (g_iload_n dX13_kept_0 1 1 rfl rfl (g_i2l dX13_kept_1 (g_lconst dX13_kept_2 kq_0 (g_aload_n dX13_kept_3 0 0 rfl rfl (g_getP dX13_kept_4 fl_X13_139 rfl obM_0 rfl (g_bipush dX13_kept_7 kb_41 (g_iald dX13_kept_9 arM_42 (by unfold vp_in; decide) (g_iconst dX13_kept_10 kc_1 (g_isub dX13_kept_11 (g_i2l dX13_kept_12 (g_callsI dX13_kept_13 ml_X13_297 md_X13_isIn ms_X13_isIn rfl rfl (Nat.le_of_ble_eq_true rfl) (CalI.mono h (fun x4 I2 J3 h12 => (g_if_eq dX13_kept_16 rfl (fun q5 => (g_iconst dX13_kept_47 kc_n1 (g_ireturn dX13_kept_48 rfl ⟨_, rfl, (h12.1 q5)⟩))) (fun q5 => (g_iload_n dX13_kept_19 2 2 rfl rfl (g_i2l dX13_kept_20 (g_lconst dX13_kept_21 kq_0 (g_ldc2 dX13_kept_22 kl_X13_512 (g_callsI dX13_kept_25 ml_X13_297 md_X13_isIn ms_X13_isIn rfl rfl (Nat.le_of_ble_eq_true rfl) (CalI.mono (h12.2 q5) (fun x8 I6 J7 h11 => (g_if_eq dX13_kept_28 rfl (fun q9 => (g_iconst dX13_kept_47 kc_n1 (g_ireturn dX13_kept_48 rfl ⟨_, rfl, (h11.1 q9)⟩))) (fun q9 => (g_aload_n dX13_kept_31 0 0 rfl rfl (g_getP dX13_kept_32 fl_X13_139 rfl obM_0 rfl (g_bipush dX13_kept_35 kb_42 (g_iconst dX13_kept_37 kc_3 (g_iload_n dX13_kept_38 1 1 rfl rfl (g_imul dX13_kept_39 (g_iadd dX13_kept_40 (g_iload_n dX13_kept_41 2 2 rfl rfl (g_iadd dX13_kept_42 (have b10 := (h11.2 q9).1; g_iald dX13_kept_43 arM_42 b10 (g_goto dX13_kept_44 rfl (g_ireturn dX13_kept_48 rfl ⟨_, rfl, (h11.2 q9).2⟩))))))))))))))))))))))))))))))))))))
theorem dX13_later_0 : decode cX13_later 0 = .ok (.aload_n 0, 1) := by decide +kernel
theorem dX13_later_1 : decode cX13_later 1 = .ok (.iload_n 1, 1) := by decide +kernel
theorem dX13_later_2 : decode cX13_later 2 = .ok (.iconst 0, 1) := by decide +kernel
theorem dX13_later_3 : decode cX13_later 3 = .ok (.bipush 40, 2) := by decide +kernel
theorem dX13_later_5 : decode cX13_later 5 = .ok (.invokevirtual 514, 3) := by decide +kernel
theorem dX13_later_8 : decode cX13_later 8 = .ok (.ifCond .eq 15, 3) := by decide +kernel
theorem dX13_later_11 : decode cX13_later 11 = .ok (.iload_n 2, 1) := by decide +kernel
theorem dX13_later_12 : decode cX13_later 12 = .ok (.i2l, 1) := by decide +kernel
theorem dX13_later_13 : decode cX13_later 13 = .ok (.lconst 0, 1) := by decide +kernel
theorem dX13_later_14 : decode cX13_later 14 = .ok (.ldc2_w 517, 3) := by decide +kernel
theorem dX13_later_17 : decode cX13_later 17 = .ok (.invokestatic 297, 3) := by decide +kernel
theorem dX13_later_20 : decode cX13_later 20 = .ok (.ifCond .ne 5, 3) := by decide +kernel
theorem dX13_later_23 : decode cX13_later 23 = .ok (.iconst (-1), 1) := by decide +kernel
theorem dX13_later_24 : decode cX13_later 24 = .ok (.ireturn, 1) := by decide +kernel
theorem dX13_later_25 : decode cX13_later 25 = .ok (.aload_n 0, 1) := by decide +kernel
theorem dX13_later_26 : decode cX13_later 26 = .ok (.invokevirtual 519, 3) := by decide +kernel
theorem dX13_later_29 : decode cX13_later 29 = .ok (.aload_n 0, 1) := by decide +kernel
theorem dX13_later_30 : decode cX13_later 30 = .ok (.iload_n 1, 1) := by decide +kernel
theorem dX13_later_31 : decode cX13_later 31 = .ok (.invokevirtual 522, 3) := by decide +kernel
theorem dX13_later_34 : decode cX13_later 34 = .ok (.iload_n 2, 1) := by decide +kernel
theorem dX13_later_35 : decode cX13_later 35 = .ok (.iconst 2, 1) := by decide +kernel
theorem dX13_later_36 : decode cX13_later 36 = .ok (.if_icmp .ge 13, 3) := by decide +kernel
theorem dX13_later_39 : decode cX13_later 39 = .ok (.aload_n 0, 1) := by decide +kernel
theorem dX13_later_40 : decode cX13_later 40 = .ok (.iload_n 2, 1) := by decide +kernel
theorem dX13_later_41 : decode cX13_later 41 = .ok (.iconst 1, 1) := by decide +kernel
theorem dX13_later_42 : decode cX13_later 42 = .ok (.iadd, 1) := by decide +kernel
theorem dX13_later_43 : decode cX13_later 43 = .ok (.invokevirtual 486, 3) := by decide +kernel
theorem dX13_later_46 : decode cX13_later 46 = .ok (.goto 17, 3) := by decide +kernel
theorem dX13_later_49 : decode cX13_later 49 = .ok (.aload_n 0, 1) := by decide +kernel
theorem dX13_later_50 : decode cX13_later 50 = .ok (.iload_n 2, 1) := by decide +kernel
theorem dX13_later_51 : decode cX13_later 51 = .ok (.iconst 3, 1) := by decide +kernel
theorem dX13_later_52 : decode cX13_later 52 = .ok (.if_icmp .ne 7, 3) := by decide +kernel
theorem dX13_later_55 : decode cX13_later 55 = .ok (.iconst 1, 1) := by decide +kernel
theorem dX13_later_56 : decode cX13_later 56 = .ok (.goto 4, 3) := by decide +kernel
theorem dX13_later_59 : decode cX13_later 59 = .ok (.iconst 0, 1) := by decide +kernel
theorem dX13_later_60 : decode cX13_later 60 = .ok (.invokevirtual 489, 3) := by decide +kernel
theorem dX13_later_63 : decode cX13_later 63 = .ok (.istore_n 3, 1) := by decide +kernel
theorem dX13_later_64 : decode cX13_later 64 = .ok (.aload_n 0, 1) := by decide +kernel
theorem dX13_later_65 : decode cX13_later 65 = .ok (.invokevirtual 525, 3) := by decide +kernel
theorem dX13_later_68 : decode cX13_later 68 = .ok (.iload_n 3, 1) := by decide +kernel
theorem dX13_later_69 : decode cX13_later 69 = .ok (.ireturn, 1) := by decide +kernel
theorem bX13_later_0 {d : Nat}  {v1 : Int32} {v2 : Int32} {I : Ii} {J : Jj} {K : KI}
    (h : CalI wM d mX13_isAhead [.ref (0), .int (v1), .int (0), .int (40)] I J (fun x3 I1 J2 => (((x3 = 0) → (K ((-1)) I1 J2)) ∧ ((¬ x3 = 0) → (CalI wM d mX13_isIn [.long (v2.toInt64), .long (0), .long (3)] I1 J2 (fun x7 I5 J6 => (((¬ x7 = 0) → (CalV wM d mX13_putsAside [.ref (0)] I5 J6 (fun I9 J10 => (CalV wM d mX13_yearsGo [.ref (0), .int (v1)] I9 J10 (fun I11 J12 => (((2 ≤ v2) → (((¬ v2 = 3) → (CalI wM d mX13_beliefs [.ref (0), .int (0)] I11 J12 (fun x17 I15 J16 => (CalV wM d mX13_takesBack [.ref (0)] I15 J16 (fun I18 J19 => (K (x17) I18 J19)))))) ∧ ((v2 = 3) → (CalI wM d mX13_beliefs [.ref (0), .int (1)] I11 J12 (fun x24 I22 J23 => (CalV wM d mX13_takesBack [.ref (0)] I22 J23 (fun I25 J26 => (K (x24) I25 J26)))))))) ∧ ((¬ 2 ≤ v2) → (CalI wM d mX13_thoseWho [.ref (0), .int (v2 + 1)] I11 J12 (fun x31 I29 J30 => (CalV wM d mX13_takesBack [.ref (0)] I29 J30 (fun I32 J33 => (K (x31) I32 J33)))))))))))) ∧ ((x7 = 0) → (K ((-1)) I5 J6))))))))) :
    GoI wM (d + 1) mX13_later 0 [(0, .ref (0)), (1, .int (v1)), (2, .int (v2))] [] I J K :=
  (g_aload_n dX13_later_0 0 0 rfl rfl (g_iload_n dX13_later_1 1 1 rfl rfl (g_iconst dX13_later_2 kc_0 (g_bipush dX13_later_3 kb_40 (g_callvI dX13_later_5 ml_X13_514 md_X13_isAhead mv_X13_isAhead obM_0 rfl rfl rfl (Nat.le_of_ble_eq_true rfl) (CalI.mono h (fun x3 I1 J2 h39 => (g_if_eq dX13_later_8 rfl (fun q4 => (g_iconst dX13_later_23 kc_n1 (g_ireturn dX13_later_24 rfl ⟨_, rfl, (h39.1 q4)⟩))) (fun q4 => (g_iload_n dX13_later_11 2 2 rfl rfl (g_i2l dX13_later_12 (g_lconst dX13_later_13 kq_0 (g_ldc2 dX13_later_14 kl_X13_517 (g_callsI dX13_later_17 ml_X13_297 md_X13_isIn ms_X13_isIn rfl rfl (Nat.le_of_ble_eq_true rfl) (CalI.mono (h39.2 q4) (fun x7 I5 J6 h38 => (g_if_ne dX13_later_20 rfl (fun q8 => (g_aload_n dX13_later_25 0 0 rfl rfl (g_callvV dX13_later_26 ml_X13_519 md_X13_putsAside mv_X13_putsAside obM_0 rfl rfl rfl (Nat.le_of_ble_eq_true rfl) (CalV.mono (h38.1 q8) (fun I9 J10 h37 => (g_aload_n dX13_later_29 0 0 rfl rfl (g_iload_n dX13_later_30 1 1 rfl rfl (g_callvV dX13_later_31 ml_X13_522 md_X13_yearsGo mv_X13_yearsGo obM_0 rfl rfl rfl (Nat.le_of_ble_eq_true rfl) (CalV.mono h37 (fun I11 J12 h36 => (g_iload_n dX13_later_34 2 2 rfl rfl (g_iconst dX13_later_35 kc_2 (g_icmp_ge dX13_later_36 rfl (fun q13 => (g_aload_n dX13_later_49 0 0 rfl rfl (g_iload_n dX13_later_50 2 2 rfl rfl (g_iconst dX13_later_51 kc_3 (g_icmp_ne dX13_later_52 rfl (fun q14 => (g_iconst dX13_later_59 kc_0 (g_callvI dX13_later_60 ml_X13_489 md_X13_beliefs mv_X13_beliefs obM_0 rfl rfl rfl (Nat.le_of_ble_eq_true rfl) (CalI.mono ((h36.1 q13).1 q14) (fun x17 I15 J16 h21 => (g_istore_n dX13_later_63 rfl (by decide) rfl (g_aload_n dX13_later_64 1 0 rfl rfl (g_callvV dX13_later_65 ml_X13_525 md_X13_takesBack mv_X13_takesBack obM_0 rfl rfl rfl (Nat.le_of_ble_eq_true rfl) (CalV.mono h21 (fun I18 J19 h20 => (g_iload_n dX13_later_68 0 3 rfl rfl (g_ireturn dX13_later_69 rfl ⟨_, rfl, h20⟩)))))))))))) (fun q14 => (g_iconst dX13_later_55 kc_1 (g_goto dX13_later_56 rfl (g_callvI dX13_later_60 ml_X13_489 md_X13_beliefs mv_X13_beliefs obM_0 rfl rfl rfl (Nat.le_of_ble_eq_true rfl) (CalI.mono ((h36.1 q13).2 q14) (fun x24 I22 J23 h28 => (g_istore_n dX13_later_63 rfl (by decide) rfl (g_aload_n dX13_later_64 1 0 rfl rfl (g_callvV dX13_later_65 ml_X13_525 md_X13_takesBack mv_X13_takesBack obM_0 rfl rfl rfl (Nat.le_of_ble_eq_true rfl) (CalV.mono h28 (fun I25 J26 h27 => (g_iload_n dX13_later_68 0 3 rfl rfl (g_ireturn dX13_later_69 rfl ⟨_, rfl, h27⟩)))))))))))))))))) (fun q13 => (g_aload_n dX13_later_39 0 0 rfl rfl (g_iload_n dX13_later_40 2 2 rfl rfl (g_iconst dX13_later_41 kc_1 (g_iadd dX13_later_42 (g_callvI dX13_later_43 ml_X13_486 md_X13_thoseWho mv_X13_thoseWho obM_0 rfl rfl rfl (Nat.le_of_ble_eq_true rfl) (CalI.mono (h36.2 q13) (fun x31 I29 J30 h35 => (g_goto dX13_later_46 rfl (g_istore_n dX13_later_63 rfl (by decide) rfl (g_aload_n dX13_later_64 1 0 rfl rfl (g_callvV dX13_later_65 ml_X13_525 md_X13_takesBack mv_X13_takesBack obM_0 rfl rfl rfl (Nat.le_of_ble_eq_true rfl) (CalV.mono h35 (fun I32 J33 h34 => (g_iload_n dX13_later_68 0 3 rfl rfl (g_ireturn dX13_later_69 rfl ⟨_, rfl, h34⟩))))))))))))))))))))))))))))) (fun q8 => (g_iconst dX13_later_23 kc_n1 (g_ireturn dX13_later_24 rfl ⟨_, rfl, (h38.2 q8)⟩))))))))))))))))))))
theorem dX13_isAhead_0 : decode cX13_isAhead 0 = .ok (.iload_n 1, 1) := by decide +kernel
theorem dX13_isAhead_1 : decode cX13_isAhead 1 = .ok (.i2l, 1) := by decide +kernel
theorem dX13_isAhead_2 : decode cX13_isAhead 2 = .ok (.iload_n 2, 1) := by decide +kernel
theorem dX13_isAhead_3 : decode cX13_isAhead 3 = .ok (.i2l, 1) := by decide +kernel
theorem dX13_isAhead_4 : decode cX13_isAhead 4 = .ok (.iload_n 3, 1) := by decide +kernel
theorem dX13_isAhead_5 : decode cX13_isAhead 5 = .ok (.i2l, 1) := by decide +kernel
theorem dX13_isAhead_6 : decode cX13_isAhead 6 = .ok (.invokestatic 297, 3) := by decide +kernel
theorem dX13_isAhead_9 : decode cX13_isAhead 9 = .ok (.ifCond .eq 21, 3) := by decide +kernel
theorem dX13_isAhead_12 : decode cX13_isAhead 12 = .ok (.aload_n 0, 1) := by decide +kernel
theorem dX13_isAhead_13 : decode cX13_isAhead 13 = .ok (.getfield 139, 3) := by decide +kernel
theorem dX13_isAhead_16 : decode cX13_isAhead 16 = .ok (.iconst 0, 1) := by decide +kernel
theorem dX13_isAhead_17 : decode cX13_isAhead 17 = .ok (.iaload, 1) := by decide +kernel
theorem dX13_isAhead_18 : decode cX13_isAhead 18 = .ok (.iload_n 1, 1) := by decide +kernel
theorem dX13_isAhead_19 : decode cX13_isAhead 19 = .ok (.iadd, 1) := by decide +kernel
theorem dX13_isAhead_20 : decode cX13_isAhead 20 = .ok (.sipush 999, 3) := by decide +kernel
theorem dX13_isAhead_23 : decode cX13_isAhead 23 = .ok (.if_icmp .gt 7, 3) := by decide +kernel
theorem dX13_isAhead_26 : decode cX13_isAhead 26 = .ok (.iconst 1, 1) := by decide +kernel
theorem dX13_isAhead_27 : decode cX13_isAhead 27 = .ok (.goto 4, 3) := by decide +kernel
theorem dX13_isAhead_30 : decode cX13_isAhead 30 = .ok (.iconst 0, 1) := by decide +kernel
theorem dX13_isAhead_31 : decode cX13_isAhead 31 = .ok (.ireturn, 1) := by decide +kernel
theorem bX13_isAhead_0 {d : Nat}  {v1 : Int32} {v2 : Int32} {v3 : Int32} {I : Ii} {J : Jj} {K : KI}
    (h : CalI wM d mX13_isIn [.long (v1.toInt64), .long (v2.toInt64), .long (v3.toInt64)] I J (fun x3 I1 J2 => (((x3 = 0) → (K (0) I1 J2)) ∧ ((¬ x3 = 0) → (((999 < ((I1 42 (0 : Int32).toNatClampNeg) + v1)) → (K (0) I1 J2)) ∧ ((¬ 999 < ((I1 42 (0 : Int32).toNatClampNeg) + v1)) → (K (1) I1 J2))))))) :
    GoI wM (d + 1) mX13_isAhead 0 [(0, .ref (0)), (1, .int (v1)), (2, .int (v2)), (3, .int (v3))] [] I J K :=
  (g_iload_n dX13_isAhead_0 1 1 rfl rfl (g_i2l dX13_isAhead_1 (g_iload_n dX13_isAhead_2 2 2 rfl rfl (g_i2l dX13_isAhead_3 (g_iload_n dX13_isAhead_4 3 3 rfl rfl (g_i2l dX13_isAhead_5 (g_callsI dX13_isAhead_6 ml_X13_297 md_X13_isIn ms_X13_isIn rfl rfl (Nat.le_of_ble_eq_true rfl) (CalI.mono h (fun x3 I1 J2 h7 => (g_if_eq dX13_isAhead_9 rfl (fun q4 => (g_iconst dX13_isAhead_30 kc_0 (g_zreturn dX13_isAhead_31 rfl (narZ (by decide)) ⟨_, rfl, (h7.1 q4)⟩))) (fun q4 => (g_aload_n dX13_isAhead_12 0 0 rfl rfl (g_getP dX13_isAhead_13 fl_X13_139 rfl obM_0 rfl (g_iconst dX13_isAhead_16 kc_0 (g_iald dX13_isAhead_17 arM_42 (by unfold vp_in; decide) (g_iload_n dX13_isAhead_18 1 1 rfl rfl (g_iadd dX13_isAhead_19 (g_sipush dX13_isAhead_20 ks_999 (g_icmp_gt dX13_isAhead_23 rfl (fun q6 => (g_iconst dX13_isAhead_30 kc_0 (g_zreturn dX13_isAhead_31 rfl (narZ (by decide)) ⟨_, rfl, ((h7.2 q4).1 q6)⟩))) (fun q6 => (g_iconst dX13_isAhead_26 kc_1 (g_goto dX13_isAhead_27 rfl (g_zreturn dX13_isAhead_31 rfl (narZ (by decide)) ⟨_, rfl, ((h7.2 q4).2 q6)⟩)))))))))))))))))))))))
theorem dX13_putsAside_0 : decode cX13_putsAside 0 = .ok (.aload_n 0, 1) := by decide +kernel
theorem dX13_putsAside_1 : decode cX13_putsAside 1 = .ok (.iconst 1, 1) := by decide +kernel
theorem dX13_putsAside_2 : decode cX13_putsAside 2 = .ok (.putfield 443, 3) := by decide +kernel
theorem dX13_putsAside_5 : decode cX13_putsAside 5 = .ok (.iconst 0, 1) := by decide +kernel
theorem dX13_putsAside_6 : decode cX13_putsAside 6 = .ok (.istore_n 1, 1) := by decide +kernel
theorem dX13_putsAside_7 : decode cX13_putsAside 7 = .ok (.iload_n 1, 1) := by decide +kernel
theorem dX13_putsAside_8 : decode cX13_putsAside 8 = .ok (.bipush 41, 2) := by decide +kernel
theorem dX13_putsAside_10 : decode cX13_putsAside 10 = .ok (.if_icmp .ge 21, 3) := by decide +kernel
theorem dX13_putsAside_13 : decode cX13_putsAside 13 = .ok (.aload_n 0, 1) := by decide +kernel
theorem dX13_putsAside_14 : decode cX13_putsAside 14 = .ok (.getfield 142, 3) := by decide +kernel
theorem dX13_putsAside_17 : decode cX13_putsAside 17 = .ok (.iload_n 1, 1) := by decide +kernel
theorem dX13_putsAside_18 : decode cX13_putsAside 18 = .ok (.aload_n 0, 1) := by decide +kernel
theorem dX13_putsAside_19 : decode cX13_putsAside 19 = .ok (.getfield 139, 3) := by decide +kernel
theorem dX13_putsAside_22 : decode cX13_putsAside 22 = .ok (.iload_n 1, 1) := by decide +kernel
theorem dX13_putsAside_23 : decode cX13_putsAside 23 = .ok (.iaload, 1) := by decide +kernel
theorem dX13_putsAside_24 : decode cX13_putsAside 24 = .ok (.iastore, 1) := by decide +kernel
theorem dX13_putsAside_25 : decode cX13_putsAside 25 = .ok (.iinc 1 1, 3) := by decide +kernel
theorem dX13_putsAside_28 : decode cX13_putsAside 28 = .ok (.goto (-21), 3) := by decide +kernel
theorem dX13_putsAside_31 : decode cX13_putsAside 31 = .ok (.return_, 1) := by decide +kernel
theorem bX13_putsAside_0 {d : Nat}   {I : Ii} {J : Jj} {K : KV}
    (h : GoV wM d mX13_putsAside 7 [(0, .ref (0)), (1, .int (0))] [] (u2 I 0 58 1) J K) :
    GoV wM d mX13_putsAside 0 [(0, .ref (0))] [] I J K :=
  (g_aload_n dX13_putsAside_0 0 0 rfl rfl (g_iconst dX13_putsAside_1 kc_1 (g_putZ dX13_putsAside_2 fl_X13_443 rfl rfl (by decide) obM_0 (g_iconst dX13_putsAside_5 kc_0 (g_istore_n dX13_putsAside_6 rfl (by decide) rfl (g_sub [1, 0] rfl h))))))
theorem bX13_putsAside_7 {d : Nat}  {v1 : Int32} {I : Ii} {J : Jj} {K : KV}
    (h : ((41 ≤ v1) → (K I J)) ∧ ((¬ 41 ≤ v1) → (vp_in (v1) 132 ∧ (vp_in (v1) 41 ∧ (GoV wM d mX13_putsAside 7 [(0, .ref (0)), (1, .int (v1 + 1))] [] (u2 I 43 v1.toNatClampNeg (I 42 v1.toNatClampNeg)) J K))))) :
    GoV wM d mX13_putsAside 7 [(0, .ref (0)), (1, .int (v1))] [] I J K :=
  (g_iload_n dX13_putsAside_7 1 1 rfl rfl (g_bipush dX13_putsAside_8 kb_41 (g_icmp_ge dX13_putsAside_10 rfl (fun q1 => (g_return dX13_putsAside_31 rfl ⟨rfl, (h.1 q1)⟩)) (fun q1 => (g_aload_n dX13_putsAside_13 0 0 rfl rfl (g_getP dX13_putsAside_14 fl_X13_142 rfl obM_0 rfl (g_iload_n dX13_putsAside_17 1 1 rfl rfl (g_aload_n dX13_putsAside_18 0 0 rfl rfl (g_getP dX13_putsAside_19 fl_X13_139 rfl obM_0 rfl (g_iload_n dX13_putsAside_22 1 1 rfl rfl (have b2 := (h.2 q1).1; g_iald dX13_putsAside_23 arM_42 b2 (have b3 := (h.2 q1).2.1; g_iast dX13_putsAside_24 arM_43 b3 (g_iinc dX13_putsAside_25 1 rfl rfl (by decide) rfl (g_goto dX13_putsAside_28 rfl (g_sub [1, 0] rfl (h.2 q1).2.2)))))))))))))))
theorem dX13_yearsGo_0 : decode cX13_yearsGo 0 = .ok (.iconst 0, 1) := by decide +kernel
theorem dX13_yearsGo_1 : decode cX13_yearsGo 1 = .ok (.istore_n 2, 1) := by decide +kernel
theorem dX13_yearsGo_2 : decode cX13_yearsGo 2 = .ok (.iload_n 2, 1) := by decide +kernel
theorem dX13_yearsGo_3 : decode cX13_yearsGo 3 = .ok (.iload_n 1, 1) := by decide +kernel
theorem dX13_yearsGo_4 : decode cX13_yearsGo 4 = .ok (.if_icmp .ge 14, 3) := by decide +kernel
theorem dX13_yearsGo_7 : decode cX13_yearsGo 7 = .ok (.aload_n 0, 1) := by decide +kernel
theorem dX13_yearsGo_8 : decode cX13_yearsGo 8 = .ok (.iconst 0, 1) := by decide +kernel
theorem dX13_yearsGo_9 : decode cX13_yearsGo 9 = .ok (.invokevirtual 477, 3) := by decide +kernel
theorem dX13_yearsGo_12 : decode cX13_yearsGo 12 = .ok (.iinc 2 1, 3) := by decide +kernel
theorem dX13_yearsGo_15 : decode cX13_yearsGo 15 = .ok (.goto (-13), 3) := by decide +kernel
theorem dX13_yearsGo_18 : decode cX13_yearsGo 18 = .ok (.return_, 1) := by decide +kernel
theorem bX13_yearsGo_0 {d : Nat}  {v1 : Int32} {I : Ii} {J : Jj} {K : KV}
    (h : GoV wM (d + 1) mX13_yearsGo 2 [(0, .ref (0)), (1, .int (v1)), (2, .int (0))] [] I J K) :
    GoV wM (d + 1) mX13_yearsGo 0 [(0, .ref (0)), (1, .int (v1))] [] I J K :=
  (g_iconst dX13_yearsGo_0 kc_0 (g_istore_n dX13_yearsGo_1 rfl (by decide) rfl (g_sub [1, 2, 0] rfl h)))
theorem bX13_yearsGo_2 {d : Nat}  {v1 : Int32} {v2 : Int32} {I : Ii} {J : Jj} {K : KV}
    (h : ((v1 ≤ v2) → (K I J)) ∧ ((¬ v1 ≤ v2) → (CalV wM d mX13_yearGoes [.ref (0), .int (0)] I J (fun I2 J3 => (GoV wM (d + 1) mX13_yearsGo 2 [(0, .ref (0)), (1, .int (v1)), (2, .int (v2 + 1))] [] I2 J3 K))))) :
    GoV wM (d + 1) mX13_yearsGo 2 [(0, .ref (0)), (1, .int (v1)), (2, .int (v2))] [] I J K :=
  (g_iload_n dX13_yearsGo_2 2 2 rfl rfl (g_iload_n dX13_yearsGo_3 1 1 rfl rfl (g_icmp_ge dX13_yearsGo_4 rfl (fun q1 => (g_return dX13_yearsGo_18 rfl ⟨rfl, (h.1 q1)⟩)) (fun q1 => (g_aload_n dX13_yearsGo_7 0 0 rfl rfl (g_iconst dX13_yearsGo_8 kc_0 (g_callvV dX13_yearsGo_9 ml_X13_477 md_X13_yearGoes mv_X13_yearGoes obM_0 rfl rfl rfl (Nat.le_of_ble_eq_true rfl) (CalV.mono (h.2 q1) (fun I2 J3 h4 => (g_iinc dX13_yearsGo_12 2 rfl rfl (by decide) rfl (g_goto dX13_yearsGo_15 rfl (g_sub [1, 2, 0] rfl h4))))))))))))
theorem dX13_yearGoes_0 : decode cX13_yearGoes 0 = .ok (.aload_n 0, 1) := by decide +kernel
theorem dX13_yearGoes_1 : decode cX13_yearGoes 1 = .ok (.iload_n 1, 1) := by decide +kernel
theorem dX13_yearGoes_2 : decode cX13_yearGoes 2 = .ok (.invokevirtual 465, 3) := by decide +kernel
theorem dX13_yearGoes_5 : decode cX13_yearGoes 5 = .ok (.iconst 0, 1) := by decide +kernel
theorem dX13_yearGoes_6 : decode cX13_yearGoes 6 = .ok (.istore_n 2, 1) := by decide +kernel
theorem dX13_yearGoes_7 : decode cX13_yearGoes 7 = .ok (.iload_n 2, 1) := by decide +kernel
theorem dX13_yearGoes_8 : decode cX13_yearGoes 8 = .ok (.aload_n 0, 1) := by decide +kernel
theorem dX13_yearGoes_9 : decode cX13_yearGoes 9 = .ok (.invokevirtual 401, 3) := by decide +kernel
theorem dX13_yearGoes_12 : decode cX13_yearGoes 12 = .ok (.if_icmp .ge 22, 3) := by decide +kernel
theorem dX13_yearGoes_15 : decode cX13_yearGoes 15 = .ok (.iload_n 1, 1) := by decide +kernel
theorem dX13_yearGoes_16 : decode cX13_yearGoes 16 = .ok (.iload_n 2, 1) := by decide +kernel
theorem dX13_yearGoes_17 : decode cX13_yearGoes 17 = .ok (.ishr, 1) := by decide +kernel
theorem dX13_yearGoes_18 : decode cX13_yearGoes 18 = .ok (.iconst 1, 1) := by decide +kernel
theorem dX13_yearGoes_19 : decode cX13_yearGoes 19 = .ok (.iand, 1) := by decide +kernel
theorem dX13_yearGoes_20 : decode cX13_yearGoes 20 = .ok (.ifCond .ne 8, 3) := by decide +kernel
theorem dX13_yearGoes_23 : decode cX13_yearGoes 23 = .ok (.aload_n 0, 1) := by decide +kernel
theorem dX13_yearGoes_24 : decode cX13_yearGoes 24 = .ok (.iload_n 2, 1) := by decide +kernel
theorem dX13_yearGoes_25 : decode cX13_yearGoes 25 = .ok (.invokevirtual 468, 3) := by decide +kernel
theorem dX13_yearGoes_28 : decode cX13_yearGoes 28 = .ok (.iinc 2 1, 3) := by decide +kernel
theorem dX13_yearGoes_31 : decode cX13_yearGoes 31 = .ok (.goto (-24), 3) := by decide +kernel
theorem dX13_yearGoes_34 : decode cX13_yearGoes 34 = .ok (.iconst 0, 1) := by decide +kernel
theorem dX13_yearGoes_35 : decode cX13_yearGoes 35 = .ok (.istore_n 2, 1) := by decide +kernel
theorem dX13_yearGoes_36 : decode cX13_yearGoes 36 = .ok (.iload_n 2, 1) := by decide +kernel
theorem dX13_yearGoes_37 : decode cX13_yearGoes 37 = .ok (.aload_n 0, 1) := by decide +kernel
theorem dX13_yearGoes_38 : decode cX13_yearGoes 38 = .ok (.invokevirtual 401, 3) := by decide +kernel
theorem dX13_yearGoes_41 : decode cX13_yearGoes 41 = .ok (.if_icmp .ge 37, 3) := by decide +kernel
theorem dX13_yearGoes_44 : decode cX13_yearGoes 44 = .ok (.aload_n 0, 1) := by decide +kernel
theorem dX13_yearGoes_45 : decode cX13_yearGoes 45 = .ok (.iload_n 2, 1) := by decide +kernel
theorem dX13_yearGoes_46 : decode cX13_yearGoes 46 = .ok (.invokevirtual 471, 3) := by decide +kernel
theorem dX13_yearGoes_49 : decode cX13_yearGoes 49 = .ok (.ifCond .ne 23, 3) := by decide +kernel
theorem dX13_yearGoes_52 : decode cX13_yearGoes 52 = .ok (.aload_n 0, 1) := by decide +kernel
theorem dX13_yearGoes_53 : decode cX13_yearGoes 53 = .ok (.iload_n 2, 1) := by decide +kernel
theorem dX13_yearGoes_54 : decode cX13_yearGoes 54 = .ok (.invokevirtual 474, 3) := by decide +kernel
theorem dX13_yearGoes_57 : decode cX13_yearGoes 57 = .ok (.ifCond .eq 15, 3) := by decide +kernel
theorem dX13_yearGoes_60 : decode cX13_yearGoes 60 = .ok (.aload_n 0, 1) := by decide +kernel
theorem dX13_yearGoes_61 : decode cX13_yearGoes 61 = .ok (.iload_n 2, 1) := by decide +kernel
theorem dX13_yearGoes_62 : decode cX13_yearGoes 62 = .ok (.iconst 2, 1) := by decide +kernel
theorem dX13_yearGoes_63 : decode cX13_yearGoes 63 = .ok (.invokevirtual 456, 3) := by decide +kernel
theorem dX13_yearGoes_66 : decode cX13_yearGoes 66 = .ok (.aload_n 0, 1) := by decide +kernel
theorem dX13_yearGoes_67 : decode cX13_yearGoes 67 = .ok (.iload_n 2, 1) := by decide +kernel
theorem dX13_yearGoes_68 : decode cX13_yearGoes 68 = .ok (.iconst 2, 1) := by decide +kernel
theorem dX13_yearGoes_69 : decode cX13_yearGoes 69 = .ok (.invokevirtual 462, 3) := by decide +kernel
theorem dX13_yearGoes_72 : decode cX13_yearGoes 72 = .ok (.iinc 2 1, 3) := by decide +kernel
theorem dX13_yearGoes_75 : decode cX13_yearGoes 75 = .ok (.goto (-39), 3) := by decide +kernel
theorem dX13_yearGoes_78 : decode cX13_yearGoes 78 = .ok (.aload_n 0, 1) := by decide +kernel
theorem dX13_yearGoes_79 : decode cX13_yearGoes 79 = .ok (.getfield 139, 3) := by decide +kernel
theorem dX13_yearGoes_82 : decode cX13_yearGoes 82 = .ok (.iconst 0, 1) := by decide +kernel
theorem dX13_yearGoes_83 : decode cX13_yearGoes 83 = .ok (.dup2, 1) := by decide +kernel
theorem dX13_yearGoes_84 : decode cX13_yearGoes 84 = .ok (.iaload, 1) := by decide +kernel
theorem dX13_yearGoes_85 : decode cX13_yearGoes 85 = .ok (.iconst 1, 1) := by decide +kernel
theorem dX13_yearGoes_86 : decode cX13_yearGoes 86 = .ok (.iadd, 1) := by decide +kernel
theorem dX13_yearGoes_87 : decode cX13_yearGoes 87 = .ok (.iastore, 1) := by decide +kernel
theorem dX13_yearGoes_88 : decode cX13_yearGoes 88 = .ok (.return_, 1) := by decide +kernel
theorem bX13_yearGoes_0 {d : Nat}  {v1 : Int32} {I : Ii} {J : Jj} {K : KV}
    (h : CalV wM d mX13_allTaught [.ref (0), .int (v1)] I J (fun I1 J2 => (GoV wM (d + 1) mX13_yearGoes 7 [(0, .ref (0)), (1, .int (v1)), (2, .int (0))] [] I1 J2 K))) :
    GoV wM (d + 1) mX13_yearGoes 0 [(0, .ref (0)), (1, .int (v1))] [] I J K :=
  (g_aload_n dX13_yearGoes_0 0 0 rfl rfl (g_iload_n dX13_yearGoes_1 1 1 rfl rfl (g_callvV dX13_yearGoes_2 ml_X13_465 md_X13_allTaught mv_X13_allTaught obM_0 rfl rfl rfl (Nat.le_of_ble_eq_true rfl) (CalV.mono h (fun I1 J2 h3 => (g_iconst dX13_yearGoes_5 kc_0 (g_istore_n dX13_yearGoes_6 rfl (by decide) rfl (g_sub [1, 2, 0] rfl h3))))))))
theorem bX13_yearGoes_7 {d : Nat}  {v1 : Int32} {v2 : Int32} {I : Ii} {J : Jj} {K : KV}
    (h : CalI wM d mX13_personMany [.ref (0)] I J (fun x3 I1 J2 => (((x3 ≤ v2) → (GoV wM (d + 1) mX13_yearGoes 36 [(0, .ref (0)), (2, .int (0))] [] I1 J2 K)) ∧ ((¬ x3 ≤ v2) → (((¬ ((v1 >>> (v2 &&& 31)) &&& 1) = 0) → (GoV wM (d + 1) mX13_yearGoes 7 [(0, .ref (0)), (1, .int (v1)), (2, .int (v2 + 1))] [] I1 J2 K)) ∧ ((((v1 >>> (v2 &&& 31)) &&& 1) = 0) → (CalV wM d mX13_sitsFor [.ref (0), .int (v2)] I1 J2 (fun I6 J7 => (GoV wM (d + 1) mX13_yearGoes 7 [(0, .ref (0)), (1, .int (v1)), (2, .int (v2 + 1))] [] I6 J7 K))))))))) :
    GoV wM (d + 1) mX13_yearGoes 7 [(0, .ref (0)), (1, .int (v1)), (2, .int (v2))] [] I J K :=
  (g_iload_n dX13_yearGoes_7 2 2 rfl rfl (g_aload_n dX13_yearGoes_8 0 0 rfl rfl (g_callvI dX13_yearGoes_9 ml_X13_401 md_X13_personMany mv_X13_personMany obM_0 rfl rfl rfl (Nat.le_of_ble_eq_true rfl) (CalI.mono h (fun x3 I1 J2 h9 => (g_icmp_ge dX13_yearGoes_12 rfl (fun q4 => (g_iconst dX13_yearGoes_34 kc_0 (g_istore_n dX13_yearGoes_35 rfl (by decide) rfl (g_sub [1, 0] rfl (h9.1 q4))))) (fun q4 => (g_iload_n dX13_yearGoes_15 1 1 rfl rfl (g_iload_n dX13_yearGoes_16 2 2 rfl rfl (g_ishr dX13_yearGoes_17 (g_iconst dX13_yearGoes_18 kc_1 (g_iand dX13_yearGoes_19 (g_if_ne dX13_yearGoes_20 rfl (fun q5 => (g_iinc dX13_yearGoes_28 2 rfl rfl (by decide) rfl (g_goto dX13_yearGoes_31 rfl (g_sub [1, 2, 0] rfl ((h9.2 q4).1 q5))))) (fun q5 => (g_aload_n dX13_yearGoes_23 0 0 rfl rfl (g_iload_n dX13_yearGoes_24 2 2 rfl rfl (g_callvV dX13_yearGoes_25 ml_X13_468 md_X13_sitsFor mv_X13_sitsFor obM_0 rfl rfl rfl (Nat.le_of_ble_eq_true rfl) (CalV.mono ((h9.2 q4).2 q5) (fun I6 J7 h8 => (g_iinc dX13_yearGoes_28 2 rfl rfl (by decide) rfl (g_goto dX13_yearGoes_31 rfl (g_sub [1, 2, 0] rfl h8))))))))))))))))))))))
theorem bX13_yearGoes_36 {d : Nat}  {v2 : Int32} {I : Ii} {J : Jj} {K : KV}
    (h : CalI wM d mX13_personMany [.ref (0)] I J (fun x3 I1 J2 => (((x3 ≤ v2) → (K (u2 I1 42 (0 : Int32).toNatClampNeg ((I1 42 (0 : Int32).toNatClampNeg) + 1)) J2)) ∧ ((¬ x3 ≤ v2) → (CalI wM d mX13_isDoctor [.ref (0), .int (v2)] I1 J2 (fun x9 I7 J8 => (((¬ x9 = 0) → (GoV wM (d + 1) mX13_yearGoes 36 [(0, .ref (0)), (2, .int (v2 + 1))] [] I7 J8 K)) ∧ ((x9 = 0) → (CalI wM d mX13_isMastersMaster [.ref (0), .int (v2)] I7 J8 (fun x13 I11 J12 => (((x13 = 0) → (GoV wM (d + 1) mX13_yearGoes 36 [(0, .ref (0)), (2, .int (v2 + 1))] [] I11 J12 K)) ∧ ((¬ x13 = 0) → (CalV wM d mX13_becomes [.ref (0), .int (v2), .int (2)] I11 J12 (fun I15 J16 => (CalV wM d mX13_isKept [.ref (0), .int (v2), .int (2)] I15 J16 (fun I17 J18 => (GoV wM (d + 1) mX13_yearGoes 36 [(0, .ref (0)), (2, .int (v2 + 1))] [] I17 J18 K))))))))))))))))) :
    GoV wM (d + 1) mX13_yearGoes 36 [(0, .ref (0)), (2, .int (v2))] [] I J K :=
  (g_iload_n dX13_yearGoes_36 1 2 rfl rfl (g_aload_n dX13_yearGoes_37 0 0 rfl rfl (g_callvI dX13_yearGoes_38 ml_X13_401 md_X13_personMany mv_X13_personMany obM_0 rfl rfl rfl (Nat.le_of_ble_eq_true rfl) (CalI.mono h (fun x3 I1 J2 h23 => (g_icmp_ge dX13_yearGoes_41 rfl (fun q4 => (g_aload_n dX13_yearGoes_78 0 0 rfl rfl (g_getP dX13_yearGoes_79 fl_X13_139 rfl obM_0 rfl (g_iconst dX13_yearGoes_82 kc_0 (g_dup2_11 dX13_yearGoes_83 rfl rfl (g_iald dX13_yearGoes_84 arM_42 (by unfold vp_in; decide) (g_iconst dX13_yearGoes_85 kc_1 (g_iadd dX13_yearGoes_86 (g_iast dX13_yearGoes_87 arM_42 (by unfold vp_in; decide) (g_return dX13_yearGoes_88 rfl ⟨rfl, (h23.1 q4)⟩)))))))))) (fun q4 => (g_aload_n dX13_yearGoes_44 0 0 rfl rfl (g_iload_n dX13_yearGoes_45 1 2 rfl rfl (g_callvI dX13_yearGoes_46 ml_X13_471 md_X13_isDoctor mv_X13_isDoctor obM_0 rfl rfl rfl (Nat.le_of_ble_eq_true rfl) (CalI.mono (h23.2 q4) (fun x9 I7 J8 h22 => (g_if_ne dX13_yearGoes_49 rfl (fun q10 => (g_iinc dX13_yearGoes_72 1 rfl rfl (by decide) rfl (g_goto dX13_yearGoes_75 rfl (g_sub [1, 0] rfl (h22.1 q10))))) (fun q10 => (g_aload_n dX13_yearGoes_52 0 0 rfl rfl (g_iload_n dX13_yearGoes_53 1 2 rfl rfl (g_callvI dX13_yearGoes_54 ml_X13_474 md_X13_isMastersMaster mv_X13_isMastersMaster obM_0 rfl rfl rfl (Nat.le_of_ble_eq_true rfl) (CalI.mono (h22.2 q10) (fun x13 I11 J12 h21 => (g_if_eq dX13_yearGoes_57 rfl (fun q14 => (g_iinc dX13_yearGoes_72 1 rfl rfl (by decide) rfl (g_goto dX13_yearGoes_75 rfl (g_sub [1, 0] rfl (h21.1 q14))))) (fun q14 => (g_aload_n dX13_yearGoes_60 0 0 rfl rfl (g_iload_n dX13_yearGoes_61 1 2 rfl rfl (g_iconst dX13_yearGoes_62 kc_2 (g_callvV dX13_yearGoes_63 ml_X13_456 md_X13_becomes mv_X13_becomes obM_0 rfl rfl rfl (Nat.le_of_ble_eq_true rfl) (CalV.mono (h21.2 q14) (fun I15 J16 h20 => (g_aload_n dX13_yearGoes_66 0 0 rfl rfl (g_iload_n dX13_yearGoes_67 1 2 rfl rfl (g_iconst dX13_yearGoes_68 kc_2 (g_callvV dX13_yearGoes_69 ml_X13_462 md_X13_isKept mv_X13_isKept obM_0 rfl rfl rfl (Nat.le_of_ble_eq_true rfl) (CalV.mono h20 (fun I17 J18 h19 => (g_iinc dX13_yearGoes_72 1 rfl rfl (by decide) rfl (g_goto dX13_yearGoes_75 rfl (g_sub [1, 0] rfl h19))))))))))))))))))))))))))))))))))))
theorem dX13_allTaught_0 : decode cX13_allTaught 0 = .ok (.iconst 0, 1) := by decide +kernel
theorem dX13_allTaught_1 : decode cX13_allTaught 1 = .ok (.istore_n 2, 1) := by decide +kernel
theorem dX13_allTaught_2 : decode cX13_allTaught 2 = .ok (.iload_n 2, 1) := by decide +kernel
theorem dX13_allTaught_3 : decode cX13_allTaught 3 = .ok (.aload_n 0, 1) := by decide +kernel
theorem dX13_allTaught_4 : decode cX13_allTaught 4 = .ok (.invokevirtual 401, 3) := by decide +kernel
theorem dX13_allTaught_7 : decode cX13_allTaught 7 = .ok (.if_icmp .ge 109, 3) := by decide +kernel
theorem dX13_allTaught_10 : decode cX13_allTaught 10 = .ok (.iload_n 1, 1) := by decide +kernel
theorem dX13_allTaught_11 : decode cX13_allTaught 11 = .ok (.iload_n 2, 1) := by decide +kernel
theorem dX13_allTaught_12 : decode cX13_allTaught 12 = .ok (.ishr, 1) := by decide +kernel
theorem dX13_allTaught_13 : decode cX13_allTaught 13 = .ok (.iconst 1, 1) := by decide +kernel
theorem dX13_allTaught_14 : decode cX13_allTaught 14 = .ok (.iand, 1) := by decide +kernel
theorem dX13_allTaught_15 : decode cX13_allTaught 15 = .ok (.iconst 1, 1) := by decide +kernel
theorem dX13_allTaught_16 : decode cX13_allTaught 16 = .ok (.if_icmp .ne 7, 3) := by decide +kernel
theorem dX13_allTaught_19 : decode cX13_allTaught 19 = .ok (.iconst (-1), 1) := by decide +kernel
theorem dX13_allTaught_20 : decode cX13_allTaught 20 = .ok (.goto 8, 3) := by decide +kernel
theorem dX13_allTaught_23 : decode cX13_allTaught 23 = .ok (.aload_n 0, 1) := by decide +kernel
theorem dX13_allTaught_24 : decode cX13_allTaught 24 = .ok (.iload_n 2, 1) := by decide +kernel
theorem dX13_allTaught_25 : decode cX13_allTaught 25 = .ok (.invokevirtual 436, 3) := by decide +kernel
theorem dX13_allTaught_28 : decode cX13_allTaught 28 = .ok (.istore_n 3, 1) := by decide +kernel
theorem dX13_allTaught_29 : decode cX13_allTaught 29 = .ok (.aload_n 0, 1) := by decide +kernel
theorem dX13_allTaught_30 : decode cX13_allTaught 30 = .ok (.getfield 145, 3) := by decide +kernel
theorem dX13_allTaught_33 : decode cX13_allTaught 33 = .ok (.iload_n 2, 1) := by decide +kernel
theorem dX13_allTaught_34 : decode cX13_allTaught 34 = .ok (.iload_n 3, 1) := by decide +kernel
theorem dX13_allTaught_35 : decode cX13_allTaught 35 = .ok (.iastore, 1) := by decide +kernel
theorem dX13_allTaught_36 : decode cX13_allTaught 36 = .ok (.iload_n 3, 1) := by decide +kernel
theorem dX13_allTaught_37 : decode cX13_allTaught 37 = .ok (.iconst (-1), 1) := by decide +kernel
theorem dX13_allTaught_38 : decode cX13_allTaught 38 = .ok (.if_icmp .ne 6, 3) := by decide +kernel
theorem dX13_allTaught_41 : decode cX13_allTaught 41 = .ok (.goto 69, 3) := by decide +kernel
theorem dX13_allTaught_44 : decode cX13_allTaught 44 = .ok (.aload_n 0, 1) := by decide +kernel
theorem dX13_allTaught_45 : decode cX13_allTaught 45 = .ok (.iload_n 2, 1) := by decide +kernel
theorem dX13_allTaught_46 : decode cX13_allTaught 46 = .ok (.iload_n 3, 1) := by decide +kernel
theorem dX13_allTaught_47 : decode cX13_allTaught 47 = .ok (.invokevirtual 430, 3) := by decide +kernel
theorem dX13_allTaught_50 : decode cX13_allTaught 50 = .ok (.ifCond .ne 41, 3) := by decide +kernel
theorem dX13_allTaught_53 : decode cX13_allTaught 53 = .ok (.aload_n 0, 1) := by decide +kernel
theorem dX13_allTaught_54 : decode cX13_allTaught 54 = .ok (.aload_n 0, 1) := by decide +kernel
theorem dX13_allTaught_55 : decode cX13_allTaught 55 = .ok (.iload_n 2, 1) := by decide +kernel
theorem dX13_allTaught_56 : decode cX13_allTaught 56 = .ok (.invokevirtual 410, 3) := by decide +kernel
theorem dX13_allTaught_59 : decode cX13_allTaught 59 = .ok (.iload_n 3, 1) := by decide +kernel
theorem dX13_allTaught_60 : decode cX13_allTaught 60 = .ok (.invokevirtual 430, 3) := by decide +kernel
theorem dX13_allTaught_63 : decode cX13_allTaught 63 = .ok (.iconst 2, 1) := by decide +kernel
theorem dX13_allTaught_64 : decode cX13_allTaught 64 = .ok (.if_icmp .eq 23, 3) := by decide +kernel
theorem dX13_allTaught_67 : decode cX13_allTaught 67 = .ok (.aload_n 0, 1) := by decide +kernel
theorem dX13_allTaught_68 : decode cX13_allTaught 68 = .ok (.getfield 130, 3) := by decide +kernel
theorem dX13_allTaught_71 : decode cX13_allTaught 71 = .ok (.iconst 4, 1) := by decide +kernel
theorem dX13_allTaught_72 : decode cX13_allTaught 72 = .ok (.iaload, 1) := by decide +kernel
theorem dX13_allTaught_73 : decode cX13_allTaught 73 = .ok (.iconst (-1), 1) := by decide +kernel
theorem dX13_allTaught_74 : decode cX13_allTaught 74 = .ok (.if_icmp .eq 17, 3) := by decide +kernel
theorem dX13_allTaught_77 : decode cX13_allTaught 77 = .ok (.aload_n 0, 1) := by decide +kernel
theorem dX13_allTaught_78 : decode cX13_allTaught 78 = .ok (.iconst 1, 1) := by decide +kernel
theorem dX13_allTaught_79 : decode cX13_allTaught 79 = .ok (.iload_n 2, 1) := by decide +kernel
theorem dX13_allTaught_80 : decode cX13_allTaught 80 = .ok (.iload_n 3, 1) := by decide +kernel
theorem dX13_allTaught_81 : decode cX13_allTaught 81 = .ok (.invokevirtual 433, 3) := by decide +kernel
theorem dX13_allTaught_84 : decode cX13_allTaught 84 = .ok (.ifCond .eq 7, 3) := by decide +kernel
theorem dX13_allTaught_87 : decode cX13_allTaught 87 = .ok (.iconst 1, 1) := by decide +kernel
theorem dX13_allTaught_88 : decode cX13_allTaught 88 = .ok (.goto 4, 3) := by decide +kernel
theorem dX13_allTaught_91 : decode cX13_allTaught 91 = .ok (.iconst 0, 1) := by decide +kernel
theorem dX13_allTaught_92 : decode cX13_allTaught 92 = .ok (.istore 4, 2) := by decide +kernel
theorem dX13_allTaught_94 : decode cX13_allTaught 94 = .ok (.aload_n 0, 1) := by decide +kernel
theorem dX13_allTaught_95 : decode cX13_allTaught 95 = .ok (.getfield 148, 3) := by decide +kernel
theorem dX13_allTaught_98 : decode cX13_allTaught 98 = .ok (.iload_n 2, 1) := by decide +kernel
theorem dX13_allTaught_99 : decode cX13_allTaught 99 = .ok (.iload 4, 2) := by decide +kernel
theorem dX13_allTaught_101 : decode cX13_allTaught 101 = .ok (.ifCond .eq 7, 3) := by decide +kernel
theorem dX13_allTaught_104 : decode cX13_allTaught 104 = .ok (.iconst 2, 1) := by decide +kernel
theorem dX13_allTaught_105 : decode cX13_allTaught 105 = .ok (.goto 4, 3) := by decide +kernel
theorem dX13_allTaught_108 : decode cX13_allTaught 108 = .ok (.iconst 1, 1) := by decide +kernel
theorem dX13_allTaught_109 : decode cX13_allTaught 109 = .ok (.iastore, 1) := by decide +kernel
theorem dX13_allTaught_110 : decode cX13_allTaught 110 = .ok (.iinc 2 1, 3) := by decide +kernel
theorem dX13_allTaught_113 : decode cX13_allTaught 113 = .ok (.goto (-111), 3) := by decide +kernel
theorem dX13_allTaught_116 : decode cX13_allTaught 116 = .ok (.iconst 0, 1) := by decide +kernel
theorem dX13_allTaught_117 : decode cX13_allTaught 117 = .ok (.istore_n 2, 1) := by decide +kernel
theorem dX13_allTaught_118 : decode cX13_allTaught 118 = .ok (.iload_n 2, 1) := by decide +kernel
theorem dX13_allTaught_119 : decode cX13_allTaught 119 = .ok (.aload_n 0, 1) := by decide +kernel
theorem dX13_allTaught_120 : decode cX13_allTaught 120 = .ok (.invokevirtual 401, 3) := by decide +kernel
theorem dX13_allTaught_123 : decode cX13_allTaught 123 = .ok (.if_icmp .ge 36, 3) := by decide +kernel
theorem dX13_allTaught_126 : decode cX13_allTaught 126 = .ok (.aload_n 0, 1) := by decide +kernel
theorem dX13_allTaught_127 : decode cX13_allTaught 127 = .ok (.getfield 145, 3) := by decide +kernel
theorem dX13_allTaught_130 : decode cX13_allTaught 130 = .ok (.iload_n 2, 1) := by decide +kernel
theorem dX13_allTaught_131 : decode cX13_allTaught 131 = .ok (.iaload, 1) := by decide +kernel
theorem dX13_allTaught_132 : decode cX13_allTaught 132 = .ok (.iconst (-1), 1) := by decide +kernel
theorem dX13_allTaught_133 : decode cX13_allTaught 133 = .ok (.if_icmp .eq 20, 3) := by decide +kernel
theorem dX13_allTaught_136 : decode cX13_allTaught 136 = .ok (.aload_n 0, 1) := by decide +kernel
theorem dX13_allTaught_137 : decode cX13_allTaught 137 = .ok (.iload_n 2, 1) := by decide +kernel
theorem dX13_allTaught_138 : decode cX13_allTaught 138 = .ok (.aload_n 0, 1) := by decide +kernel
theorem dX13_allTaught_139 : decode cX13_allTaught 139 = .ok (.getfield 145, 3) := by decide +kernel
theorem dX13_allTaught_142 : decode cX13_allTaught 142 = .ok (.iload_n 2, 1) := by decide +kernel
theorem dX13_allTaught_143 : decode cX13_allTaught 143 = .ok (.iaload, 1) := by decide +kernel
theorem dX13_allTaught_144 : decode cX13_allTaught 144 = .ok (.aload_n 0, 1) := by decide +kernel
theorem dX13_allTaught_145 : decode cX13_allTaught 145 = .ok (.getfield 148, 3) := by decide +kernel
theorem dX13_allTaught_148 : decode cX13_allTaught 148 = .ok (.iload_n 2, 1) := by decide +kernel
theorem dX13_allTaught_149 : decode cX13_allTaught 149 = .ok (.iaload, 1) := by decide +kernel
theorem dX13_allTaught_150 : decode cX13_allTaught 150 = .ok (.invokevirtual 439, 3) := by decide +kernel
theorem dX13_allTaught_153 : decode cX13_allTaught 153 = .ok (.iinc 2 1, 3) := by decide +kernel
theorem dX13_allTaught_156 : decode cX13_allTaught 156 = .ok (.goto (-38), 3) := by decide +kernel
theorem dX13_allTaught_159 : decode cX13_allTaught 159 = .ok (.return_, 1) := by decide +kernel
theorem bX13_allTaught_0 {d : Nat}  {v1 : Int32} {I : Ii} {J : Jj} {K : KV}
    (h : GoV wM (d + 1) mX13_allTaught 2 [(0, .ref (0)), (1, .int (v1)), (2, .int (0))] [] I J K) :
    GoV wM (d + 1) mX13_allTaught 0 [(0, .ref (0)), (1, .int (v1))] [] I J K :=
  (g_iconst dX13_allTaught_0 kc_0 (g_istore_n dX13_allTaught_1 rfl (by decide) rfl (g_sub [1, 2, 0] rfl h)))
theorem bX13_allTaught_2 {d : Nat}  {v1 : Int32} {v2 : Int32} {I : Ii} {J : Jj} {K : KV}
    (h : CalI wM d mX13_personMany [.ref (0)] I J (fun x3 I1 J2 => (((x3 ≤ v2) → (GoV wM (d + 1) mX13_allTaught 118 [(0, .ref (0)), (2, .int (0))] [] I1 J2 K)) ∧ ((¬ x3 ≤ v2) → (((¬ ((v1 >>> (v2 &&& 31)) &&& 1) = 1) → (CalI wM d mX13_taughtNext [.ref (0), .int (v2)] I1 J2 (fun x8 I6 J7 => (vp_in (v2) 8 ∧ (∀ I10 : Ii, I10 = u2 I6 44 v2.toNatClampNeg x8 → (((¬ x8 = ((-1))) → (CalI wM d mX13_isOf [.ref (0), .int (v2), .int (x8)] I10 J7 (fun x14 I12 J13 => (((¬ x14 = 0) → (GoV wM (d + 1) mX13_allTaught 2 [(0, .ref (0)), (1, .int (v1)), (2, .int (v2 + 1))] [] (u2 I12 45 v2.toNatClampNeg 1) J13 K)) ∧ ((x14 = 0) → (CalI wM d mX13_masterOf [.ref (0), .int (v2)] I12 J13 (fun x19 I17 J18 => (CalI wM d mX13_isOf [.ref (0), .int (x19), .int (x8)] I17 J18 (fun x22 I20 J21 => (((x22 = 2) → (GoV wM (d + 1) mX13_allTaught 2 [(0, .ref (0)), (1, .int (v1)), (2, .int (v2 + 1))] [] (u2 I20 45 v2.toNatClampNeg 2) J21 K)) ∧ ((¬ x22 = 2) → ((((I20 39 (4 : Int32).toNatClampNeg) = ((-1))) → (GoV wM (d + 1) mX13_allTaught 2 [(0, .ref (0)), (1, .int (v1)), (2, .int (v2 + 1))] [] (u2 I20 45 v2.toNatClampNeg 1) J21 K)) ∧ ((¬ (I20 39 (4 : Int32).toNatClampNeg) = ((-1))) → (CalI wM d mX13_holds [.ref (0), .int (1), .int (v2), .int (x8)] I20 J21 (fun x30 I28 J29 => (((x30 = 0) → (GoV wM (d + 1) mX13_allTaught 2 [(0, .ref (0)), (1, .int (v1)), (2, .int (v2 + 1))] [] (u2 I28 45 v2.toNatClampNeg 1) J29 K)) ∧ ((¬ x30 = 0) → (GoV wM (d + 1) mX13_allTaught 2 [(0, .ref (0)), (1, .int (v1)), (2, .int (v2 + 1))] [] (u2 I28 45 v2.toNatClampNeg 2) J29 K)))))))))))))))))) ∧ ((x8 = ((-1))) → (GoV wM (d + 1) mX13_allTaught 2 [(0, .ref (0)), (1, .int (v1)), (2, .int (v2 + 1))] [] I10 J7 K)))))))) ∧ ((((v1 >>> (v2 &&& 31)) &&& 1) = 1) → (vp_in (v2) 8 ∧ (GoV wM (d + 1) mX13_allTaught 2 [(0, .ref (0)), (1, .int (v1)), (2, .int (v2 + 1))] [] (u2 I1 44 v2.toNatClampNeg ((-1))) J2 K)))))))) :
    GoV wM (d + 1) mX13_allTaught 2 [(0, .ref (0)), (1, .int (v1)), (2, .int (v2))] [] I J K :=
  (g_iload_n dX13_allTaught_2 2 2 rfl rfl (g_aload_n dX13_allTaught_3 0 0 rfl rfl (g_callvI dX13_allTaught_4 ml_X13_401 md_X13_personMany mv_X13_personMany obM_0 rfl rfl rfl (Nat.le_of_ble_eq_true rfl) (CalI.mono h (fun x3 I1 J2 h41 => (g_icmp_ge dX13_allTaught_7 rfl (fun q4 => (g_iconst dX13_allTaught_116 kc_0 (g_istore_n dX13_allTaught_117 rfl (by decide) rfl (g_sub [1, 0] rfl (h41.1 q4))))) (fun q4 => (g_iload_n dX13_allTaught_10 1 1 rfl rfl (g_iload_n dX13_allTaught_11 2 2 rfl rfl (g_ishr dX13_allTaught_12 (g_iconst dX13_allTaught_13 kc_1 (g_iand dX13_allTaught_14 (g_iconst dX13_allTaught_15 kc_1 (g_icmp_ne dX13_allTaught_16 rfl (fun q5 => (g_aload_n dX13_allTaught_23 0 0 rfl rfl (g_iload_n dX13_allTaught_24 2 2 rfl rfl (g_callvI dX13_allTaught_25 ml_X13_436 md_X13_taughtNext mv_X13_taughtNext obM_0 rfl rfl rfl (Nat.le_of_ble_eq_true rfl) (CalI.mono ((h41.2 q4).1 q5) (fun x8 I6 J7 h38 => (g_istore_n dX13_allTaught_28 rfl (by decide) rfl (g_aload_n dX13_allTaught_29 1 0 rfl rfl (g_getP dX13_allTaught_30 fl_X13_145 rfl obM_0 rfl (g_iload_n dX13_allTaught_33 3 2 rfl rfl (g_iload_n dX13_allTaught_34 0 3 rfl rfl (have b9 := h38.1; g_iast dX13_allTaught_35 arM_44 b9 (g_iload_n dX13_allTaught_36 0 3 rfl rfl (g_iconst dX13_allTaught_37 kc_n1 (g_icmp_ne dX13_allTaught_38 rfl (fun q11 => (g_aload_n dX13_allTaught_44 1 0 rfl rfl (g_iload_n dX13_allTaught_45 3 2 rfl rfl (g_iload_n dX13_allTaught_46 0 3 rfl rfl (g_callvI dX13_allTaught_47 ml_X13_430 md_X13_isOf mv_X13_isOf obM_0 rfl rfl rfl (Nat.le_of_ble_eq_true rfl) (CalI.mono ((h38.2 _ rfl).1 q11) (fun x14 I12 J13 h37 => (g_if_ne dX13_allTaught_50 rfl (fun q15 => (g_iconst dX13_allTaught_91 kc_0 (g_istore dX13_allTaught_92 (by decide) rfl (g_aload_n dX13_allTaught_94 2 0 rfl rfl (g_getP dX13_allTaught_95 fl_X13_148 rfl obM_0 rfl (g_iload_n dX13_allTaught_98 4 2 rfl rfl (g_iload dX13_allTaught_99 0 rfl (g_if_eq dX13_allTaught_101 rfl (fun _ => (g_iconst dX13_allTaught_108 kc_1 (g_iast dX13_allTaught_109 arM_45 b9 (g_iinc dX13_allTaught_110 4 rfl rfl (by decide) rfl (g_goto dX13_allTaught_113 rfl (g_sub [3, 4, 0] rfl (h37.1 q15))))))) (fun q => absurd q (by decide)))))))))) (fun q15 => (g_aload_n dX13_allTaught_53 1 0 rfl rfl (g_aload_n dX13_allTaught_54 1 0 rfl rfl (g_iload_n dX13_allTaught_55 3 2 rfl rfl (g_callvI dX13_allTaught_56 ml_X13_410 md_X13_masterOf mv_X13_masterOf obM_0 rfl rfl rfl (Nat.le_of_ble_eq_true rfl) (CalI.mono (h37.2 q15) (fun x19 I17 J18 h36 => (g_iload_n dX13_allTaught_59 0 3 rfl rfl (g_callvI dX13_allTaught_60 ml_X13_430 md_X13_isOf mv_X13_isOf obM_0 rfl rfl rfl (Nat.le_of_ble_eq_true rfl) (CalI.mono h36 (fun x22 I20 J21 h35 => (g_iconst dX13_allTaught_63 kc_2 (g_icmp_eq dX13_allTaught_64 rfl (fun q23 => (g_iconst dX13_allTaught_87 kc_1 (g_goto dX13_allTaught_88 rfl (g_istore dX13_allTaught_92 (by decide) rfl (g_aload_n dX13_allTaught_94 2 0 rfl rfl (g_getP dX13_allTaught_95 fl_X13_148 rfl obM_0 rfl (g_iload_n dX13_allTaught_98 4 2 rfl rfl (g_iload dX13_allTaught_99 0 rfl (g_if_eq dX13_allTaught_101 rfl (fun q => absurd q (by decide)) (fun _ => (g_iconst dX13_allTaught_104 kc_2 (g_goto dX13_allTaught_105 rfl (g_iast dX13_allTaught_109 arM_45 b9 (g_iinc dX13_allTaught_110 4 rfl rfl (by decide) rfl (g_goto dX13_allTaught_113 rfl (g_sub [3, 4, 0] rfl (h35.1 q23))))))))))))))))) (fun q23 => (g_aload_n dX13_allTaught_67 1 0 rfl rfl (g_getP dX13_allTaught_68 fl_X13_130 rfl obM_0 rfl (g_iconst dX13_allTaught_71 kc_4 (g_iald dX13_allTaught_72 arM_39 (by unfold vp_in; decide) (g_iconst dX13_allTaught_73 kc_n1 (g_icmp_eq dX13_allTaught_74 rfl (fun q26 => (g_iconst dX13_allTaught_91 kc_0 (g_istore dX13_allTaught_92 (by decide) rfl (g_aload_n dX13_allTaught_94 2 0 rfl rfl (g_getP dX13_allTaught_95 fl_X13_148 rfl obM_0 rfl (g_iload_n dX13_allTaught_98 4 2 rfl rfl (g_iload dX13_allTaught_99 0 rfl (g_if_eq dX13_allTaught_101 rfl (fun _ => (g_iconst dX13_allTaught_108 kc_1 (g_iast dX13_allTaught_109 arM_45 b9 (g_iinc dX13_allTaught_110 4 rfl rfl (by decide) rfl (g_goto dX13_allTaught_113 rfl (g_sub [3, 4, 0] rfl ((h35.2 q23).1 q26))))))) (fun q => absurd q (by decide)))))))))) (fun q26 => (g_aload_n dX13_allTaught_77 1 0 rfl rfl (g_iconst dX13_allTaught_78 kc_1 (g_iload_n dX13_allTaught_79 3 2 rfl rfl (g_iload_n dX13_allTaught_80 0 3 rfl rfl (g_callvI dX13_allTaught_81 ml_X13_433 md_X13_holds mv_X13_holds obM_0 rfl rfl rfl (Nat.le_of_ble_eq_true rfl) (CalI.mono ((h35.2 q23).2 q26) (fun x30 I28 J29 h34 => (g_if_eq dX13_allTaught_84 rfl (fun q31 => (g_iconst dX13_allTaught_91 kc_0 (g_istore dX13_allTaught_92 (by decide) rfl (g_aload_n dX13_allTaught_94 2 0 rfl rfl (g_getP dX13_allTaught_95 fl_X13_148 rfl obM_0 rfl (g_iload_n dX13_allTaught_98 4 2 rfl rfl (g_iload dX13_allTaught_99 0 rfl (g_if_eq dX13_allTaught_101 rfl (fun _ => (g_iconst dX13_allTaught_108 kc_1 (g_iast dX13_allTaught_109 arM_45 b9 (g_iinc dX13_allTaught_110 4 rfl rfl (by decide) rfl (g_goto dX13_allTaught_113 rfl (g_sub [3, 4, 0] rfl (h34.1 q31))))))) (fun q => absurd q (by decide)))))))))) (fun q31 => (g_iconst dX13_allTaught_87 kc_1 (g_goto dX13_allTaught_88 rfl (g_istore dX13_allTaught_92 (by decide) rfl (g_aload_n dX13_allTaught_94 2 0 rfl rfl (g_getP dX13_allTaught_95 fl_X13_148 rfl obM_0 rfl (g_iload_n dX13_allTaught_98 4 2 rfl rfl (g_iload dX13_allTaught_99 0 rfl (g_if_eq dX13_allTaught_101 rfl (fun q => absurd q (by decide)) (fun _ => (g_iconst dX13_allTaught_104 kc_2 (g_goto dX13_allTaught_105 rfl (g_iast dX13_allTaught_109 arM_45 b9 (g_iinc dX13_allTaught_110 4 rfl rfl (by decide) rfl (g_goto dX13_allTaught_113 rfl (g_sub [3, 4, 0] rfl (h34.2 q31)))))))))))))))))))))))))))))))))))))))))))))))))))))) (fun q11 => (g_goto dX13_allTaught_41 rfl (g_iinc dX13_allTaught_110 3 rfl rfl (by decide) rfl (g_goto dX13_allTaught_113 rfl (g_sub [2, 3, 0] rfl ((h38.2 _ rfl).2 q11))))))))))))))))))))) (fun q5 => (g_iconst dX13_allTaught_19 kc_n1 (g_goto dX13_allTaught_20 rfl (g_istore_n dX13_allTaught_28 rfl (by decide) rfl (g_aload_n dX13_allTaught_29 1 0 rfl rfl (g_getP dX13_allTaught_30 fl_X13_145 rfl obM_0 rfl (g_iload_n dX13_allTaught_33 3 2 rfl rfl (g_iload_n dX13_allTaught_34 0 3 rfl rfl (have b39 := ((h41.2 q4).2 q5).1; g_iast dX13_allTaught_35 arM_44 b39 (g_iload_n dX13_allTaught_36 0 3 rfl rfl (g_iconst dX13_allTaught_37 kc_n1 (g_icmp_ne dX13_allTaught_38 rfl (fun q => absurd q (by decide)) (fun _ => (g_goto dX13_allTaught_41 rfl (g_iinc dX13_allTaught_110 3 rfl rfl (by decide) rfl (g_goto dX13_allTaught_113 rfl (g_sub [2, 3, 0] rfl ((h41.2 q4).2 q5).2)))))))))))))))))))))))))))))))
theorem bX13_allTaught_118 {d : Nat}  {v2 : Int32} {I : Ii} {J : Jj} {K : KV}
    (h : CalI wM d mX13_personMany [.ref (0)] I J (fun x3 I1 J2 => (((x3 ≤ v2) → (K I1 J2)) ∧ ((¬ x3 ≤ v2) → (vp_in (v2) 8 ∧ ((((I1 44 v2.toNatClampNeg) = ((-1))) → (GoV wM (d + 1) mX13_allTaught 118 [(0, .ref (0)), (2, .int (v2 + 1))] [] I1 J2 K)) ∧ ((¬ (I1 44 v2.toNatClampNeg) = ((-1))) → (CalV wM d mX13_makes [.ref (0), .int (v2), .int (I1 44 v2.toNatClampNeg), .int (I1 45 v2.toNatClampNeg)] I1 J2 (fun I7 J8 => (GoV wM (d + 1) mX13_allTaught 118 [(0, .ref (0)), (2, .int (v2 + 1))] [] I7 J8 K)))))))))) :
    GoV wM (d + 1) mX13_allTaught 118 [(0, .ref (0)), (2, .int (v2))] [] I J K :=
  (g_iload_n dX13_allTaught_118 1 2 rfl rfl (g_aload_n dX13_allTaught_119 0 0 rfl rfl (g_callvI dX13_allTaught_120 ml_X13_401 md_X13_personMany mv_X13_personMany obM_0 rfl rfl rfl (Nat.le_of_ble_eq_true rfl) (CalI.mono h (fun x3 I1 J2 h10 => (g_icmp_ge dX13_allTaught_123 rfl (fun q4 => (g_return dX13_allTaught_159 rfl ⟨rfl, (h10.1 q4)⟩)) (fun q4 => (g_aload_n dX13_allTaught_126 0 0 rfl rfl (g_getP dX13_allTaught_127 fl_X13_145 rfl obM_0 rfl (g_iload_n dX13_allTaught_130 1 2 rfl rfl (have b5 := (h10.2 q4).1; g_iald dX13_allTaught_131 arM_44 b5 (g_iconst dX13_allTaught_132 kc_n1 (g_icmp_eq dX13_allTaught_133 rfl (fun q6 => (g_iinc dX13_allTaught_153 1 rfl rfl (by decide) rfl (g_goto dX13_allTaught_156 rfl (g_sub [1, 0] rfl ((h10.2 q4).2.1 q6))))) (fun q6 => (g_aload_n dX13_allTaught_136 0 0 rfl rfl (g_iload_n dX13_allTaught_137 1 2 rfl rfl (g_aload_n dX13_allTaught_138 0 0 rfl rfl (g_getP dX13_allTaught_139 fl_X13_145 rfl obM_0 rfl (g_iload_n dX13_allTaught_142 1 2 rfl rfl (g_iald dX13_allTaught_143 arM_44 b5 (g_aload_n dX13_allTaught_144 0 0 rfl rfl (g_getP dX13_allTaught_145 fl_X13_148 rfl obM_0 rfl (g_iload_n dX13_allTaught_148 1 2 rfl rfl (g_iald dX13_allTaught_149 arM_45 b5 (g_callvV dX13_allTaught_150 ml_X13_439 md_X13_makes mv_X13_makes obM_0 rfl rfl rfl (Nat.le_of_ble_eq_true rfl) (CalV.mono ((h10.2 q4).2.2 q6) (fun I7 J8 h9 => (g_iinc dX13_allTaught_153 1 rfl rfl (by decide) rfl (g_goto dX13_allTaught_156 rfl (g_sub [1, 0] rfl h9))))))))))))))))))))))))))))))
theorem dX13_makes_0 : decode cX13_makes 0 = .ok (.iconst 1, 1) := by decide +kernel
theorem dX13_makes_1 : decode cX13_makes 1 = .ok (.iconst 5, 1) := by decide +kernel
theorem dX13_makes_2 : decode cX13_makes 2 = .ok (.iload_n 1, 1) := by decide +kernel
theorem dX13_makes_3 : decode cX13_makes 3 = .ok (.imul, 1) := by decide +kernel
theorem dX13_makes_4 : decode cX13_makes 4 = .ok (.iadd, 1) := by decide +kernel
theorem dX13_makes_5 : decode cX13_makes 5 = .ok (.iconst 1, 1) := by decide +kernel
theorem dX13_makes_6 : decode cX13_makes 6 = .ok (.iadd, 1) := by decide +kernel
theorem dX13_makes_7 : decode cX13_makes 7 = .ok (.istore 4, 2) := by decide +kernel
theorem dX13_makes_9 : decode cX13_makes 9 = .ok (.aload_n 0, 1) := by decide +kernel
theorem dX13_makes_10 : decode cX13_makes 10 = .ok (.getfield 139, 3) := by decide +kernel
theorem dX13_makes_13 : decode cX13_makes 13 = .ok (.iload 4, 2) := by decide +kernel
theorem dX13_makes_15 : decode cX13_makes 15 = .ok (.dup2, 1) := by decide +kernel
theorem dX13_makes_16 : decode cX13_makes 16 = .ok (.iaload, 1) := by decide +kernel
theorem dX13_makes_17 : decode cX13_makes 17 = .ok (.iconst 1, 1) := by decide +kernel
theorem dX13_makes_18 : decode cX13_makes 18 = .ok (.iload_n 2, 1) := by decide +kernel
theorem dX13_makes_19 : decode cX13_makes 19 = .ok (.ishl, 1) := by decide +kernel
theorem dX13_makes_20 : decode cX13_makes 20 = .ok (.iconst (-1), 1) := by decide +kernel
theorem dX13_makes_21 : decode cX13_makes 21 = .ok (.ixor, 1) := by decide +kernel
theorem dX13_makes_22 : decode cX13_makes 22 = .ok (.iand, 1) := by decide +kernel
theorem dX13_makes_23 : decode cX13_makes 23 = .ok (.iastore, 1) := by decide +kernel
theorem dX13_makes_24 : decode cX13_makes 24 = .ok (.aload_n 0, 1) := by decide +kernel
theorem dX13_makes_25 : decode cX13_makes 25 = .ok (.getfield 139, 3) := by decide +kernel
theorem dX13_makes_28 : decode cX13_makes 28 = .ok (.iload 4, 2) := by decide +kernel
theorem dX13_makes_30 : decode cX13_makes 30 = .ok (.iconst 1, 1) := by decide +kernel
theorem dX13_makes_31 : decode cX13_makes 31 = .ok (.iadd, 1) := by decide +kernel
theorem dX13_makes_32 : decode cX13_makes 32 = .ok (.dup2, 1) := by decide +kernel
theorem dX13_makes_33 : decode cX13_makes 33 = .ok (.iaload, 1) := by decide +kernel
theorem dX13_makes_34 : decode cX13_makes 34 = .ok (.iconst 1, 1) := by decide +kernel
theorem dX13_makes_35 : decode cX13_makes 35 = .ok (.iload_n 2, 1) := by decide +kernel
theorem dX13_makes_36 : decode cX13_makes 36 = .ok (.ishl, 1) := by decide +kernel
theorem dX13_makes_37 : decode cX13_makes 37 = .ok (.iconst (-1), 1) := by decide +kernel
theorem dX13_makes_38 : decode cX13_makes 38 = .ok (.ixor, 1) := by decide +kernel
theorem dX13_makes_39 : decode cX13_makes 39 = .ok (.iand, 1) := by decide +kernel
theorem dX13_makes_40 : decode cX13_makes 40 = .ok (.iastore, 1) := by decide +kernel
theorem dX13_makes_41 : decode cX13_makes 41 = .ok (.iload_n 3, 1) := by decide +kernel
theorem dX13_makes_42 : decode cX13_makes 42 = .ok (.iconst 1, 1) := by decide +kernel
theorem dX13_makes_43 : decode cX13_makes 43 = .ok (.if_icmp .ne 16, 3) := by decide +kernel
theorem dX13_makes_46 : decode cX13_makes 46 = .ok (.aload_n 0, 1) := by decide +kernel
theorem dX13_makes_47 : decode cX13_makes 47 = .ok (.getfield 139, 3) := by decide +kernel
theorem dX13_makes_50 : decode cX13_makes 50 = .ok (.iload 4, 2) := by decide +kernel
theorem dX13_makes_52 : decode cX13_makes 52 = .ok (.dup2, 1) := by decide +kernel
theorem dX13_makes_53 : decode cX13_makes 53 = .ok (.iaload, 1) := by decide +kernel
theorem dX13_makes_54 : decode cX13_makes 54 = .ok (.iconst 1, 1) := by decide +kernel
theorem dX13_makes_55 : decode cX13_makes 55 = .ok (.iload_n 2, 1) := by decide +kernel
theorem dX13_makes_56 : decode cX13_makes 56 = .ok (.ishl, 1) := by decide +kernel
theorem dX13_makes_57 : decode cX13_makes 57 = .ok (.ior, 1) := by decide +kernel
theorem dX13_makes_58 : decode cX13_makes 58 = .ok (.iastore, 1) := by decide +kernel
theorem dX13_makes_59 : decode cX13_makes 59 = .ok (.iload_n 3, 1) := by decide +kernel
theorem dX13_makes_60 : decode cX13_makes 60 = .ok (.iconst 2, 1) := by decide +kernel
theorem dX13_makes_61 : decode cX13_makes 61 = .ok (.if_icmp .ne 18, 3) := by decide +kernel
theorem dX13_makes_64 : decode cX13_makes 64 = .ok (.aload_n 0, 1) := by decide +kernel
theorem dX13_makes_65 : decode cX13_makes 65 = .ok (.getfield 139, 3) := by decide +kernel
theorem dX13_makes_68 : decode cX13_makes 68 = .ok (.iload 4, 2) := by decide +kernel
theorem dX13_makes_70 : decode cX13_makes 70 = .ok (.iconst 1, 1) := by decide +kernel
theorem dX13_makes_71 : decode cX13_makes 71 = .ok (.iadd, 1) := by decide +kernel
theorem dX13_makes_72 : decode cX13_makes 72 = .ok (.dup2, 1) := by decide +kernel
theorem dX13_makes_73 : decode cX13_makes 73 = .ok (.iaload, 1) := by decide +kernel
theorem dX13_makes_74 : decode cX13_makes 74 = .ok (.iconst 1, 1) := by decide +kernel
theorem dX13_makes_75 : decode cX13_makes 75 = .ok (.iload_n 2, 1) := by decide +kernel
theorem dX13_makes_76 : decode cX13_makes 76 = .ok (.ishl, 1) := by decide +kernel
theorem dX13_makes_77 : decode cX13_makes 77 = .ok (.ior, 1) := by decide +kernel
theorem dX13_makes_78 : decode cX13_makes 78 = .ok (.iastore, 1) := by decide +kernel
theorem dX13_makes_79 : decode cX13_makes 79 = .ok (.return_, 1) := by decide +kernel
theorem bX13_makes_0 {d : Nat}  {v1 : Int32} {v2 : Int32} {v3 : Int32} {I : Ii} {J : Jj} {K : KV}
    (h : vp_in ((1 + (5 * v1)) + 1) 132 ∧ (∀ I2 : Ii, I2 = u2 I 42 ((1 + (5 * v1)) + 1).toNatClampNeg ((I 42 ((1 + (5 * v1)) + 1).toNatClampNeg) &&& ((1 <<< (v2 &&& 31)) ^^^ ((-1)))) → (vp_in (((1 + (5 * v1)) + 1) + 1) 132 ∧ (∀ I4 : Ii, I4 = u2 I2 42 (((1 + (5 * v1)) + 1) + 1).toNatClampNeg ((I2 42 (((1 + (5 * v1)) + 1) + 1).toNatClampNeg) &&& ((1 <<< (v2 &&& 31)) ^^^ ((-1)))) → (((¬ v3 = 1) → (((¬ v3 = 2) → (K I4 J)) ∧ ((v3 = 2) → (K (u2 I4 42 (((1 + (5 * v1)) + 1) + 1).toNatClampNeg ((I4 42 (((1 + (5 * v1)) + 1) + 1).toNatClampNeg) ||| (1 <<< (v2 &&& 31)))) J)))) ∧ ((v3 = 1) → (∀ I8 : Ii, I8 = u2 I4 42 ((1 + (5 * v1)) + 1).toNatClampNeg ((I4 42 ((1 + (5 * v1)) + 1).toNatClampNeg) ||| (1 <<< (v2 &&& 31))) → (((¬ v3 = 2) → (K I8 J)) ∧ ((v3 = 2) → (K (u2 I8 42 (((1 + (5 * v1)) + 1) + 1).toNatClampNeg ((I8 42 (((1 + (5 * v1)) + 1) + 1).toNatClampNeg) ||| (1 <<< (v2 &&& 31)))) J)))))))))) :
    GoV wM d mX13_makes 0 [(0, .ref (0)), (1, .int (v1)), (2, .int (v2)), (3, .int (v3))] [] I J K :=
  (g_iconst dX13_makes_0 kc_1 (g_iconst dX13_makes_1 kc_5 (g_iload_n dX13_makes_2 1 1 rfl rfl (g_imul dX13_makes_3 (g_iadd dX13_makes_4 (g_iconst dX13_makes_5 kc_1 (g_iadd dX13_makes_6 (g_istore dX13_makes_7 (by decide) rfl (g_aload_n dX13_makes_9 1 0 rfl rfl (g_getP dX13_makes_10 fl_X13_139 rfl obM_0 rfl (g_iload dX13_makes_13 0 rfl (g_dup2_11 dX13_makes_15 rfl rfl (have b1 := h.1; g_iald dX13_makes_16 arM_42 b1 (g_iconst dX13_makes_17 kc_1 (g_iload_n dX13_makes_18 3 2 rfl rfl (g_ishl dX13_makes_19 (g_iconst dX13_makes_20 kc_n1 (g_ixor dX13_makes_21 (g_iand dX13_makes_22 (g_iast dX13_makes_23 arM_42 b1 (g_aload_n dX13_makes_24 1 0 rfl rfl (g_getP dX13_makes_25 fl_X13_139 rfl obM_0 rfl (g_iload dX13_makes_28 0 rfl (g_iconst dX13_makes_30 kc_1 (g_iadd dX13_makes_31 (g_dup2_11 dX13_makes_32 rfl rfl (have b3 := (h.2 _ rfl).1; g_iald dX13_makes_33 arM_42 b3 (g_iconst dX13_makes_34 kc_1 (g_iload_n dX13_makes_35 3 2 rfl rfl (g_ishl dX13_makes_36 (g_iconst dX13_makes_37 kc_n1 (g_ixor dX13_makes_38 (g_iand dX13_makes_39 (g_iast dX13_makes_40 arM_42 b3 (g_iload_n dX13_makes_41 4 3 rfl rfl (g_iconst dX13_makes_42 kc_1 (g_icmp_ne dX13_makes_43 rfl (fun q5 => (g_iload_n dX13_makes_59 4 3 rfl rfl (g_iconst dX13_makes_60 kc_2 (g_icmp_ne dX13_makes_61 rfl (fun q6 => (g_return dX13_makes_79 rfl ⟨rfl, ((((h.2 _ rfl).2 _ rfl).1 q5).1 q6)⟩)) (fun q6 => (g_aload_n dX13_makes_64 1 0 rfl rfl (g_getP dX13_makes_65 fl_X13_139 rfl obM_0 rfl (g_iload dX13_makes_68 0 rfl (g_iconst dX13_makes_70 kc_1 (g_iadd dX13_makes_71 (g_dup2_11 dX13_makes_72 rfl rfl (g_iald dX13_makes_73 arM_42 b3 (g_iconst dX13_makes_74 kc_1 (g_iload_n dX13_makes_75 3 2 rfl rfl (g_ishl dX13_makes_76 (g_ior dX13_makes_77 (g_iast dX13_makes_78 arM_42 b3 (g_return dX13_makes_79 rfl ⟨rfl, ((((h.2 _ rfl).2 _ rfl).1 q5).2 q6)⟩)))))))))))))))))) (fun q5 => (g_aload_n dX13_makes_46 1 0 rfl rfl (g_getP dX13_makes_47 fl_X13_139 rfl obM_0 rfl (g_iload dX13_makes_50 0 rfl (g_dup2_11 dX13_makes_52 rfl rfl (g_iald dX13_makes_53 arM_42 b1 (g_iconst dX13_makes_54 kc_1 (g_iload_n dX13_makes_55 3 2 rfl rfl (g_ishl dX13_makes_56 (g_ior dX13_makes_57 (g_iast dX13_makes_58 arM_42 b1 (g_iload_n dX13_makes_59 4 3 rfl rfl (g_iconst dX13_makes_60 kc_2 (g_icmp_ne dX13_makes_61 rfl (fun q9 => (g_return dX13_makes_79 rfl ⟨rfl, (((((h.2 _ rfl).2 _ rfl).2 q5) _ rfl).1 q9)⟩)) (fun q9 => (g_aload_n dX13_makes_64 1 0 rfl rfl (g_getP dX13_makes_65 fl_X13_139 rfl obM_0 rfl (g_iload dX13_makes_68 0 rfl (g_iconst dX13_makes_70 kc_1 (g_iadd dX13_makes_71 (g_dup2_11 dX13_makes_72 rfl rfl (g_iald dX13_makes_73 arM_42 b3 (g_iconst dX13_makes_74 kc_1 (g_iload_n dX13_makes_75 3 2 rfl rfl (g_ishl dX13_makes_76 (g_ior dX13_makes_77 (g_iast dX13_makes_78 arM_42 b3 (g_return dX13_makes_79 rfl ⟨rfl, (((((h.2 _ rfl).2 _ rfl).2 q5) _ rfl).2 q9)⟩)))))))))))))))))))))))))))))))))))))))))))))))))))))))))))))))))
theorem dX13_sitsFor_0 : decode cX13_sitsFor 0 = .ok (.aload_n 0, 1) := by decide +kernel
theorem dX13_sitsFor_1 : decode cX13_sitsFor 1 = .ok (.iload_n 1, 1) := by decide +kernel
theorem dX13_sitsFor_2 : decode cX13_sitsFor 2 = .ok (.invokevirtual 447, 3) := by decide +kernel
theorem dX13_sitsFor_5 : decode cX13_sitsFor 5 = .ok (.ifCond .ne 31, 3) := by decide +kernel
theorem dX13_sitsFor_8 : decode cX13_sitsFor 8 = .ok (.aload_n 0, 1) := by decide +kernel
theorem dX13_sitsFor_9 : decode cX13_sitsFor 9 = .ok (.iload_n 1, 1) := by decide +kernel
theorem dX13_sitsFor_10 : decode cX13_sitsFor 10 = .ok (.invokevirtual 450, 3) := by decide +kernel
theorem dX13_sitsFor_13 : decode cX13_sitsFor 13 = .ok (.ifCond .eq 23, 3) := by decide +kernel
theorem dX13_sitsFor_16 : decode cX13_sitsFor 16 = .ok (.aload_n 0, 1) := by decide +kernel
theorem dX13_sitsFor_17 : decode cX13_sitsFor 17 = .ok (.getfield 130, 3) := by decide +kernel
theorem dX13_sitsFor_20 : decode cX13_sitsFor 20 = .ok (.iconst 5, 1) := by decide +kernel
theorem dX13_sitsFor_21 : decode cX13_sitsFor 21 = .ok (.iaload, 1) := by decide +kernel
theorem dX13_sitsFor_22 : decode cX13_sitsFor 22 = .ok (.iconst (-1), 1) := by decide +kernel
theorem dX13_sitsFor_23 : decode cX13_sitsFor 23 = .ok (.if_icmp .eq 14, 3) := by decide +kernel
theorem dX13_sitsFor_26 : decode cX13_sitsFor 26 = .ok (.aload_n 0, 1) := by decide +kernel
theorem dX13_sitsFor_27 : decode cX13_sitsFor 27 = .ok (.iconst 2, 1) := by decide +kernel
theorem dX13_sitsFor_28 : decode cX13_sitsFor 28 = .ok (.iload_n 1, 1) := by decide +kernel
theorem dX13_sitsFor_29 : decode cX13_sitsFor 29 = .ok (.iconst 0, 1) := by decide +kernel
theorem dX13_sitsFor_30 : decode cX13_sitsFor 30 = .ok (.invokevirtual 433, 3) := by decide +kernel
theorem dX13_sitsFor_33 : decode cX13_sitsFor 33 = .ok (.ifCond .ne 4, 3) := by decide +kernel
theorem dX13_sitsFor_36 : decode cX13_sitsFor 36 = .ok (.return_, 1) := by decide +kernel
theorem dX13_sitsFor_37 : decode cX13_sitsFor 37 = .ok (.aload_n 0, 1) := by decide +kernel
theorem dX13_sitsFor_38 : decode cX13_sitsFor 38 = .ok (.iload_n 1, 1) := by decide +kernel
theorem dX13_sitsFor_39 : decode cX13_sitsFor 39 = .ok (.invokevirtual 453, 3) := by decide +kernel
theorem dX13_sitsFor_42 : decode cX13_sitsFor 42 = .ok (.aload_n 0, 1) := by decide +kernel
theorem dX13_sitsFor_43 : decode cX13_sitsFor 43 = .ok (.getfield 127, 3) := by decide +kernel
theorem dX13_sitsFor_46 : decode cX13_sitsFor 46 = .ok (.iconst 3, 1) := by decide +kernel
theorem dX13_sitsFor_47 : decode cX13_sitsFor 47 = .ok (.iaload, 1) := by decide +kernel
theorem dX13_sitsFor_48 : decode cX13_sitsFor 48 = .ok (.if_icmp .ge 20, 3) := by decide +kernel
theorem dX13_sitsFor_51 : decode cX13_sitsFor 51 = .ok (.aload_n 0, 1) := by decide +kernel
theorem dX13_sitsFor_52 : decode cX13_sitsFor 52 = .ok (.getfield 139, 3) := by decide +kernel
theorem dX13_sitsFor_55 : decode cX13_sitsFor 55 = .ok (.iconst 1, 1) := by decide +kernel
theorem dX13_sitsFor_56 : decode cX13_sitsFor 56 = .ok (.iconst 5, 1) := by decide +kernel
theorem dX13_sitsFor_57 : decode cX13_sitsFor 57 = .ok (.iload_n 1, 1) := by decide +kernel
theorem dX13_sitsFor_58 : decode cX13_sitsFor 58 = .ok (.imul, 1) := by decide +kernel
theorem dX13_sitsFor_59 : decode cX13_sitsFor 59 = .ok (.iadd, 1) := by decide +kernel
theorem dX13_sitsFor_60 : decode cX13_sitsFor 60 = .ok (.iconst 3, 1) := by decide +kernel
theorem dX13_sitsFor_61 : decode cX13_sitsFor 61 = .ok (.iadd, 1) := by decide +kernel
theorem dX13_sitsFor_62 : decode cX13_sitsFor 62 = .ok (.dup2, 1) := by decide +kernel
theorem dX13_sitsFor_63 : decode cX13_sitsFor 63 = .ok (.iaload, 1) := by decide +kernel
theorem dX13_sitsFor_64 : decode cX13_sitsFor 64 = .ok (.iconst 1, 1) := by decide +kernel
theorem dX13_sitsFor_65 : decode cX13_sitsFor 65 = .ok (.isub, 1) := by decide +kernel
theorem dX13_sitsFor_66 : decode cX13_sitsFor 66 = .ok (.iastore, 1) := by decide +kernel
theorem dX13_sitsFor_67 : decode cX13_sitsFor 67 = .ok (.return_, 1) := by decide +kernel
theorem dX13_sitsFor_68 : decode cX13_sitsFor 68 = .ok (.aload_n 0, 1) := by decide +kernel
theorem dX13_sitsFor_69 : decode cX13_sitsFor 69 = .ok (.iload_n 1, 1) := by decide +kernel
theorem dX13_sitsFor_70 : decode cX13_sitsFor 70 = .ok (.iconst 1, 1) := by decide +kernel
theorem dX13_sitsFor_71 : decode cX13_sitsFor 71 = .ok (.invokevirtual 456, 3) := by decide +kernel
theorem dX13_sitsFor_74 : decode cX13_sitsFor 74 = .ok (.aload_n 0, 1) := by decide +kernel
theorem dX13_sitsFor_75 : decode cX13_sitsFor 75 = .ok (.dup, 1) := by decide +kernel
theorem dX13_sitsFor_76 : decode cX13_sitsFor 76 = .ok (.getfield 459, 3) := by decide +kernel
theorem dX13_sitsFor_79 : decode cX13_sitsFor 79 = .ok (.iconst 1, 1) := by decide +kernel
theorem dX13_sitsFor_80 : decode cX13_sitsFor 80 = .ok (.iadd, 1) := by decide +kernel
theorem dX13_sitsFor_81 : decode cX13_sitsFor 81 = .ok (.putfield 459, 3) := by decide +kernel
theorem dX13_sitsFor_84 : decode cX13_sitsFor 84 = .ok (.aload_n 0, 1) := by decide +kernel
theorem dX13_sitsFor_85 : decode cX13_sitsFor 85 = .ok (.iload_n 1, 1) := by decide +kernel
theorem dX13_sitsFor_86 : decode cX13_sitsFor 86 = .ok (.iconst 1, 1) := by decide +kernel
theorem dX13_sitsFor_87 : decode cX13_sitsFor 87 = .ok (.invokevirtual 462, 3) := by decide +kernel
theorem dX13_sitsFor_90 : decode cX13_sitsFor 90 = .ok (.return_, 1) := by decide +kernel
theorem bX13_sitsFor_0 {d : Nat}  {v1 : Int32} {I : Ii} {J : Jj} {K : KV}
    (h : CalI wM d mX13_hasPassed [.ref (0), .int (v1)] I J (fun x3 I1 J2 => (((¬ x3 = 0) → (K I1 J2)) ∧ ((x3 = 0) → (CalI wM d mX13_leftOf [.ref (0), .int (v1)] I1 J2 (fun x7 I5 J6 => (((x7 = 0) → (K I5 J6)) ∧ ((¬ x7 = 0) → ((((I5 39 (5 : Int32).toNatClampNeg) = ((-1))) → (CalI wM d mX13_marksOf [.ref (0), .int (v1)] I5 J6 (fun x13 I11 J12 => ((((I11 38 (3 : Int32).toNatClampNeg) ≤ x13) → (CalV wM d mX13_becomes [.ref (0), .int (v1), .int (1)] I11 J12 (fun I16 J17 => (CalV wM d mX13_isKept [.ref (0), .int (v1), .int (1)] (u2 I16 0 59 ((I16 0 59) + 1)) J17 (fun I19 J20 => (K I19 J20)))))) ∧ ((¬ (I11 38 (3 : Int32).toNatClampNeg) ≤ x13) → (vp_in ((1 + (5 * v1)) + 3) 132 ∧ (K (u2 I11 42 ((1 + (5 * v1)) + 3).toNatClampNeg ((I11 42 ((1 + (5 * v1)) + 3).toNatClampNeg) - 1)) J12))))))) ∧ ((¬ (I5 39 (5 : Int32).toNatClampNeg) = ((-1))) → (CalI wM d mX13_holds [.ref (0), .int (2), .int (v1), .int (0)] I5 J6 (fun x28 I26 J27 => (((¬ x28 = 0) → (CalI wM d mX13_marksOf [.ref (0), .int (v1)] I26 J27 (fun x32 I30 J31 => ((((I30 38 (3 : Int32).toNatClampNeg) ≤ x32) → (CalV wM d mX13_becomes [.ref (0), .int (v1), .int (1)] I30 J31 (fun I35 J36 => (CalV wM d mX13_isKept [.ref (0), .int (v1), .int (1)] (u2 I35 0 59 ((I35 0 59) + 1)) J36 (fun I38 J39 => (K I38 J39)))))) ∧ ((¬ (I30 38 (3 : Int32).toNatClampNeg) ≤ x32) → (vp_in ((1 + (5 * v1)) + 3) 132 ∧ (K (u2 I30 42 ((1 + (5 * v1)) + 3).toNatClampNeg ((I30 42 ((1 + (5 * v1)) + 3).toNatClampNeg) - 1)) J31))))))) ∧ ((x28 = 0) → (K I26 J27))))))))))))))) :
    GoV wM (d + 1) mX13_sitsFor 0 [(0, .ref (0)), (1, .int (v1))] [] I J K :=
  (g_aload_n dX13_sitsFor_0 0 0 rfl rfl (g_iload_n dX13_sitsFor_1 1 1 rfl rfl (g_callvI dX13_sitsFor_2 ml_X13_447 md_X13_hasPassed mv_X13_hasPassed obM_0 rfl rfl rfl (Nat.le_of_ble_eq_true rfl) (CalI.mono h (fun x3 I1 J2 h47 => (g_if_ne dX13_sitsFor_5 rfl (fun q4 => (g_return dX13_sitsFor_36 rfl ⟨rfl, (h47.1 q4)⟩)) (fun q4 => (g_aload_n dX13_sitsFor_8 0 0 rfl rfl (g_iload_n dX13_sitsFor_9 1 1 rfl rfl (g_callvI dX13_sitsFor_10 ml_X13_450 md_X13_leftOf mv_X13_leftOf obM_0 rfl rfl rfl (Nat.le_of_ble_eq_true rfl) (CalI.mono (h47.2 q4) (fun x7 I5 J6 h46 => (g_if_eq dX13_sitsFor_13 rfl (fun q8 => (g_return dX13_sitsFor_36 rfl ⟨rfl, (h46.1 q8)⟩)) (fun q8 => (g_aload_n dX13_sitsFor_16 0 0 rfl rfl (g_getP dX13_sitsFor_17 fl_X13_130 rfl obM_0 rfl (g_iconst dX13_sitsFor_20 kc_5 (g_iald dX13_sitsFor_21 arM_39 (by unfold vp_in; decide) (g_iconst dX13_sitsFor_22 kc_n1 (g_icmp_eq dX13_sitsFor_23 rfl (fun q10 => (g_aload_n dX13_sitsFor_37 0 0 rfl rfl (g_iload_n dX13_sitsFor_38 1 1 rfl rfl (g_callvI dX13_sitsFor_39 ml_X13_453 md_X13_marksOf mv_X13_marksOf obM_0 rfl rfl rfl (Nat.le_of_ble_eq_true rfl) (CalI.mono ((h46.2 q8).1 q10) (fun x13 I11 J12 h25 => (g_aload_n dX13_sitsFor_42 0 0 rfl rfl (g_getP dX13_sitsFor_43 fl_X13_127 rfl obM_0 rfl (g_iconst dX13_sitsFor_46 kc_3 (g_iald dX13_sitsFor_47 arM_38 (by unfold vp_in; decide) (g_icmp_ge dX13_sitsFor_48 rfl (fun q15 => (g_aload_n dX13_sitsFor_68 0 0 rfl rfl (g_iload_n dX13_sitsFor_69 1 1 rfl rfl (g_iconst dX13_sitsFor_70 kc_1 (g_callvV dX13_sitsFor_71 ml_X13_456 md_X13_becomes mv_X13_becomes obM_0 rfl rfl rfl (Nat.le_of_ble_eq_true rfl) (CalV.mono (h25.1 q15) (fun I16 J17 h22 => (g_aload_n dX13_sitsFor_74 0 0 rfl rfl (g_dup dX13_sitsFor_75 rfl (g_getI dX13_sitsFor_76 fl_X13_459 rfl obM_0 (g_iconst dX13_sitsFor_79 kc_1 (g_iadd dX13_sitsFor_80 (g_putI dX13_sitsFor_81 fl_X13_459 rfl rfl obM_0 (g_aload_n dX13_sitsFor_84 0 0 rfl rfl (g_iload_n dX13_sitsFor_85 1 1 rfl rfl (g_iconst dX13_sitsFor_86 kc_1 (g_callvV dX13_sitsFor_87 ml_X13_462 md_X13_isKept mv_X13_isKept obM_0 rfl rfl rfl (Nat.le_of_ble_eq_true rfl) (CalV.mono h22 (fun I19 J20 h21 => (g_return dX13_sitsFor_90 rfl ⟨rfl, h21⟩)))))))))))))))))))) (fun q15 => (g_aload_n dX13_sitsFor_51 0 0 rfl rfl (g_getP dX13_sitsFor_52 fl_X13_139 rfl obM_0 rfl (g_iconst dX13_sitsFor_55 kc_1 (g_iconst dX13_sitsFor_56 kc_5 (g_iload_n dX13_sitsFor_57 1 1 rfl rfl (g_imul dX13_sitsFor_58 (g_iadd dX13_sitsFor_59 (g_iconst dX13_sitsFor_60 kc_3 (g_iadd dX13_sitsFor_61 (g_dup2_11 dX13_sitsFor_62 rfl rfl (have b23 := (h25.2 q15).1; g_iald dX13_sitsFor_63 arM_42 b23 (g_iconst dX13_sitsFor_64 kc_1 (g_isub dX13_sitsFor_65 (g_iast dX13_sitsFor_66 arM_42 b23 (g_return dX13_sitsFor_67 rfl ⟨rfl, (h25.2 q15).2⟩))))))))))))))))))))))))))) (fun q10 => (g_aload_n dX13_sitsFor_26 0 0 rfl rfl (g_iconst dX13_sitsFor_27 kc_2 (g_iload_n dX13_sitsFor_28 1 1 rfl rfl (g_iconst dX13_sitsFor_29 kc_0 (g_callvI dX13_sitsFor_30 ml_X13_433 md_X13_holds mv_X13_holds obM_0 rfl rfl rfl (Nat.le_of_ble_eq_true rfl) (CalI.mono ((h46.2 q8).2 q10) (fun x28 I26 J27 h45 => (g_if_ne dX13_sitsFor_33 rfl (fun q29 => (g_aload_n dX13_sitsFor_37 0 0 rfl rfl (g_iload_n dX13_sitsFor_38 1 1 rfl rfl (g_callvI dX13_sitsFor_39 ml_X13_453 md_X13_marksOf mv_X13_marksOf obM_0 rfl rfl rfl (Nat.le_of_ble_eq_true rfl) (CalI.mono (h45.1 q29) (fun x32 I30 J31 h44 => (g_aload_n dX13_sitsFor_42 0 0 rfl rfl (g_getP dX13_sitsFor_43 fl_X13_127 rfl obM_0 rfl (g_iconst dX13_sitsFor_46 kc_3 (g_iald dX13_sitsFor_47 arM_38 (by unfold vp_in; decide) (g_icmp_ge dX13_sitsFor_48 rfl (fun q34 => (g_aload_n dX13_sitsFor_68 0 0 rfl rfl (g_iload_n dX13_sitsFor_69 1 1 rfl rfl (g_iconst dX13_sitsFor_70 kc_1 (g_callvV dX13_sitsFor_71 ml_X13_456 md_X13_becomes mv_X13_becomes obM_0 rfl rfl rfl (Nat.le_of_ble_eq_true rfl) (CalV.mono (h44.1 q34) (fun I35 J36 h41 => (g_aload_n dX13_sitsFor_74 0 0 rfl rfl (g_dup dX13_sitsFor_75 rfl (g_getI dX13_sitsFor_76 fl_X13_459 rfl obM_0 (g_iconst dX13_sitsFor_79 kc_1 (g_iadd dX13_sitsFor_80 (g_putI dX13_sitsFor_81 fl_X13_459 rfl rfl obM_0 (g_aload_n dX13_sitsFor_84 0 0 rfl rfl (g_iload_n dX13_sitsFor_85 1 1 rfl rfl (g_iconst dX13_sitsFor_86 kc_1 (g_callvV dX13_sitsFor_87 ml_X13_462 md_X13_isKept mv_X13_isKept obM_0 rfl rfl rfl (Nat.le_of_ble_eq_true rfl) (CalV.mono h41 (fun I38 J39 h40 => (g_return dX13_sitsFor_90 rfl ⟨rfl, h40⟩)))))))))))))))))))) (fun q34 => (g_aload_n dX13_sitsFor_51 0 0 rfl rfl (g_getP dX13_sitsFor_52 fl_X13_139 rfl obM_0 rfl (g_iconst dX13_sitsFor_55 kc_1 (g_iconst dX13_sitsFor_56 kc_5 (g_iload_n dX13_sitsFor_57 1 1 rfl rfl (g_imul dX13_sitsFor_58 (g_iadd dX13_sitsFor_59 (g_iconst dX13_sitsFor_60 kc_3 (g_iadd dX13_sitsFor_61 (g_dup2_11 dX13_sitsFor_62 rfl rfl (have b42 := (h44.2 q34).1; g_iald dX13_sitsFor_63 arM_42 b42 (g_iconst dX13_sitsFor_64 kc_1 (g_isub dX13_sitsFor_65 (g_iast dX13_sitsFor_66 arM_42 b42 (g_return dX13_sitsFor_67 rfl ⟨rfl, (h44.2 q34).2⟩))))))))))))))))))))))))))) (fun q29 => (g_return dX13_sitsFor_36 rfl ⟨rfl, (h45.2 q29)⟩)))))))))))))))))))))))))))))))
theorem dX13_becomes_0 : decode cX13_becomes 0 = .ok (.aload_n 0, 1) := by decide +kernel
theorem dX13_becomes_1 : decode cX13_becomes 1 = .ok (.getfield 139, 3) := by decide +kernel
theorem dX13_becomes_4 : decode cX13_becomes 4 = .ok (.iconst 1, 1) := by decide +kernel
theorem dX13_becomes_5 : decode cX13_becomes 5 = .ok (.iconst 5, 1) := by decide +kernel
theorem dX13_becomes_6 : decode cX13_becomes 6 = .ok (.iload_n 1, 1) := by decide +kernel
theorem dX13_becomes_7 : decode cX13_becomes 7 = .ok (.imul, 1) := by decide +kernel
theorem dX13_becomes_8 : decode cX13_becomes 8 = .ok (.iadd, 1) := by decide +kernel
theorem dX13_becomes_9 : decode cX13_becomes 9 = .ok (.iconst 4, 1) := by decide +kernel
theorem dX13_becomes_10 : decode cX13_becomes 10 = .ok (.iadd, 1) := by decide +kernel
theorem dX13_becomes_11 : decode cX13_becomes 11 = .ok (.dup2, 1) := by decide +kernel
theorem dX13_becomes_12 : decode cX13_becomes 12 = .ok (.iaload, 1) := by decide +kernel
theorem dX13_becomes_13 : decode cX13_becomes 13 = .ok (.iload_n 2, 1) := by decide +kernel
theorem dX13_becomes_14 : decode cX13_becomes 14 = .ok (.ior, 1) := by decide +kernel
theorem dX13_becomes_15 : decode cX13_becomes 15 = .ok (.iastore, 1) := by decide +kernel
theorem dX13_becomes_16 : decode cX13_becomes 16 = .ok (.return_, 1) := by decide +kernel
theorem bX13_becomes_0 {d : Nat}  {v1 : Int32} {v2 : Int32} {I : Ii} {J : Jj} {K : KV}
    (h : vp_in ((1 + (5 * v1)) + 4) 132 ∧ (K (u2 I 42 ((1 + (5 * v1)) + 4).toNatClampNeg ((I 42 ((1 + (5 * v1)) + 4).toNatClampNeg) ||| v2)) J)) :
    GoV wM d mX13_becomes 0 [(0, .ref (0)), (1, .int (v1)), (2, .int (v2))] [] I J K :=
  (g_aload_n dX13_becomes_0 0 0 rfl rfl (g_getP dX13_becomes_1 fl_X13_139 rfl obM_0 rfl (g_iconst dX13_becomes_4 kc_1 (g_iconst dX13_becomes_5 kc_5 (g_iload_n dX13_becomes_6 1 1 rfl rfl (g_imul dX13_becomes_7 (g_iadd dX13_becomes_8 (g_iconst dX13_becomes_9 kc_4 (g_iadd dX13_becomes_10 (g_dup2_11 dX13_becomes_11 rfl rfl (have b1 := h.1; g_iald dX13_becomes_12 arM_42 b1 (g_iload_n dX13_becomes_13 2 2 rfl rfl (g_ior dX13_becomes_14 (g_iast dX13_becomes_15 arM_42 b1 (g_return dX13_becomes_16 rfl ⟨rfl, h.2⟩)))))))))))))))
theorem dX13_isKept_0 : decode cX13_isKept 0 = .ok (.aload_n 0, 1) := by decide +kernel
theorem dX13_isKept_1 : decode cX13_isKept 1 = .ok (.getfield 443, 3) := by decide +kernel
theorem dX13_isKept_4 : decode cX13_isKept 4 = .ok (.ifCond .eq 4, 3) := by decide +kernel
theorem dX13_isKept_7 : decode cX13_isKept 7 = .ok (.return_, 1) := by decide +kernel
theorem dX13_isKept_8 : decode cX13_isKept 8 = .ok (.aload_n 0, 1) := by decide +kernel
theorem dX13_isKept_9 : decode cX13_isKept 9 = .ok (.getfield 139, 3) := by decide +kernel
theorem dX13_isKept_12 : decode cX13_isKept 12 = .ok (.bipush 41, 2) := by decide +kernel
theorem dX13_isKept_14 : decode cX13_isKept 14 = .ok (.iaload, 1) := by decide +kernel
theorem dX13_isKept_15 : decode cX13_isKept 15 = .ok (.bipush 30, 2) := by decide +kernel
theorem dX13_isKept_17 : decode cX13_isKept 17 = .ok (.if_icmp .ne 36, 3) := by decide +kernel
theorem dX13_isKept_20 : decode cX13_isKept 20 = .ok (.bipush 42, 2) := by decide +kernel
theorem dX13_isKept_22 : decode cX13_isKept 22 = .ok (.istore_n 3, 1) := by decide +kernel
theorem dX13_isKept_23 : decode cX13_isKept 23 = .ok (.iload_n 3, 1) := by decide +kernel
theorem dX13_isKept_24 : decode cX13_isKept 24 = .ok (.sipush 129, 3) := by decide +kernel
theorem dX13_isKept_27 : decode cX13_isKept 27 = .ok (.if_icmp .ge 23, 3) := by decide +kernel
theorem dX13_isKept_30 : decode cX13_isKept 30 = .ok (.aload_n 0, 1) := by decide +kernel
theorem dX13_isKept_31 : decode cX13_isKept 31 = .ok (.getfield 139, 3) := by decide +kernel
theorem dX13_isKept_34 : decode cX13_isKept 34 = .ok (.iload_n 3, 1) := by decide +kernel
theorem dX13_isKept_35 : decode cX13_isKept 35 = .ok (.aload_n 0, 1) := by decide +kernel
theorem dX13_isKept_36 : decode cX13_isKept 36 = .ok (.getfield 139, 3) := by decide +kernel
theorem dX13_isKept_39 : decode cX13_isKept 39 = .ok (.iload_n 3, 1) := by decide +kernel
theorem dX13_isKept_40 : decode cX13_isKept 40 = .ok (.iconst 3, 1) := by decide +kernel
theorem dX13_isKept_41 : decode cX13_isKept 41 = .ok (.iadd, 1) := by decide +kernel
theorem dX13_isKept_42 : decode cX13_isKept 42 = .ok (.iaload, 1) := by decide +kernel
theorem dX13_isKept_43 : decode cX13_isKept 43 = .ok (.iastore, 1) := by decide +kernel
theorem dX13_isKept_44 : decode cX13_isKept 44 = .ok (.iinc 3 1, 3) := by decide +kernel
theorem dX13_isKept_47 : decode cX13_isKept 47 = .ok (.goto (-24), 3) := by decide +kernel
theorem dX13_isKept_50 : decode cX13_isKept 50 = .ok (.goto 14, 3) := by decide +kernel
theorem dX13_isKept_53 : decode cX13_isKept 53 = .ok (.aload_n 0, 1) := by decide +kernel
theorem dX13_isKept_54 : decode cX13_isKept 54 = .ok (.getfield 139, 3) := by decide +kernel
theorem dX13_isKept_57 : decode cX13_isKept 57 = .ok (.bipush 41, 2) := by decide +kernel
theorem dX13_isKept_59 : decode cX13_isKept 59 = .ok (.dup2, 1) := by decide +kernel
theorem dX13_isKept_60 : decode cX13_isKept 60 = .ok (.iaload, 1) := by decide +kernel
theorem dX13_isKept_61 : decode cX13_isKept 61 = .ok (.iconst 1, 1) := by decide +kernel
theorem dX13_isKept_62 : decode cX13_isKept 62 = .ok (.iadd, 1) := by decide +kernel
theorem dX13_isKept_63 : decode cX13_isKept 63 = .ok (.iastore, 1) := by decide +kernel
theorem dX13_isKept_64 : decode cX13_isKept 64 = .ok (.bipush 42, 2) := by decide +kernel
theorem dX13_isKept_66 : decode cX13_isKept 66 = .ok (.iconst 3, 1) := by decide +kernel
theorem dX13_isKept_67 : decode cX13_isKept 67 = .ok (.aload_n 0, 1) := by decide +kernel
theorem dX13_isKept_68 : decode cX13_isKept 68 = .ok (.getfield 139, 3) := by decide +kernel
theorem dX13_isKept_71 : decode cX13_isKept 71 = .ok (.bipush 41, 2) := by decide +kernel
theorem dX13_isKept_73 : decode cX13_isKept 73 = .ok (.iaload, 1) := by decide +kernel
theorem dX13_isKept_74 : decode cX13_isKept 74 = .ok (.imul, 1) := by decide +kernel
theorem dX13_isKept_75 : decode cX13_isKept 75 = .ok (.iadd, 1) := by decide +kernel
theorem dX13_isKept_76 : decode cX13_isKept 76 = .ok (.iconst 3, 1) := by decide +kernel
theorem dX13_isKept_77 : decode cX13_isKept 77 = .ok (.isub, 1) := by decide +kernel
theorem dX13_isKept_78 : decode cX13_isKept 78 = .ok (.istore_n 3, 1) := by decide +kernel
theorem dX13_isKept_79 : decode cX13_isKept 79 = .ok (.aload_n 0, 1) := by decide +kernel
theorem dX13_isKept_80 : decode cX13_isKept 80 = .ok (.getfield 139, 3) := by decide +kernel
theorem dX13_isKept_83 : decode cX13_isKept 83 = .ok (.iload_n 3, 1) := by decide +kernel
theorem dX13_isKept_84 : decode cX13_isKept 84 = .ok (.aload_n 0, 1) := by decide +kernel
theorem dX13_isKept_85 : decode cX13_isKept 85 = .ok (.getfield 139, 3) := by decide +kernel
theorem dX13_isKept_88 : decode cX13_isKept 88 = .ok (.iconst 0, 1) := by decide +kernel
theorem dX13_isKept_89 : decode cX13_isKept 89 = .ok (.iaload, 1) := by decide +kernel
theorem dX13_isKept_90 : decode cX13_isKept 90 = .ok (.iastore, 1) := by decide +kernel
theorem dX13_isKept_91 : decode cX13_isKept 91 = .ok (.aload_n 0, 1) := by decide +kernel
theorem dX13_isKept_92 : decode cX13_isKept 92 = .ok (.getfield 139, 3) := by decide +kernel
theorem dX13_isKept_95 : decode cX13_isKept 95 = .ok (.iload_n 3, 1) := by decide +kernel
theorem dX13_isKept_96 : decode cX13_isKept 96 = .ok (.iconst 1, 1) := by decide +kernel
theorem dX13_isKept_97 : decode cX13_isKept 97 = .ok (.iadd, 1) := by decide +kernel
theorem dX13_isKept_98 : decode cX13_isKept 98 = .ok (.iload_n 1, 1) := by decide +kernel
theorem dX13_isKept_99 : decode cX13_isKept 99 = .ok (.iastore, 1) := by decide +kernel
theorem dX13_isKept_100 : decode cX13_isKept 100 = .ok (.aload_n 0, 1) := by decide +kernel
theorem dX13_isKept_101 : decode cX13_isKept 101 = .ok (.getfield 139, 3) := by decide +kernel
theorem dX13_isKept_104 : decode cX13_isKept 104 = .ok (.iload_n 3, 1) := by decide +kernel
theorem dX13_isKept_105 : decode cX13_isKept 105 = .ok (.iconst 2, 1) := by decide +kernel
theorem dX13_isKept_106 : decode cX13_isKept 106 = .ok (.iadd, 1) := by decide +kernel
theorem dX13_isKept_107 : decode cX13_isKept 107 = .ok (.iload_n 2, 1) := by decide +kernel
theorem dX13_isKept_108 : decode cX13_isKept 108 = .ok (.iastore, 1) := by decide +kernel
theorem dX13_isKept_109 : decode cX13_isKept 109 = .ok (.return_, 1) := by decide +kernel
theorem bX13_isKept_0 {d : Nat}  {v1 : Int32} {v2 : Int32} {I : Ii} {J : Jj} {K : KV}
    (h : (((I 0 58) = 0) → (((¬ (I 42 (41 : Int32).toNatClampNeg) = 30) → (∀ I4 : Ii, I4 = u2 I 42 (41 : Int32).toNatClampNeg ((I 42 (41 : Int32).toNatClampNeg) + 1) → (∀ y5 : Int32, y5 = (42 + (3 * (I4 42 (41 : Int32).toNatClampNeg))) - 3 → (vp_in (y5) 132 ∧ (vp_in (y5 + 1) 132 ∧ (vp_in (y5 + 2) 132 ∧ (K (u2 (u2 (u2 I4 42 y5.toNatClampNeg (I4 42 (0 : Int32).toNatClampNeg)) 42 (y5 + 1).toNatClampNeg v1) 42 (y5 + 2).toNatClampNeg v2) J))))))) ∧ (((I 42 (41 : Int32).toNatClampNeg) = 30) → (GoV wM d mX13_isKept 23 [(0, .ref (0)), (1, .int (v1)), (2, .int (v2)), (3, .int (42))] [] I J K)))) ∧ ((¬ (I 0 58) = 0) → (K I J))) :
    GoV wM d mX13_isKept 0 [(0, .ref (0)), (1, .int (v1)), (2, .int (v2))] [] I J K :=
  (g_aload_n dX13_isKept_0 0 0 rfl rfl (g_getI dX13_isKept_1 fl_X13_443 rfl obM_0 (g_if_eq dX13_isKept_4 rfl (fun q1 => (g_aload_n dX13_isKept_8 0 0 rfl rfl (g_getP dX13_isKept_9 fl_X13_139 rfl obM_0 rfl (g_bipush dX13_isKept_12 kb_41 (g_iald dX13_isKept_14 arM_42 (by unfold vp_in; decide) (g_bipush dX13_isKept_15 kb_30 (g_icmp_ne dX13_isKept_17 rfl (fun q3 => (g_aload_n dX13_isKept_53 0 0 rfl rfl (g_getP dX13_isKept_54 fl_X13_139 rfl obM_0 rfl (g_bipush dX13_isKept_57 kb_41 (g_dup2_11 dX13_isKept_59 rfl rfl (g_iald dX13_isKept_60 arM_42 (by unfold vp_in; decide) (g_iconst dX13_isKept_61 kc_1 (g_iadd dX13_isKept_62 (g_iast dX13_isKept_63 arM_42 (by unfold vp_in; decide) (g_bipush dX13_isKept_64 kb_42 (g_iconst dX13_isKept_66 kc_3 (g_aload_n dX13_isKept_67 0 0 rfl rfl (g_getP dX13_isKept_68 fl_X13_139 rfl obM_0 rfl (g_bipush dX13_isKept_71 kb_41 (g_iald dX13_isKept_73 arM_42 (by unfold vp_in; decide) (g_imul dX13_isKept_74 (g_iadd dX13_isKept_75 (g_iconst dX13_isKept_76 kc_3 (g_isub dX13_isKept_77 (g_istore_n dX13_isKept_78 rfl (by decide) rfl (g_aload_n dX13_isKept_79 1 0 rfl rfl (g_getP dX13_isKept_80 fl_X13_139 rfl obM_0 rfl (g_iload_n dX13_isKept_83 0 3 rfl rfl (g_aload_n dX13_isKept_84 1 0 rfl rfl (g_getP dX13_isKept_85 fl_X13_139 rfl obM_0 rfl (g_iconst dX13_isKept_88 kc_0 (g_iald dX13_isKept_89 arM_42 (by unfold vp_in; decide) (have b7 := ((((h.1 q1).1 q3) _ rfl) _ rfl).1; g_iast dX13_isKept_90 arM_42 b7 (g_aload_n dX13_isKept_91 1 0 rfl rfl (g_getP dX13_isKept_92 fl_X13_139 rfl obM_0 rfl (g_iload_n dX13_isKept_95 0 3 rfl rfl (g_iconst dX13_isKept_96 kc_1 (g_iadd dX13_isKept_97 (g_iload_n dX13_isKept_98 2 1 rfl rfl (have b9 := ((((h.1 q1).1 q3) _ rfl) _ rfl).2.1; g_iast dX13_isKept_99 arM_42 b9 (g_aload_n dX13_isKept_100 1 0 rfl rfl (g_getP dX13_isKept_101 fl_X13_139 rfl obM_0 rfl (g_iload_n dX13_isKept_104 0 3 rfl rfl (g_iconst dX13_isKept_105 kc_2 (g_iadd dX13_isKept_106 (g_iload_n dX13_isKept_107 3 2 rfl rfl (have b11 := ((((h.1 q1).1 q3) _ rfl) _ rfl).2.2.1; g_iast dX13_isKept_108 arM_42 b11 (g_return dX13_isKept_109 rfl ⟨rfl, ((((h.1 q1).1 q3) _ rfl) _ rfl).2.2.2⟩))))))))))))))))))))))))))))))))))))))))))) (fun q3 => (g_bipush dX13_isKept_20 kb_42 (g_istore_n dX13_isKept_22 rfl (by decide) rfl (g_sub [1, 2, 3, 0] rfl ((h.1 q1).2 q3)))))))))))) (fun q1 => (g_return dX13_isKept_7 rfl ⟨rfl, (h.2 q1)⟩)))))
theorem bX13_isKept_23 {d : Nat}  {v1 : Int32} {v2 : Int32} {v3 : Int32} {I : Ii} {J : Jj} {K : KV}
    (h : ((129 ≤ v3) → (∀ y3 : Int32, y3 = (42 + (3 * (I 42 (41 : Int32).toNatClampNeg))) - 3 → (vp_in (y3) 132 ∧ (vp_in (y3 + 1) 132 ∧ (vp_in (y3 + 2) 132 ∧ (K (u2 (u2 (u2 I 42 y3.toNatClampNeg (I 42 (0 : Int32).toNatClampNeg)) 42 (y3 + 1).toNatClampNeg v1) 42 (y3 + 2).toNatClampNeg v2) J)))))) ∧ ((¬ 129 ≤ v3) → (vp_in (v3 + 3) 132 ∧ (vp_in (v3) 132 ∧ (GoV wM d mX13_isKept 23 [(0, .ref (0)), (1, .int (v1)), (2, .int (v2)), (3, .int (v3 + 1))] [] (u2 I 42 v3.toNatClampNeg (I 42 (v3 + 3).toNatClampNeg)) J K))))) :
    GoV wM d mX13_isKept 23 [(0, .ref (0)), (1, .int (v1)), (2, .int (v2)), (3, .int (v3))] [] I J K :=
  (g_iload_n dX13_isKept_23 3 3 rfl rfl (g_sipush dX13_isKept_24 ks_129 (g_icmp_ge dX13_isKept_27 rfl (fun q1 => (g_goto dX13_isKept_50 rfl (g_bipush dX13_isKept_64 kb_42 (g_iconst dX13_isKept_66 kc_3 (g_aload_n dX13_isKept_67 0 0 rfl rfl (g_getP dX13_isKept_68 fl_X13_139 rfl obM_0 rfl (g_bipush dX13_isKept_71 kb_41 (g_iald dX13_isKept_73 arM_42 (by unfold vp_in; decide) (g_imul dX13_isKept_74 (g_iadd dX13_isKept_75 (g_iconst dX13_isKept_76 kc_3 (g_isub dX13_isKept_77 (g_istore_n dX13_isKept_78 rfl (by decide) rfl (g_aload_n dX13_isKept_79 1 0 rfl rfl (g_getP dX13_isKept_80 fl_X13_139 rfl obM_0 rfl (g_iload_n dX13_isKept_83 0 3 rfl rfl (g_aload_n dX13_isKept_84 1 0 rfl rfl (g_getP dX13_isKept_85 fl_X13_139 rfl obM_0 rfl (g_iconst dX13_isKept_88 kc_0 (g_iald dX13_isKept_89 arM_42 (by unfold vp_in; decide) (have b5 := ((h.1 q1) _ rfl).1; g_iast dX13_isKept_90 arM_42 b5 (g_aload_n dX13_isKept_91 1 0 rfl rfl (g_getP dX13_isKept_92 fl_X13_139 rfl obM_0 rfl (g_iload_n dX13_isKept_95 0 3 rfl rfl (g_iconst dX13_isKept_96 kc_1 (g_iadd dX13_isKept_97 (g_iload_n dX13_isKept_98 2 1 rfl rfl (have b7 := ((h.1 q1) _ rfl).2.1; g_iast dX13_isKept_99 arM_42 b7 (g_aload_n dX13_isKept_100 1 0 rfl rfl (g_getP dX13_isKept_101 fl_X13_139 rfl obM_0 rfl (g_iload_n dX13_isKept_104 0 3 rfl rfl (g_iconst dX13_isKept_105 kc_2 (g_iadd dX13_isKept_106 (g_iload_n dX13_isKept_107 3 2 rfl rfl (have b9 := ((h.1 q1) _ rfl).2.2.1; g_iast dX13_isKept_108 arM_42 b9 (g_return dX13_isKept_109 rfl ⟨rfl, ((h.1 q1) _ rfl).2.2.2⟩)))))))))))))))))))))))))))))))))))) (fun q1 => (g_aload_n dX13_isKept_30 0 0 rfl rfl (g_getP dX13_isKept_31 fl_X13_139 rfl obM_0 rfl (g_iload_n dX13_isKept_34 3 3 rfl rfl (g_aload_n dX13_isKept_35 0 0 rfl rfl (g_getP dX13_isKept_36 fl_X13_139 rfl obM_0 rfl (g_iload_n dX13_isKept_39 3 3 rfl rfl (g_iconst dX13_isKept_40 kc_3 (g_iadd dX13_isKept_41 (have b11 := (h.2 q1).1; g_iald dX13_isKept_42 arM_42 b11 (have b12 := (h.2 q1).2.1; g_iast dX13_isKept_43 arM_42 b12 (g_iinc dX13_isKept_44 3 rfl rfl (by decide) rfl (g_goto dX13_isKept_47 rfl (g_sub [1, 2, 3, 0] rfl (h.2 q1).2.2)))))))))))))))))
theorem dX13_isMastersMaster_0 : decode cX13_isMastersMaster 0 = .ok (.iconst 0, 1) := by decide +kernel
theorem dX13_isMastersMaster_1 : decode cX13_isMastersMaster 1 = .ok (.istore_n 2, 1) := by decide +kernel
theorem dX13_isMastersMaster_2 : decode cX13_isMastersMaster 2 = .ok (.iload_n 2, 1) := by decide +kernel
theorem dX13_isMastersMaster_3 : decode cX13_isMastersMaster 3 = .ok (.aload_n 0, 1) := by decide +kernel
theorem dX13_isMastersMaster_4 : decode cX13_isMastersMaster 4 = .ok (.invokevirtual 401, 3) := by decide +kernel
theorem dX13_isMastersMaster_7 : decode cX13_isMastersMaster 7 = .ok (.if_icmp .ge 41, 3) := by decide +kernel
theorem dX13_isMastersMaster_10 : decode cX13_isMastersMaster 10 = .ok (.aload_n 0, 1) := by decide +kernel
theorem dX13_isMastersMaster_11 : decode cX13_isMastersMaster 11 = .ok (.iload_n 2, 1) := by decide +kernel
theorem dX13_isMastersMaster_12 : decode cX13_isMastersMaster 12 = .ok (.invokevirtual 447, 3) := by decide +kernel
theorem dX13_isMastersMaster_15 : decode cX13_isMastersMaster 15 = .ok (.ifCond .eq 27, 3) := by decide +kernel
theorem dX13_isMastersMaster_18 : decode cX13_isMastersMaster 18 = .ok (.aload_n 0, 1) := by decide +kernel
theorem dX13_isMastersMaster_19 : decode cX13_isMastersMaster 19 = .ok (.iload_n 2, 1) := by decide +kernel
theorem dX13_isMastersMaster_20 : decode cX13_isMastersMaster 20 = .ok (.invokevirtual 410, 3) := by decide +kernel
theorem dX13_isMastersMaster_23 : decode cX13_isMastersMaster 23 = .ok (.iconst (-1), 1) := by decide +kernel
theorem dX13_isMastersMaster_24 : decode cX13_isMastersMaster 24 = .ok (.if_icmp .eq 18, 3) := by decide +kernel
theorem dX13_isMastersMaster_27 : decode cX13_isMastersMaster 27 = .ok (.aload_n 0, 1) := by decide +kernel
theorem dX13_isMastersMaster_28 : decode cX13_isMastersMaster 28 = .ok (.aload_n 0, 1) := by decide +kernel
theorem dX13_isMastersMaster_29 : decode cX13_isMastersMaster 29 = .ok (.iload_n 2, 1) := by decide +kernel
theorem dX13_isMastersMaster_30 : decode cX13_isMastersMaster 30 = .ok (.invokevirtual 410, 3) := by decide +kernel
theorem dX13_isMastersMaster_33 : decode cX13_isMastersMaster 33 = .ok (.invokevirtual 410, 3) := by decide +kernel
theorem dX13_isMastersMaster_36 : decode cX13_isMastersMaster 36 = .ok (.iload_n 1, 1) := by decide +kernel
theorem dX13_isMastersMaster_37 : decode cX13_isMastersMaster 37 = .ok (.if_icmp .ne 5, 3) := by decide +kernel
theorem dX13_isMastersMaster_40 : decode cX13_isMastersMaster 40 = .ok (.iconst 1, 1) := by decide +kernel
theorem dX13_isMastersMaster_41 : decode cX13_isMastersMaster 41 = .ok (.ireturn, 1) := by decide +kernel
theorem dX13_isMastersMaster_42 : decode cX13_isMastersMaster 42 = .ok (.iinc 2 1, 3) := by decide +kernel
theorem dX13_isMastersMaster_45 : decode cX13_isMastersMaster 45 = .ok (.goto (-43), 3) := by decide +kernel
theorem dX13_isMastersMaster_48 : decode cX13_isMastersMaster 48 = .ok (.iconst 0, 1) := by decide +kernel
theorem dX13_isMastersMaster_49 : decode cX13_isMastersMaster 49 = .ok (.ireturn, 1) := by decide +kernel
theorem bX13_isMastersMaster_0 {d : Nat}  {v1 : Int32} {I : Ii} {J : Jj} {K : KI}
    (h : GoI wM (d + 1) mX13_isMastersMaster 2 [(0, .ref (0)), (1, .int (v1)), (2, .int (0))] [] I J K) :
    GoI wM (d + 1) mX13_isMastersMaster 0 [(0, .ref (0)), (1, .int (v1))] [] I J K :=
  (g_iconst dX13_isMastersMaster_0 kc_0 (g_istore_n dX13_isMastersMaster_1 rfl (by decide) rfl (g_sub [1, 2, 0] rfl h)))
theorem bX13_isMastersMaster_2 {d : Nat}  {v1 : Int32} {v2 : Int32} {I : Ii} {J : Jj} {K : KI}
    (h : CalI wM d mX13_personMany [.ref (0)] I J (fun x3 I1 J2 => (((x3 ≤ v2) → (K (0) I1 J2)) ∧ ((¬ x3 ≤ v2) → (CalI wM d mX13_hasPassed [.ref (0), .int (v2)] I1 J2 (fun x7 I5 J6 => (((x7 = 0) → (GoI wM (d + 1) mX13_isMastersMaster 2 [(0, .ref (0)), (1, .int (v1)), (2, .int (v2 + 1))] [] I5 J6 K)) ∧ ((¬ x7 = 0) → (CalI wM d mX13_masterOf [.ref (0), .int (v2)] I5 J6 (fun x11 I9 J10 => (((x11 = ((-1))) → (GoI wM (d + 1) mX13_isMastersMaster 2 [(0, .ref (0)), (1, .int (v1)), (2, .int (v2 + 1))] [] I9 J10 K)) ∧ ((¬ x11 = ((-1))) → (CalI wM d mX13_masterOf [.ref (0), .int (v2)] I9 J10 (fun x15 I13 J14 => (CalI wM d mX13_masterOf [.ref (0), .int (x15)] I13 J14 (fun x18 I16 J17 => (((¬ x18 = v1) → (GoI wM (d + 1) mX13_isMastersMaster 2 [(0, .ref (0)), (1, .int (v1)), (2, .int (v2 + 1))] [] I16 J17 K)) ∧ ((x18 = v1) → (K (1) I16 J17))))))))))))))))))) :
    GoI wM (d + 1) mX13_isMastersMaster 2 [(0, .ref (0)), (1, .int (v1)), (2, .int (v2))] [] I J K :=
  (g_iload_n dX13_isMastersMaster_2 2 2 rfl rfl (g_aload_n dX13_isMastersMaster_3 0 0 rfl rfl (g_callvI dX13_isMastersMaster_4 ml_X13_401 md_X13_personMany mv_X13_personMany obM_0 rfl rfl rfl (Nat.le_of_ble_eq_true rfl) (CalI.mono h (fun x3 I1 J2 h24 => (g_icmp_ge dX13_isMastersMaster_7 rfl (fun q4 => (g_iconst dX13_isMastersMaster_48 kc_0 (g_zreturn dX13_isMastersMaster_49 rfl (narZ (by decide)) ⟨_, rfl, (h24.1 q4)⟩))) (fun q4 => (g_aload_n dX13_isMastersMaster_10 0 0 rfl rfl (g_iload_n dX13_isMastersMaster_11 2 2 rfl rfl (g_callvI dX13_isMastersMaster_12 ml_X13_447 md_X13_hasPassed mv_X13_hasPassed obM_0 rfl rfl rfl (Nat.le_of_ble_eq_true rfl) (CalI.mono (h24.2 q4) (fun x7 I5 J6 h23 => (g_if_eq dX13_isMastersMaster_15 rfl (fun q8 => (g_iinc dX13_isMastersMaster_42 2 rfl rfl (by decide) rfl (g_goto dX13_isMastersMaster_45 rfl (g_sub [1, 2, 0] rfl (h23.1 q8))))) (fun q8 => (g_aload_n dX13_isMastersMaster_18 0 0 rfl rfl (g_iload_n dX13_isMastersMaster_19 2 2 rfl rfl (g_callvI dX13_isMastersMaster_20 ml_X13_410 md_X13_masterOf mv_X13_masterOf obM_0 rfl rfl rfl (Nat.le_of_ble_eq_true rfl) (CalI.mono (h23.2 q8) (fun x11 I9 J10 h22 => (g_iconst dX13_isMastersMaster_23 kc_n1 (g_icmp_eq dX13_isMastersMaster_24 rfl (fun q12 => (g_iinc dX13_isMastersMaster_42 2 rfl rfl (by decide) rfl (g_goto dX13_isMastersMaster_45 rfl (g_sub [1, 2, 0] rfl (h22.1 q12))))) (fun q12 => (g_aload_n dX13_isMastersMaster_27 0 0 rfl rfl (g_aload_n dX13_isMastersMaster_28 0 0 rfl rfl (g_iload_n dX13_isMastersMaster_29 2 2 rfl rfl (g_callvI dX13_isMastersMaster_30 ml_X13_410 md_X13_masterOf mv_X13_masterOf obM_0 rfl rfl rfl (Nat.le_of_ble_eq_true rfl) (CalI.mono (h22.2 q12) (fun x15 I13 J14 h21 => (g_callvI dX13_isMastersMaster_33 ml_X13_410 md_X13_masterOf mv_X13_masterOf obM_0 rfl rfl rfl (Nat.le_of_ble_eq_true rfl) (CalI.mono h21 (fun x18 I16 J17 h20 => (g_iload_n dX13_isMastersMaster_36 1 1 rfl rfl (g_icmp_ne dX13_isMastersMaster_37 rfl (fun q19 => (g_iinc dX13_isMastersMaster_42 2 rfl rfl (by decide) rfl (g_goto dX13_isMastersMaster_45 rfl (g_sub [1, 2, 0] rfl (h20.1 q19))))) (fun q19 => (g_iconst dX13_isMastersMaster_40 kc_1 (g_zreturn dX13_isMastersMaster_41 rfl (narZ (by decide)) ⟨_, rfl, (h20.2 q19)⟩))))))))))))))))))))))))))))))))))))
theorem dX13_takesBack_0 : decode cX13_takesBack 0 = .ok (.aload_n 0, 1) := by decide +kernel
theorem dX13_takesBack_1 : decode cX13_takesBack 1 = .ok (.invokevirtual 480, 3) := by decide +kernel
theorem dX13_takesBack_4 : decode cX13_takesBack 4 = .ok (.aload_n 0, 1) := by decide +kernel
theorem dX13_takesBack_5 : decode cX13_takesBack 5 = .ok (.iconst 0, 1) := by decide +kernel
theorem dX13_takesBack_6 : decode cX13_takesBack 6 = .ok (.putfield 443, 3) := by decide +kernel
theorem dX13_takesBack_9 : decode cX13_takesBack 9 = .ok (.return_, 1) := by decide +kernel
theorem bX13_takesBack_0 {d : Nat}   {I : Ii} {J : Jj} {K : KV}
    (h : CalV wM d mX13_triesAnew [.ref (0)] I J (fun I1 J2 => (K (u2 I1 0 58 0) J2))) :
    GoV wM (d + 1) mX13_takesBack 0 [(0, .ref (0))] [] I J K :=
  (g_aload_n dX13_takesBack_0 0 0 rfl rfl (g_callvV dX13_takesBack_1 ml_X13_480 md_X13_triesAnew mv_X13_triesAnew obM_0 rfl rfl rfl (Nat.le_of_ble_eq_true rfl) (CalV.mono h (fun I1 J2 h4 => (g_aload_n dX13_takesBack_4 0 0 rfl rfl (g_iconst dX13_takesBack_5 kc_0 (g_putZ dX13_takesBack_6 fl_X13_443 rfl rfl (by decide) obM_0 (g_return dX13_takesBack_9 rfl ⟨rfl, h4⟩))))))))
theorem dX13_triesAnew_0 : decode cX13_triesAnew 0 = .ok (.iconst 0, 1) := by decide +kernel
theorem dX13_triesAnew_1 : decode cX13_triesAnew 1 = .ok (.istore_n 1, 1) := by decide +kernel
theorem dX13_triesAnew_2 : decode cX13_triesAnew 2 = .ok (.iload_n 1, 1) := by decide +kernel
theorem dX13_triesAnew_3 : decode cX13_triesAnew 3 = .ok (.bipush 41, 2) := by decide +kernel
theorem dX13_triesAnew_5 : decode cX13_triesAnew 5 = .ok (.if_icmp .ge 21, 3) := by decide +kernel
theorem dX13_triesAnew_8 : decode cX13_triesAnew 8 = .ok (.aload_n 0, 1) := by decide +kernel
theorem dX13_triesAnew_9 : decode cX13_triesAnew 9 = .ok (.getfield 139, 3) := by decide +kernel
theorem dX13_triesAnew_12 : decode cX13_triesAnew 12 = .ok (.iload_n 1, 1) := by decide +kernel
theorem dX13_triesAnew_13 : decode cX13_triesAnew 13 = .ok (.aload_n 0, 1) := by decide +kernel
theorem dX13_triesAnew_14 : decode cX13_triesAnew 14 = .ok (.getfield 142, 3) := by decide +kernel
theorem dX13_triesAnew_17 : decode cX13_triesAnew 17 = .ok (.iload_n 1, 1) := by decide +kernel
theorem dX13_triesAnew_18 : decode cX13_triesAnew 18 = .ok (.iaload, 1) := by decide +kernel
theorem dX13_triesAnew_19 : decode cX13_triesAnew 19 = .ok (.iastore, 1) := by decide +kernel
theorem dX13_triesAnew_20 : decode cX13_triesAnew 20 = .ok (.iinc 1 1, 3) := by decide +kernel
theorem dX13_triesAnew_23 : decode cX13_triesAnew 23 = .ok (.goto (-21), 3) := by decide +kernel
theorem dX13_triesAnew_26 : decode cX13_triesAnew 26 = .ok (.return_, 1) := by decide +kernel
theorem bX13_triesAnew_0 {d : Nat}   {I : Ii} {J : Jj} {K : KV}
    (h : GoV wM d mX13_triesAnew 2 [(0, .ref (0)), (1, .int (0))] [] I J K) :
    GoV wM d mX13_triesAnew 0 [(0, .ref (0))] [] I J K :=
  (g_iconst dX13_triesAnew_0 kc_0 (g_istore_n dX13_triesAnew_1 rfl (by decide) rfl (g_sub [1, 0] rfl h)))
theorem bX13_triesAnew_2 {d : Nat}  {v1 : Int32} {I : Ii} {J : Jj} {K : KV}
    (h : ((41 ≤ v1) → (K I J)) ∧ ((¬ 41 ≤ v1) → (vp_in (v1) 41 ∧ (vp_in (v1) 132 ∧ (GoV wM d mX13_triesAnew 2 [(0, .ref (0)), (1, .int (v1 + 1))] [] (u2 I 42 v1.toNatClampNeg (I 43 v1.toNatClampNeg)) J K))))) :
    GoV wM d mX13_triesAnew 2 [(0, .ref (0)), (1, .int (v1))] [] I J K :=
  (g_iload_n dX13_triesAnew_2 1 1 rfl rfl (g_bipush dX13_triesAnew_3 kb_41 (g_icmp_ge dX13_triesAnew_5 rfl (fun q1 => (g_return dX13_triesAnew_26 rfl ⟨rfl, (h.1 q1)⟩)) (fun q1 => (g_aload_n dX13_triesAnew_8 0 0 rfl rfl (g_getP dX13_triesAnew_9 fl_X13_139 rfl obM_0 rfl (g_iload_n dX13_triesAnew_12 1 1 rfl rfl (g_aload_n dX13_triesAnew_13 0 0 rfl rfl (g_getP dX13_triesAnew_14 fl_X13_142 rfl obM_0 rfl (g_iload_n dX13_triesAnew_17 1 1 rfl rfl (have b2 := (h.2 q1).1; g_iald dX13_triesAnew_18 arM_43 b2 (have b3 := (h.2 q1).2.1; g_iast dX13_triesAnew_19 arM_42 b3 (g_iinc dX13_triesAnew_20 1 rfl rfl (by decide) rfl (g_goto dX13_triesAnew_23 rfl (g_sub [1, 0] rfl (h.2 q1).2.2)))))))))))))))
theorem dX13_doctor_0 : decode cX13_doctor 0 = .ok (.aload_n 0, 1) := by decide +kernel
theorem dX13_doctor_1 : decode cX13_doctor 1 = .ok (.iload_n 1, 1) := by decide +kernel
theorem dX13_doctor_2 : decode cX13_doctor 2 = .ok (.invokevirtual 504, 3) := by decide +kernel
theorem dX13_doctor_5 : decode cX13_doctor 5 = .ok (.ifCond .ne 5, 3) := by decide +kernel
theorem dX13_doctor_8 : decode cX13_doctor 8 = .ok (.iconst (-1), 1) := by decide +kernel
theorem dX13_doctor_9 : decode cX13_doctor 9 = .ok (.ireturn, 1) := by decide +kernel
theorem dX13_doctor_10 : decode cX13_doctor 10 = .ok (.aload_n 0, 1) := by decide +kernel
theorem dX13_doctor_11 : decode cX13_doctor 11 = .ok (.invokevirtual 519, 3) := by decide +kernel
theorem dX13_doctor_14 : decode cX13_doctor 14 = .ok (.iconst 0, 1) := by decide +kernel
theorem dX13_doctor_15 : decode cX13_doctor 15 = .ok (.istore_n 2, 1) := by decide +kernel
theorem dX13_doctor_16 : decode cX13_doctor 16 = .ok (.aload_n 0, 1) := by decide +kernel
theorem dX13_doctor_17 : decode cX13_doctor 17 = .ok (.iload_n 1, 1) := by decide +kernel
theorem dX13_doctor_18 : decode cX13_doctor 18 = .ok (.invokevirtual 471, 3) := by decide +kernel
theorem dX13_doctor_21 : decode cX13_doctor 21 = .ok (.ifCond .ne 32, 3) := by decide +kernel
theorem dX13_doctor_24 : decode cX13_doctor 24 = .ok (.iload_n 2, 1) := by decide +kernel
theorem dX13_doctor_25 : decode cX13_doctor 25 = .ok (.bipush 40, 2) := by decide +kernel
theorem dX13_doctor_27 : decode cX13_doctor 27 = .ok (.if_icmp .ge 26, 3) := by decide +kernel
theorem dX13_doctor_30 : decode cX13_doctor 30 = .ok (.aload_n 0, 1) := by decide +kernel
theorem dX13_doctor_31 : decode cX13_doctor 31 = .ok (.getfield 139, 3) := by decide +kernel
theorem dX13_doctor_34 : decode cX13_doctor 34 = .ok (.iconst 0, 1) := by decide +kernel
theorem dX13_doctor_35 : decode cX13_doctor 35 = .ok (.iaload, 1) := by decide +kernel
theorem dX13_doctor_36 : decode cX13_doctor 36 = .ok (.sipush 999, 3) := by decide +kernel
theorem dX13_doctor_39 : decode cX13_doctor 39 = .ok (.if_icmp .ge 14, 3) := by decide +kernel
theorem dX13_doctor_42 : decode cX13_doctor 42 = .ok (.aload_n 0, 1) := by decide +kernel
theorem dX13_doctor_43 : decode cX13_doctor 43 = .ok (.iconst 0, 1) := by decide +kernel
theorem dX13_doctor_44 : decode cX13_doctor 44 = .ok (.invokevirtual 477, 3) := by decide +kernel
theorem dX13_doctor_47 : decode cX13_doctor 47 = .ok (.iinc 2 1, 3) := by decide +kernel
theorem dX13_doctor_50 : decode cX13_doctor 50 = .ok (.goto (-34), 3) := by decide +kernel
theorem dX13_doctor_53 : decode cX13_doctor 53 = .ok (.aload_n 0, 1) := by decide +kernel
theorem dX13_doctor_54 : decode cX13_doctor 54 = .ok (.iload_n 1, 1) := by decide +kernel
theorem dX13_doctor_55 : decode cX13_doctor 55 = .ok (.invokevirtual 471, 3) := by decide +kernel
theorem dX13_doctor_58 : decode cX13_doctor 58 = .ok (.istore_n 3, 1) := by decide +kernel
theorem dX13_doctor_59 : decode cX13_doctor 59 = .ok (.aload_n 0, 1) := by decide +kernel
theorem dX13_doctor_60 : decode cX13_doctor 60 = .ok (.invokevirtual 525, 3) := by decide +kernel
theorem dX13_doctor_63 : decode cX13_doctor 63 = .ok (.iload_n 3, 1) := by decide +kernel
theorem dX13_doctor_64 : decode cX13_doctor 64 = .ok (.ifCond .eq 7, 3) := by decide +kernel
theorem dX13_doctor_67 : decode cX13_doctor 67 = .ok (.iload_n 2, 1) := by decide +kernel
theorem dX13_doctor_68 : decode cX13_doctor 68 = .ok (.goto 4, 3) := by decide +kernel
theorem dX13_doctor_71 : decode cX13_doctor 71 = .ok (.iconst (-1), 1) := by decide +kernel
theorem dX13_doctor_72 : decode cX13_doctor 72 = .ok (.ireturn, 1) := by decide +kernel
theorem bX13_doctor_0 {d : Nat}  {v1 : Int32} {I : Ii} {J : Jj} {K : KI}
    (h : CalI wM d mX13_isPerson [.ref (0), .int (v1)] I J (fun x3 I1 J2 => (((¬ x3 = 0) → (CalV wM d mX13_putsAside [.ref (0)] I1 J2 (fun I5 J6 => (GoI wM (d + 1) mX13_doctor 16 [(0, .ref (0)), (1, .int (v1)), (2, .int (0))] [] I5 J6 K)))) ∧ ((x3 = 0) → (K ((-1)) I1 J2))))) :
    GoI wM (d + 1) mX13_doctor 0 [(0, .ref (0)), (1, .int (v1))] [] I J K :=
  (g_aload_n dX13_doctor_0 0 0 rfl rfl (g_iload_n dX13_doctor_1 1 1 rfl rfl (g_callvI dX13_doctor_2 ml_X13_504 md_X13_isPerson mv_X13_isPerson obM_0 rfl rfl rfl (Nat.le_of_ble_eq_true rfl) (CalI.mono h (fun x3 I1 J2 h8 => (g_if_ne dX13_doctor_5 rfl (fun q4 => (g_aload_n dX13_doctor_10 0 0 rfl rfl (g_callvV dX13_doctor_11 ml_X13_519 md_X13_putsAside mv_X13_putsAside obM_0 rfl rfl rfl (Nat.le_of_ble_eq_true rfl) (CalV.mono (h8.1 q4) (fun I5 J6 h7 => (g_iconst dX13_doctor_14 kc_0 (g_istore_n dX13_doctor_15 rfl (by decide) rfl (g_sub [1, 2, 0] rfl h7)))))))) (fun q4 => (g_iconst dX13_doctor_8 kc_n1 (g_ireturn dX13_doctor_9 rfl ⟨_, rfl, (h8.2 q4)⟩)))))))))
theorem bX13_doctor_16 {d : Nat}  {v1 : Int32} {v2 : Int32} {I : Ii} {J : Jj} {K : KI}
    (h : CalI wM d mX13_isDoctor [.ref (0), .int (v1)] I J (fun x3 I1 J2 => (((¬ x3 = 0) → (CalI wM d mX13_isDoctor [.ref (0), .int (v1)] I1 J2 (fun x7 I5 J6 => (CalV wM d mX13_takesBack [.ref (0)] I5 J6 (fun I8 J9 => (((x7 = 0) → (K ((-1)) I8 J9)) ∧ ((¬ x7 = 0) → (K (v2) I8 J9)))))))) ∧ ((x3 = 0) → (((40 ≤ v2) → (CalI wM d mX13_isDoctor [.ref (0), .int (v1)] I1 J2 (fun x16 I14 J15 => (CalV wM d mX13_takesBack [.ref (0)] I14 J15 (fun I17 J18 => (((x16 = 0) → (K ((-1)) I17 J18)) ∧ ((¬ x16 = 0) → (K (v2) I17 J18)))))))) ∧ ((¬ 40 ≤ v2) → (((999 ≤ (I1 42 (0 : Int32).toNatClampNeg)) → (CalI wM d mX13_isDoctor [.ref (0), .int (v1)] I1 J2 (fun x26 I24 J25 => (CalV wM d mX13_takesBack [.ref (0)] I24 J25 (fun I27 J28 => (((x26 = 0) → (K ((-1)) I27 J28)) ∧ ((¬ x26 = 0) → (K (v2) I27 J28)))))))) ∧ ((¬ 999 ≤ (I1 42 (0 : Int32).toNatClampNeg)) → (CalV wM d mX13_yearGoes [.ref (0), .int (0)] I1 J2 (fun I32 J33 => (GoI wM (d + 1) mX13_doctor 16 [(0, .ref (0)), (1, .int (v1)), (2, .int (v2 + 1))] [] I32 J33 K))))))))))) :
    GoI wM (d + 1) mX13_doctor 16 [(0, .ref (0)), (1, .int (v1)), (2, .int (v2))] [] I J K :=
  (g_aload_n dX13_doctor_16 0 0 rfl rfl (g_iload_n dX13_doctor_17 1 1 rfl rfl (g_callvI dX13_doctor_18 ml_X13_471 md_X13_isDoctor mv_X13_isDoctor obM_0 rfl rfl rfl (Nat.le_of_ble_eq_true rfl) (CalI.mono h (fun x3 I1 J2 h35 => (g_if_ne dX13_doctor_21 rfl (fun q4 => (g_aload_n dX13_doctor_53 0 0 rfl rfl (g_iload_n dX13_doctor_54 1 1 rfl rfl (g_callvI dX13_doctor_55 ml_X13_471 md_X13_isDoctor mv_X13_isDoctor obM_0 rfl rfl rfl (Nat.le_of_ble_eq_true rfl) (CalI.mono (h35.1 q4) (fun x7 I5 J6 h12 => (g_istore_n dX13_doctor_58 rfl (by decide) rfl (g_aload_n dX13_doctor_59 1 0 rfl rfl (g_callvV dX13_doctor_60 ml_X13_525 md_X13_takesBack mv_X13_takesBack obM_0 rfl rfl rfl (Nat.le_of_ble_eq_true rfl) (CalV.mono h12 (fun I8 J9 h11 => (g_iload_n dX13_doctor_63 0 3 rfl rfl (g_if_eq dX13_doctor_64 rfl (fun q10 => (g_iconst dX13_doctor_71 kc_n1 (g_ireturn dX13_doctor_72 rfl ⟨_, rfl, (h11.1 q10)⟩))) (fun q10 => (g_iload_n dX13_doctor_67 3 2 rfl rfl (g_goto dX13_doctor_68 rfl (g_ireturn dX13_doctor_72 rfl ⟨_, rfl, (h11.2 q10)⟩))))))))))))))))) (fun q4 => (g_iload_n dX13_doctor_24 2 2 rfl rfl (g_bipush dX13_doctor_25 kb_40 (g_icmp_ge dX13_doctor_27 rfl (fun q13 => (g_aload_n dX13_doctor_53 0 0 rfl rfl (g_iload_n dX13_doctor_54 1 1 rfl rfl (g_callvI dX13_doctor_55 ml_X13_471 md_X13_isDoctor mv_X13_isDoctor obM_0 rfl rfl rfl (Nat.le_of_ble_eq_true rfl) (CalI.mono ((h35.2 q4).1 q13) (fun x16 I14 J15 h21 => (g_istore_n dX13_doctor_58 rfl (by decide) rfl (g_aload_n dX13_doctor_59 1 0 rfl rfl (g_callvV dX13_doctor_60 ml_X13_525 md_X13_takesBack mv_X13_takesBack obM_0 rfl rfl rfl (Nat.le_of_ble_eq_true rfl) (CalV.mono h21 (fun I17 J18 h20 => (g_iload_n dX13_doctor_63 0 3 rfl rfl (g_if_eq dX13_doctor_64 rfl (fun q19 => (g_iconst dX13_doctor_71 kc_n1 (g_ireturn dX13_doctor_72 rfl ⟨_, rfl, (h20.1 q19)⟩))) (fun q19 => (g_iload_n dX13_doctor_67 3 2 rfl rfl (g_goto dX13_doctor_68 rfl (g_ireturn dX13_doctor_72 rfl ⟨_, rfl, (h20.2 q19)⟩))))))))))))))))) (fun q13 => (g_aload_n dX13_doctor_30 0 0 rfl rfl (g_getP dX13_doctor_31 fl_X13_139 rfl obM_0 rfl (g_iconst dX13_doctor_34 kc_0 (g_iald dX13_doctor_35 arM_42 (by unfold vp_in; decide) (g_sipush dX13_doctor_36 ks_999 (g_icmp_ge dX13_doctor_39 rfl (fun q23 => (g_aload_n dX13_doctor_53 0 0 rfl rfl (g_iload_n dX13_doctor_54 1 1 rfl rfl (g_callvI dX13_doctor_55 ml_X13_471 md_X13_isDoctor mv_X13_isDoctor obM_0 rfl rfl rfl (Nat.le_of_ble_eq_true rfl) (CalI.mono (((h35.2 q4).2 q13).1 q23) (fun x26 I24 J25 h31 => (g_istore_n dX13_doctor_58 rfl (by decide) rfl (g_aload_n dX13_doctor_59 1 0 rfl rfl (g_callvV dX13_doctor_60 ml_X13_525 md_X13_takesBack mv_X13_takesBack obM_0 rfl rfl rfl (Nat.le_of_ble_eq_true rfl) (CalV.mono h31 (fun I27 J28 h30 => (g_iload_n dX13_doctor_63 0 3 rfl rfl (g_if_eq dX13_doctor_64 rfl (fun q29 => (g_iconst dX13_doctor_71 kc_n1 (g_ireturn dX13_doctor_72 rfl ⟨_, rfl, (h30.1 q29)⟩))) (fun q29 => (g_iload_n dX13_doctor_67 3 2 rfl rfl (g_goto dX13_doctor_68 rfl (g_ireturn dX13_doctor_72 rfl ⟨_, rfl, (h30.2 q29)⟩))))))))))))))))) (fun q23 => (g_aload_n dX13_doctor_42 0 0 rfl rfl (g_iconst dX13_doctor_43 kc_0 (g_callvV dX13_doctor_44 ml_X13_477 md_X13_yearGoes mv_X13_yearGoes obM_0 rfl rfl rfl (Nat.le_of_ble_eq_true rfl) (CalV.mono (((h35.2 q4).2 q13).2 q23) (fun I32 J33 h34 => (g_iinc dX13_doctor_47 2 rfl rfl (by decide) rfl (g_goto dX13_doctor_50 rfl (g_sub [1, 2, 0] rfl h34))))))))))))))))))))))))))
theorem dX13_lost_0 : decode cX13_lost 0 = .ok (.aload_n 0, 1) := by decide +kernel
theorem dX13_lost_1 : decode cX13_lost 1 = .ok (.iload_n 1, 1) := by decide +kernel
theorem dX13_lost_2 : decode cX13_lost 2 = .ok (.invokevirtual 495, 3) := by decide +kernel
theorem dX13_lost_5 : decode cX13_lost 5 = .ok (.ifCond .eq 10, 3) := by decide +kernel
theorem dX13_lost_8 : decode cX13_lost 8 = .ok (.aload_n 0, 1) := by decide +kernel
theorem dX13_lost_9 : decode cX13_lost 9 = .ok (.invokevirtual 401, 3) := by decide +kernel
theorem dX13_lost_12 : decode cX13_lost 12 = .ok (.ifCond .ne 5, 3) := by decide +kernel
theorem dX13_lost_15 : decode cX13_lost 15 = .ok (.iconst (-1), 1) := by decide +kernel
theorem dX13_lost_16 : decode cX13_lost 16 = .ok (.ireturn, 1) := by decide +kernel
theorem dX13_lost_17 : decode cX13_lost 17 = .ok (.aload_n 0, 1) := by decide +kernel
theorem dX13_lost_18 : decode cX13_lost 18 = .ok (.invokevirtual 519, 3) := by decide +kernel
theorem dX13_lost_21 : decode cX13_lost 21 = .ok (.iconst 0, 1) := by decide +kernel
theorem dX13_lost_22 : decode cX13_lost 22 = .ok (.istore_n 2, 1) := by decide +kernel
theorem dX13_lost_23 : decode cX13_lost 23 = .ok (.aload_n 0, 1) := by decide +kernel
theorem dX13_lost_24 : decode cX13_lost 24 = .ok (.iload_n 1, 1) := by decide +kernel
theorem dX13_lost_25 : decode cX13_lost 25 = .ok (.invokevirtual 501, 3) := by decide +kernel
theorem dX13_lost_28 : decode cX13_lost 28 = .ok (.aload_n 0, 1) := by decide +kernel
theorem dX13_lost_29 : decode cX13_lost 29 = .ok (.invokevirtual 401, 3) := by decide +kernel
theorem dX13_lost_32 : decode cX13_lost 32 = .ok (.if_icmp .ge 32, 3) := by decide +kernel
theorem dX13_lost_35 : decode cX13_lost 35 = .ok (.iload_n 2, 1) := by decide +kernel
theorem dX13_lost_36 : decode cX13_lost 36 = .ok (.bipush 40, 2) := by decide +kernel
theorem dX13_lost_38 : decode cX13_lost 38 = .ok (.if_icmp .ge 26, 3) := by decide +kernel
theorem dX13_lost_41 : decode cX13_lost 41 = .ok (.aload_n 0, 1) := by decide +kernel
theorem dX13_lost_42 : decode cX13_lost 42 = .ok (.getfield 139, 3) := by decide +kernel
theorem dX13_lost_45 : decode cX13_lost 45 = .ok (.iconst 0, 1) := by decide +kernel
theorem dX13_lost_46 : decode cX13_lost 46 = .ok (.iaload, 1) := by decide +kernel
theorem dX13_lost_47 : decode cX13_lost 47 = .ok (.sipush 999, 3) := by decide +kernel
theorem dX13_lost_50 : decode cX13_lost 50 = .ok (.if_icmp .ge 14, 3) := by decide +kernel
theorem dX13_lost_53 : decode cX13_lost 53 = .ok (.aload_n 0, 1) := by decide +kernel
theorem dX13_lost_54 : decode cX13_lost 54 = .ok (.iconst 0, 1) := by decide +kernel
theorem dX13_lost_55 : decode cX13_lost 55 = .ok (.invokevirtual 477, 3) := by decide +kernel
theorem dX13_lost_58 : decode cX13_lost 58 = .ok (.iinc 2 1, 3) := by decide +kernel
theorem dX13_lost_61 : decode cX13_lost 61 = .ok (.goto (-38), 3) := by decide +kernel
theorem dX13_lost_64 : decode cX13_lost 64 = .ok (.aload_n 0, 1) := by decide +kernel
theorem dX13_lost_65 : decode cX13_lost 65 = .ok (.iload_n 1, 1) := by decide +kernel
theorem dX13_lost_66 : decode cX13_lost 66 = .ok (.invokevirtual 501, 3) := by decide +kernel
theorem dX13_lost_69 : decode cX13_lost 69 = .ok (.aload_n 0, 1) := by decide +kernel
theorem dX13_lost_70 : decode cX13_lost 70 = .ok (.invokevirtual 401, 3) := by decide +kernel
theorem dX13_lost_73 : decode cX13_lost 73 = .ok (.if_icmp .ne 7, 3) := by decide +kernel
theorem dX13_lost_76 : decode cX13_lost 76 = .ok (.iconst 1, 1) := by decide +kernel
theorem dX13_lost_77 : decode cX13_lost 77 = .ok (.goto 4, 3) := by decide +kernel
theorem dX13_lost_80 : decode cX13_lost 80 = .ok (.iconst 0, 1) := by decide +kernel
theorem dX13_lost_81 : decode cX13_lost 81 = .ok (.istore_n 3, 1) := by decide +kernel
theorem dX13_lost_82 : decode cX13_lost 82 = .ok (.aload_n 0, 1) := by decide +kernel
theorem dX13_lost_83 : decode cX13_lost 83 = .ok (.invokevirtual 525, 3) := by decide +kernel
theorem dX13_lost_86 : decode cX13_lost 86 = .ok (.iload_n 3, 1) := by decide +kernel
theorem dX13_lost_87 : decode cX13_lost 87 = .ok (.ifCond .eq 7, 3) := by decide +kernel
theorem dX13_lost_90 : decode cX13_lost 90 = .ok (.iload_n 2, 1) := by decide +kernel
theorem dX13_lost_91 : decode cX13_lost 91 = .ok (.goto 4, 3) := by decide +kernel
theorem dX13_lost_94 : decode cX13_lost 94 = .ok (.iconst (-1), 1) := by decide +kernel
theorem dX13_lost_95 : decode cX13_lost 95 = .ok (.ireturn, 1) := by decide +kernel
theorem bX13_lost_0 {d : Nat}  {v1 : Int32} {I : Ii} {J : Jj} {K : KI}
    (h : CalI wM d mX13_isFact [.ref (0), .int (v1)] I J (fun x3 I1 J2 => (((x3 = 0) → (K ((-1)) I1 J2)) ∧ ((¬ x3 = 0) → (CalI wM d mX13_personMany [.ref (0)] I1 J2 (fun x7 I5 J6 => (((¬ x7 = 0) → (CalV wM d mX13_putsAside [.ref (0)] I5 J6 (fun I9 J10 => (GoI wM (d + 1) mX13_lost 23 [(0, .ref (0)), (1, .int (v1)), (2, .int (0))] [] I9 J10 K)))) ∧ ((x7 = 0) → (K ((-1)) I5 J6))))))))) :
    GoI wM (d + 1) mX13_lost 0 [(0, .ref (0)), (1, .int (v1))] [] I J K :=
  (g_aload_n dX13_lost_0 0 0 rfl rfl (g_iload_n dX13_lost_1 1 1 rfl rfl (g_callvI dX13_lost_2 ml_X13_495 md_X13_isFact mv_X13_isFact obM_0 rfl rfl rfl (Nat.le_of_ble_eq_true rfl) (CalI.mono h (fun x3 I1 J2 h13 => (g_if_eq dX13_lost_5 rfl (fun q4 => (g_iconst dX13_lost_15 kc_n1 (g_ireturn dX13_lost_16 rfl ⟨_, rfl, (h13.1 q4)⟩))) (fun q4 => (g_aload_n dX13_lost_8 0 0 rfl rfl (g_callvI dX13_lost_9 ml_X13_401 md_X13_personMany mv_X13_personMany obM_0 rfl rfl rfl (Nat.le_of_ble_eq_true rfl) (CalI.mono (h13.2 q4) (fun x7 I5 J6 h12 => (g_if_ne dX13_lost_12 rfl (fun q8 => (g_aload_n dX13_lost_17 0 0 rfl rfl (g_callvV dX13_lost_18 ml_X13_519 md_X13_putsAside mv_X13_putsAside obM_0 rfl rfl rfl (Nat.le_of_ble_eq_true rfl) (CalV.mono (h12.1 q8) (fun I9 J10 h11 => (g_iconst dX13_lost_21 kc_0 (g_istore_n dX13_lost_22 rfl (by decide) rfl (g_sub [1, 2, 0] rfl h11)))))))) (fun q8 => (g_iconst dX13_lost_15 kc_n1 (g_ireturn dX13_lost_16 rfl ⟨_, rfl, (h12.2 q8)⟩)))))))))))))))
theorem bX13_lost_23 {d : Nat}  {v1 : Int32} {v2 : Int32} {I : Ii} {J : Jj} {K : KI}
    (h : CalI wM d mX13_wrongMany [.ref (0), .int (v1)] I J (fun x3 I1 J2 => (CalI wM d mX13_personMany [.ref (0)] I1 J2 (fun x6 I4 J5 => (((x6 ≤ x3) → (CalI wM d mX13_wrongMany [.ref (0), .int (v1)] I4 J5 (fun x10 I8 J9 => (CalI wM d mX13_personMany [.ref (0)] I8 J9 (fun x13 I11 J12 => (((¬ x10 = x13) → (CalV wM d mX13_takesBack [.ref (0)] I11 J12 (fun I15 J16 => (K ((-1)) I15 J16)))) ∧ ((x10 = x13) → (CalV wM d mX13_takesBack [.ref (0)] I11 J12 (fun I18 J19 => (K (v2) I18 J19)))))))))) ∧ ((¬ x6 ≤ x3) → (((40 ≤ v2) → (CalI wM d mX13_wrongMany [.ref (0), .int (v1)] I4 J5 (fun x26 I24 J25 => (CalI wM d mX13_personMany [.ref (0)] I24 J25 (fun x29 I27 J28 => (((¬ x26 = x29) → (CalV wM d mX13_takesBack [.ref (0)] I27 J28 (fun I31 J32 => (K ((-1)) I31 J32)))) ∧ ((x26 = x29) → (CalV wM d mX13_takesBack [.ref (0)] I27 J28 (fun I34 J35 => (K (v2) I34 J35)))))))))) ∧ ((¬ 40 ≤ v2) → (((999 ≤ (I4 42 (0 : Int32).toNatClampNeg)) → (CalI wM d mX13_wrongMany [.ref (0), .int (v1)] I4 J5 (fun x43 I41 J42 => (CalI wM d mX13_personMany [.ref (0)] I41 J42 (fun x46 I44 J45 => (((¬ x43 = x46) → (CalV wM d mX13_takesBack [.ref (0)] I44 J45 (fun I48 J49 => (K ((-1)) I48 J49)))) ∧ ((x43 = x46) → (CalV wM d mX13_takesBack [.ref (0)] I44 J45 (fun I51 J52 => (K (v2) I51 J52)))))))))) ∧ ((¬ 999 ≤ (I4 42 (0 : Int32).toNatClampNeg)) → (CalV wM d mX13_yearGoes [.ref (0), .int (0)] I4 J5 (fun I56 J57 => (GoI wM (d + 1) mX13_lost 23 [(0, .ref (0)), (1, .int (v1)), (2, .int (v2 + 1))] [] I56 J57 K))))))))))))) :
    GoI wM (d + 1) mX13_lost 23 [(0, .ref (0)), (1, .int (v1)), (2, .int (v2))] [] I J K :=
  (g_aload_n dX13_lost_23 0 0 rfl rfl (g_iload_n dX13_lost_24 1 1 rfl rfl (g_callvI dX13_lost_25 ml_X13_501 md_X13_wrongMany mv_X13_wrongMany obM_0 rfl rfl rfl (Nat.le_of_ble_eq_true rfl) (CalI.mono h (fun x3 I1 J2 h60 => (g_aload_n dX13_lost_28 0 0 rfl rfl (g_callvI dX13_lost_29 ml_X13_401 md_X13_personMany mv_X13_personMany obM_0 rfl rfl rfl (Nat.le_of_ble_eq_true rfl) (CalI.mono h60 (fun x6 I4 J5 h59 => (g_icmp_ge dX13_lost_32 rfl (fun q7 => (g_aload_n dX13_lost_64 0 0 rfl rfl (g_iload_n dX13_lost_65 1 1 rfl rfl (g_callvI dX13_lost_66 ml_X13_501 md_X13_wrongMany mv_X13_wrongMany obM_0 rfl rfl rfl (Nat.le_of_ble_eq_true rfl) (CalI.mono (h59.1 q7) (fun x10 I8 J9 h22 => (g_aload_n dX13_lost_69 0 0 rfl rfl (g_callvI dX13_lost_70 ml_X13_401 md_X13_personMany mv_X13_personMany obM_0 rfl rfl rfl (Nat.le_of_ble_eq_true rfl) (CalI.mono h22 (fun x13 I11 J12 h21 => (g_icmp_ne dX13_lost_73 rfl (fun q14 => (g_iconst dX13_lost_80 kc_0 (g_istore_n dX13_lost_81 rfl (by decide) rfl (g_aload_n dX13_lost_82 1 0 rfl rfl (g_callvV dX13_lost_83 ml_X13_525 md_X13_takesBack mv_X13_takesBack obM_0 rfl rfl rfl (Nat.le_of_ble_eq_true rfl) (CalV.mono (h21.1 q14) (fun I15 J16 h17 => (g_iload_n dX13_lost_86 0 3 rfl rfl (g_if_eq dX13_lost_87 rfl (fun _ => (g_iconst dX13_lost_94 kc_n1 (g_ireturn dX13_lost_95 rfl ⟨_, rfl, h17⟩))) (fun q => absurd q (by decide))))))))))) (fun q14 => (g_iconst dX13_lost_76 kc_1 (g_goto dX13_lost_77 rfl (g_istore_n dX13_lost_81 rfl (by decide) rfl (g_aload_n dX13_lost_82 1 0 rfl rfl (g_callvV dX13_lost_83 ml_X13_525 md_X13_takesBack mv_X13_takesBack obM_0 rfl rfl rfl (Nat.le_of_ble_eq_true rfl) (CalV.mono (h21.2 q14) (fun I18 J19 h20 => (g_iload_n dX13_lost_86 0 3 rfl rfl (g_if_eq dX13_lost_87 rfl (fun q => absurd q (by decide)) (fun _ => (g_iload_n dX13_lost_90 3 2 rfl rfl (g_goto dX13_lost_91 rfl (g_ireturn dX13_lost_95 rfl ⟨_, rfl, h20⟩))))))))))))))))))))))))) (fun q7 => (g_iload_n dX13_lost_35 2 2 rfl rfl (g_bipush dX13_lost_36 kb_40 (g_icmp_ge dX13_lost_38 rfl (fun q23 => (g_aload_n dX13_lost_64 0 0 rfl rfl (g_iload_n dX13_lost_65 1 1 rfl rfl (g_callvI dX13_lost_66 ml_X13_501 md_X13_wrongMany mv_X13_wrongMany obM_0 rfl rfl rfl (Nat.le_of_ble_eq_true rfl) (CalI.mono ((h59.2 q7).1 q23) (fun x26 I24 J25 h38 => (g_aload_n dX13_lost_69 0 0 rfl rfl (g_callvI dX13_lost_70 ml_X13_401 md_X13_personMany mv_X13_personMany obM_0 rfl rfl rfl (Nat.le_of_ble_eq_true rfl) (CalI.mono h38 (fun x29 I27 J28 h37 => (g_icmp_ne dX13_lost_73 rfl (fun q30 => (g_iconst dX13_lost_80 kc_0 (g_istore_n dX13_lost_81 rfl (by decide) rfl (g_aload_n dX13_lost_82 1 0 rfl rfl (g_callvV dX13_lost_83 ml_X13_525 md_X13_takesBack mv_X13_takesBack obM_0 rfl rfl rfl (Nat.le_of_ble_eq_true rfl) (CalV.mono (h37.1 q30) (fun I31 J32 h33 => (g_iload_n dX13_lost_86 0 3 rfl rfl (g_if_eq dX13_lost_87 rfl (fun _ => (g_iconst dX13_lost_94 kc_n1 (g_ireturn dX13_lost_95 rfl ⟨_, rfl, h33⟩))) (fun q => absurd q (by decide))))))))))) (fun q30 => (g_iconst dX13_lost_76 kc_1 (g_goto dX13_lost_77 rfl (g_istore_n dX13_lost_81 rfl (by decide) rfl (g_aload_n dX13_lost_82 1 0 rfl rfl (g_callvV dX13_lost_83 ml_X13_525 md_X13_takesBack mv_X13_takesBack obM_0 rfl rfl rfl (Nat.le_of_ble_eq_true rfl) (CalV.mono (h37.2 q30) (fun I34 J35 h36 => (g_iload_n dX13_lost_86 0 3 rfl rfl (g_if_eq dX13_lost_87 rfl (fun q => absurd q (by decide)) (fun _ => (g_iload_n dX13_lost_90 3 2 rfl rfl (g_goto dX13_lost_91 rfl (g_ireturn dX13_lost_95 rfl ⟨_, rfl, h36⟩))))))))))))))))))))))))) (fun q23 => (g_aload_n dX13_lost_41 0 0 rfl rfl (g_getP dX13_lost_42 fl_X13_139 rfl obM_0 rfl (g_iconst dX13_lost_45 kc_0 (g_iald dX13_lost_46 arM_42 (by unfold vp_in; decide) (g_sipush dX13_lost_47 ks_999 (g_icmp_ge dX13_lost_50 rfl (fun q40 => (g_aload_n dX13_lost_64 0 0 rfl rfl (g_iload_n dX13_lost_65 1 1 rfl rfl (g_callvI dX13_lost_66 ml_X13_501 md_X13_wrongMany mv_X13_wrongMany obM_0 rfl rfl rfl (Nat.le_of_ble_eq_true rfl) (CalI.mono (((h59.2 q7).2 q23).1 q40) (fun x43 I41 J42 h55 => (g_aload_n dX13_lost_69 0 0 rfl rfl (g_callvI dX13_lost_70 ml_X13_401 md_X13_personMany mv_X13_personMany obM_0 rfl rfl rfl (Nat.le_of_ble_eq_true rfl) (CalI.mono h55 (fun x46 I44 J45 h54 => (g_icmp_ne dX13_lost_73 rfl (fun q47 => (g_iconst dX13_lost_80 kc_0 (g_istore_n dX13_lost_81 rfl (by decide) rfl (g_aload_n dX13_lost_82 1 0 rfl rfl (g_callvV dX13_lost_83 ml_X13_525 md_X13_takesBack mv_X13_takesBack obM_0 rfl rfl rfl (Nat.le_of_ble_eq_true rfl) (CalV.mono (h54.1 q47) (fun I48 J49 h50 => (g_iload_n dX13_lost_86 0 3 rfl rfl (g_if_eq dX13_lost_87 rfl (fun _ => (g_iconst dX13_lost_94 kc_n1 (g_ireturn dX13_lost_95 rfl ⟨_, rfl, h50⟩))) (fun q => absurd q (by decide))))))))))) (fun q47 => (g_iconst dX13_lost_76 kc_1 (g_goto dX13_lost_77 rfl (g_istore_n dX13_lost_81 rfl (by decide) rfl (g_aload_n dX13_lost_82 1 0 rfl rfl (g_callvV dX13_lost_83 ml_X13_525 md_X13_takesBack mv_X13_takesBack obM_0 rfl rfl rfl (Nat.le_of_ble_eq_true rfl) (CalV.mono (h54.2 q47) (fun I51 J52 h53 => (g_iload_n dX13_lost_86 0 3 rfl rfl (g_if_eq dX13_lost_87 rfl (fun q => absurd q (by decide)) (fun _ => (g_iload_n dX13_lost_90 3 2 rfl rfl (g_goto dX13_lost_91 rfl (g_ireturn dX13_lost_95 rfl ⟨_, rfl, h53⟩))))))))))))))))))))))))) (fun q40 => (g_aload_n dX13_lost_53 0 0 rfl rfl (g_iconst dX13_lost_54 kc_0 (g_callvV dX13_lost_55 ml_X13_477 md_X13_yearGoes mv_X13_yearGoes obM_0 rfl rfl rfl (Nat.le_of_ble_eq_true rfl) (CalV.mono (((h59.2 q7).2 q23).2 q40) (fun I56 J57 h58 => (g_iinc dX13_lost_58 2 rfl rfl (by decide) rfl (g_goto dX13_lost_61 rfl (g_sub [1, 2, 0] rfl h58))))))))))))))))))))))))))))))
theorem dX13_master_0 : decode cX13_master 0 = .ok (.aload_n 0, 1) := by decide +kernel
theorem dX13_master_1 : decode cX13_master 1 = .ok (.iload_n 1, 1) := by decide +kernel
theorem dX13_master_2 : decode cX13_master 2 = .ok (.invokevirtual 504, 3) := by decide +kernel
theorem dX13_master_5 : decode cX13_master 5 = .ok (.ifCond .eq 13, 3) := by decide +kernel
theorem dX13_master_8 : decode cX13_master 8 = .ok (.iload_n 2, 1) := by decide +kernel
theorem dX13_master_9 : decode cX13_master 9 = .ok (.i2l, 1) := by decide +kernel
theorem dX13_master_10 : decode cX13_master 10 = .ok (.lconst 0, 1) := by decide +kernel
theorem dX13_master_11 : decode cX13_master 11 = .ok (.lconst 1, 1) := by decide +kernel
theorem dX13_master_12 : decode cX13_master 12 = .ok (.invokestatic 297, 3) := by decide +kernel
theorem dX13_master_15 : decode cX13_master 15 = .ok (.ifCond .ne 5, 3) := by decide +kernel
theorem dX13_master_18 : decode cX13_master 18 = .ok (.iconst (-1), 1) := by decide +kernel
theorem dX13_master_19 : decode cX13_master 19 = .ok (.ireturn, 1) := by decide +kernel
theorem dX13_master_20 : decode cX13_master 20 = .ok (.iconst (-1), 1) := by decide +kernel
theorem dX13_master_21 : decode cX13_master 21 = .ok (.istore_n 3, 1) := by decide +kernel
theorem dX13_master_22 : decode cX13_master 22 = .ok (.bipush 41, 2) := by decide +kernel
theorem dX13_master_24 : decode cX13_master 24 = .ok (.istore 4, 2) := by decide +kernel
theorem dX13_master_26 : decode cX13_master 26 = .ok (.aload_n 0, 1) := by decide +kernel
theorem dX13_master_27 : decode cX13_master 27 = .ok (.invokevirtual 519, 3) := by decide +kernel
theorem dX13_master_30 : decode cX13_master 30 = .ok (.iconst 0, 1) := by decide +kernel
theorem dX13_master_31 : decode cX13_master 31 = .ok (.istore 5, 2) := by decide +kernel
theorem dX13_master_33 : decode cX13_master 33 = .ok (.iload 5, 2) := by decide +kernel
theorem dX13_master_35 : decode cX13_master 35 = .ok (.aload_n 0, 1) := by decide +kernel
theorem dX13_master_36 : decode cX13_master 36 = .ok (.invokevirtual 401, 3) := by decide +kernel
theorem dX13_master_39 : decode cX13_master 39 = .ok (.if_icmp .ge 62, 3) := by decide +kernel
theorem dX13_master_42 : decode cX13_master 42 = .ok (.aload_n 0, 1) := by decide +kernel
theorem dX13_master_43 : decode cX13_master 43 = .ok (.iload 5, 2) := by decide +kernel
theorem dX13_master_45 : decode cX13_master 45 = .ok (.iload_n 1, 1) := by decide +kernel
theorem dX13_master_46 : decode cX13_master 46 = .ok (.invokevirtual 528, 3) := by decide +kernel
theorem dX13_master_49 : decode cX13_master 49 = .ok (.ifCond .eq 6, 3) := by decide +kernel
theorem dX13_master_52 : decode cX13_master 52 = .ok (.goto 43, 3) := by decide +kernel
theorem dX13_master_55 : decode cX13_master 55 = .ok (.aload_n 0, 1) := by decide +kernel
theorem dX13_master_56 : decode cX13_master 56 = .ok (.getfield 139, 3) := by decide +kernel
theorem dX13_master_59 : decode cX13_master 59 = .ok (.iconst 1, 1) := by decide +kernel
theorem dX13_master_60 : decode cX13_master 60 = .ok (.iconst 5, 1) := by decide +kernel
theorem dX13_master_61 : decode cX13_master 61 = .ok (.iload_n 1, 1) := by decide +kernel
theorem dX13_master_62 : decode cX13_master 62 = .ok (.imul, 1) := by decide +kernel
theorem dX13_master_63 : decode cX13_master 63 = .ok (.iadd, 1) := by decide +kernel
theorem dX13_master_64 : decode cX13_master 64 = .ok (.iload 5, 2) := by decide +kernel
theorem dX13_master_66 : decode cX13_master 66 = .ok (.iastore, 1) := by decide +kernel
theorem dX13_master_67 : decode cX13_master 67 = .ok (.aload_n 0, 1) := by decide +kernel
theorem dX13_master_68 : decode cX13_master 68 = .ok (.iload_n 1, 1) := by decide +kernel
theorem dX13_master_69 : decode cX13_master 69 = .ok (.invokevirtual 532, 3) := by decide +kernel
theorem dX13_master_72 : decode cX13_master 72 = .ok (.istore 6, 2) := by decide +kernel
theorem dX13_master_74 : decode cX13_master 74 = .ok (.aload_n 0, 1) := by decide +kernel
theorem dX13_master_75 : decode cX13_master 75 = .ok (.invokevirtual 480, 3) := by decide +kernel
theorem dX13_master_78 : decode cX13_master 78 = .ok (.iload 6, 2) := by decide +kernel
theorem dX13_master_80 : decode cX13_master 80 = .ok (.iload 4, 2) := by decide +kernel
theorem dX13_master_82 : decode cX13_master 82 = .ok (.if_icmp .lt 6, 3) := by decide +kernel
theorem dX13_master_85 : decode cX13_master 85 = .ok (.goto 10, 3) := by decide +kernel
theorem dX13_master_88 : decode cX13_master 88 = .ok (.iload 5, 2) := by decide +kernel
theorem dX13_master_90 : decode cX13_master 90 = .ok (.istore_n 3, 1) := by decide +kernel
theorem dX13_master_91 : decode cX13_master 91 = .ok (.iload 6, 2) := by decide +kernel
theorem dX13_master_93 : decode cX13_master 93 = .ok (.istore 4, 2) := by decide +kernel
theorem dX13_master_95 : decode cX13_master 95 = .ok (.iinc 5 1, 3) := by decide +kernel
theorem dX13_master_98 : decode cX13_master 98 = .ok (.goto (-65), 3) := by decide +kernel
theorem dX13_master_101 : decode cX13_master 101 = .ok (.aload_n 0, 1) := by decide +kernel
theorem dX13_master_102 : decode cX13_master 102 = .ok (.invokevirtual 525, 3) := by decide +kernel
theorem dX13_master_105 : decode cX13_master 105 = .ok (.iload_n 3, 1) := by decide +kernel
theorem dX13_master_106 : decode cX13_master 106 = .ok (.iconst (-1), 1) := by decide +kernel
theorem dX13_master_107 : decode cX13_master 107 = .ok (.if_icmp .ne 7, 3) := by decide +kernel
theorem dX13_master_110 : decode cX13_master 110 = .ok (.iconst (-1), 1) := by decide +kernel
theorem dX13_master_111 : decode cX13_master 111 = .ok (.goto 13, 3) := by decide +kernel
theorem dX13_master_114 : decode cX13_master 114 = .ok (.iload_n 2, 1) := by decide +kernel
theorem dX13_master_115 : decode cX13_master 115 = .ok (.ifCond .ne 7, 3) := by decide +kernel
theorem dX13_master_118 : decode cX13_master 118 = .ok (.iload_n 3, 1) := by decide +kernel
theorem dX13_master_119 : decode cX13_master 119 = .ok (.goto 5, 3) := by decide +kernel
theorem dX13_master_122 : decode cX13_master 122 = .ok (.iload 4, 2) := by decide +kernel
theorem dX13_master_124 : decode cX13_master 124 = .ok (.ireturn, 1) := by decide +kernel
theorem bX13_master_0 {d : Nat}  {v1 : Int32} {v2 : Int32} {I : Ii} {J : Jj} {K : KI}
    (h : CalI wM d mX13_isPerson [.ref (0), .int (v1)] I J (fun x3 I1 J2 => (((x3 = 0) → (K ((-1)) I1 J2)) ∧ ((¬ x3 = 0) → (CalI wM d mX13_isIn [.long (v2.toInt64), .long (0), .long (1)] I1 J2 (fun x7 I5 J6 => (((¬ x7 = 0) → (CalV wM d mX13_putsAside [.ref (0)] I5 J6 (fun I9 J10 => (GoI wM (d + 1) mX13_master 33 [(0, .ref (0)), (1, .int (v1)), (2, .int (v2)), (3, .int ((-1))), (4, .int (41)), (5, .int (0))] [] I9 J10 K)))) ∧ ((x7 = 0) → (K ((-1)) I5 J6))))))))) :
    GoI wM (d + 1) mX13_master 0 [(0, .ref (0)), (1, .int (v1)), (2, .int (v2))] [] I J K :=
  (g_aload_n dX13_master_0 0 0 rfl rfl (g_iload_n dX13_master_1 1 1 rfl rfl (g_callvI dX13_master_2 ml_X13_504 md_X13_isPerson mv_X13_isPerson obM_0 rfl rfl rfl (Nat.le_of_ble_eq_true rfl) (CalI.mono h (fun x3 I1 J2 h13 => (g_if_eq dX13_master_5 rfl (fun q4 => (g_iconst dX13_master_18 kc_n1 (g_ireturn dX13_master_19 rfl ⟨_, rfl, (h13.1 q4)⟩))) (fun q4 => (g_iload_n dX13_master_8 2 2 rfl rfl (g_i2l dX13_master_9 (g_lconst dX13_master_10 kq_0 (g_lconst dX13_master_11 kq_1 (g_callsI dX13_master_12 ml_X13_297 md_X13_isIn ms_X13_isIn rfl rfl (Nat.le_of_ble_eq_true rfl) (CalI.mono (h13.2 q4) (fun x7 I5 J6 h12 => (g_if_ne dX13_master_15 rfl (fun q8 => (g_iconst dX13_master_20 kc_n1 (g_istore_n dX13_master_21 rfl (by decide) rfl (g_bipush dX13_master_22 kb_41 (g_istore dX13_master_24 (by decide) rfl (g_aload_n dX13_master_26 2 0 rfl rfl (g_callvV dX13_master_27 ml_X13_519 md_X13_putsAside mv_X13_putsAside obM_0 rfl rfl rfl (Nat.le_of_ble_eq_true rfl) (CalV.mono (h12.1 q8) (fun I9 J10 h11 => (g_iconst dX13_master_30 kc_0 (g_istore dX13_master_31 (by decide) rfl (g_sub [3, 4, 5, 2, 1, 0] rfl h11)))))))))))) (fun q8 => (g_iconst dX13_master_18 kc_n1 (g_ireturn dX13_master_19 rfl ⟨_, rfl, (h12.2 q8)⟩))))))))))))))))))
theorem bX13_master_33 {d : Nat}  {v1 : Int32} {v2 : Int32} {v3 : Int32} {v4 : Int32} {v5 : Int32} {I : Ii} {J : Jj} {K : KI}
    (h : CalI wM d mX13_personMany [.ref (0)] I J (fun x3 I1 J2 => (((x3 ≤ v5) → (CalV wM d mX13_takesBack [.ref (0)] I1 J2 (fun I5 J6 => (((¬ v3 = ((-1))) → (((¬ v2 = 0) → (K (v4) I5 J6)) ∧ ((v2 = 0) → (K (v3) I5 J6)))) ∧ ((v3 = ((-1))) → (K ((-1)) I5 J6)))))) ∧ ((¬ x3 ≤ v5) → (CalI wM d mX13_isTaughtBy [.ref (0), .int (v5), .int (v1)] I1 J2 (fun x12 I10 J11 => (((x12 = 0) → (vp_in (1 + (5 * v1)) 132 ∧ (CalI wM d mX13_yearsTill [.ref (0), .int (v1)] (u2 I10 42 (1 + (5 * v1)).toNatClampNeg v5) J11 (fun x18 I16 J17 => (CalV wM d mX13_triesAnew [.ref (0)] I16 J17 (fun I19 J20 => (((x18 < v4) → (GoI wM (d + 1) mX13_master 33 [(0, .ref (0)), (1, .int (v1)), (2, .int (v2)), (3, .int (v5)), (4, .int (x18)), (5, .int (v5 + 1))] [] I19 J20 K)) ∧ ((¬ x18 < v4) → (GoI wM (d + 1) mX13_master 33 [(0, .ref (0)), (1, .int (v1)), (2, .int (v2)), (3, .int (v3)), (4, .int (v4)), (5, .int (v5 + 1))] [] I19 J20 K))))))))) ∧ ((¬ x12 = 0) → (GoI wM (d + 1) mX13_master 33 [(0, .ref (0)), (1, .int (v1)), (2, .int (v2)), (3, .int (v3)), (4, .int (v4)), (5, .int (v5 + 1))] [] I10 J11 K))))))))) :
    GoI wM (d + 1) mX13_master 33 [(0, .ref (0)), (1, .int (v1)), (2, .int (v2)), (3, .int (v3)), (4, .int (v4)), (5, .int (v5))] [] I J K :=
  (g_iload dX13_master_33 5 rfl (g_aload_n dX13_master_35 0 0 rfl rfl (g_callvI dX13_master_36 ml_X13_401 md_X13_personMany mv_X13_personMany obM_0 rfl rfl rfl (Nat.le_of_ble_eq_true rfl) (CalI.mono h (fun x3 I1 J2 h25 => (g_icmp_ge dX13_master_39 rfl (fun q4 => (g_aload_n dX13_master_101 0 0 rfl rfl (g_callvV dX13_master_102 ml_X13_525 md_X13_takesBack mv_X13_takesBack obM_0 rfl rfl rfl (Nat.le_of_ble_eq_true rfl) (CalV.mono (h25.1 q4) (fun I5 J6 h9 => (g_iload_n dX13_master_105 3 3 rfl rfl (g_iconst dX13_master_106 kc_n1 (g_icmp_ne dX13_master_107 rfl (fun q7 => (g_iload_n dX13_master_114 2 2 rfl rfl (g_if_ne dX13_master_115 rfl (fun q8 => (g_iload dX13_master_122 4 rfl (g_ireturn dX13_master_124 rfl ⟨_, rfl, ((h9.1 q7).1 q8)⟩))) (fun q8 => (g_iload_n dX13_master_118 3 3 rfl rfl (g_goto dX13_master_119 rfl (g_ireturn dX13_master_124 rfl ⟨_, rfl, ((h9.1 q7).2 q8)⟩))))))) (fun q7 => (g_iconst dX13_master_110 kc_n1 (g_goto dX13_master_111 rfl (g_ireturn dX13_master_124 rfl ⟨_, rfl, (h9.2 q7)⟩)))))))))))) (fun q4 => (g_aload_n dX13_master_42 0 0 rfl rfl (g_iload dX13_master_43 5 rfl (g_iload_n dX13_master_45 1 1 rfl rfl (g_callvI dX13_master_46 ml_X13_528 md_X13_isTaughtBy mv_X13_isTaughtBy obM_0 rfl rfl rfl (Nat.le_of_ble_eq_true rfl) (CalI.mono (h25.2 q4) (fun x12 I10 J11 h24 => (g_if_eq dX13_master_49 rfl (fun q13 => (g_aload_n dX13_master_55 0 0 rfl rfl (g_getP dX13_master_56 fl_X13_139 rfl obM_0 rfl (g_iconst dX13_master_59 kc_1 (g_iconst dX13_master_60 kc_5 (g_iload_n dX13_master_61 1 1 rfl rfl (g_imul dX13_master_62 (g_iadd dX13_master_63 (g_iload dX13_master_64 5 rfl (have b14 := (h24.1 q13).1; g_iast dX13_master_66 arM_42 b14 (g_aload_n dX13_master_67 0 0 rfl rfl (g_iload_n dX13_master_68 1 1 rfl rfl (g_callvI dX13_master_69 ml_X13_532 md_X13_yearsTill mv_X13_yearsTill obM_0 rfl rfl rfl (Nat.le_of_ble_eq_true rfl) (CalI.mono (h24.1 q13).2 (fun x18 I16 J17 h23 => (g_istore dX13_master_72 (by decide) rfl (g_aload_n dX13_master_74 1 0 rfl rfl (g_callvV dX13_master_75 ml_X13_480 md_X13_triesAnew mv_X13_triesAnew obM_0 rfl rfl rfl (Nat.le_of_ble_eq_true rfl) (CalV.mono h23 (fun I19 J20 h22 => (g_iload dX13_master_78 0 rfl (g_iload dX13_master_80 5 rfl (g_icmp_lt dX13_master_82 rfl (fun q21 => (g_iload dX13_master_88 6 rfl (g_istore_n dX13_master_90 rfl (by decide) rfl (g_iload dX13_master_91 1 rfl (g_istore dX13_master_93 (by decide) rfl (g_iinc dX13_master_95 6 rfl rfl (by decide) rfl (g_goto dX13_master_98 rfl (g_sub [4, 5, 6, 2, 1, 0] rfl (h22.1 q21))))))))) (fun q21 => (g_goto dX13_master_85 rfl (g_iinc dX13_master_95 6 rfl rfl (by decide) rfl (g_goto dX13_master_98 rfl (g_sub [2, 3, 4, 5, 6, 0] rfl (h22.2 q21))))))))))))))))))))))))))))) (fun q13 => (g_goto dX13_master_52 rfl (g_iinc dX13_master_95 5 rfl rfl (by decide) rfl (g_goto dX13_master_98 rfl (g_sub [1, 2, 3, 4, 5, 0] rfl (h24.2 q13))))))))))))))))))))
theorem dX13_isTaughtBy_0 : decode cX13_isTaughtBy 0 = .ok (.iload_n 1, 1) := by decide +kernel
theorem dX13_isTaughtBy_1 : decode cX13_isTaughtBy 1 = .ok (.istore_n 3, 1) := by decide +kernel
theorem dX13_isTaughtBy_2 : decode cX13_isTaughtBy 2 = .ok (.iload_n 3, 1) := by decide +kernel
theorem dX13_isTaughtBy_3 : decode cX13_isTaughtBy 3 = .ok (.iconst (-1), 1) := by decide +kernel
theorem dX13_isTaughtBy_4 : decode cX13_isTaughtBy 4 = .ok (.if_icmp .eq 17, 3) := by decide +kernel
theorem dX13_isTaughtBy_7 : decode cX13_isTaughtBy 7 = .ok (.iload_n 3, 1) := by decide +kernel
theorem dX13_isTaughtBy_8 : decode cX13_isTaughtBy 8 = .ok (.iload_n 2, 1) := by decide +kernel
theorem dX13_isTaughtBy_9 : decode cX13_isTaughtBy 9 = .ok (.if_icmp .eq 12, 3) := by decide +kernel
theorem dX13_isTaughtBy_12 : decode cX13_isTaughtBy 12 = .ok (.aload_n 0, 1) := by decide +kernel
theorem dX13_isTaughtBy_13 : decode cX13_isTaughtBy 13 = .ok (.iload_n 3, 1) := by decide +kernel
theorem dX13_isTaughtBy_14 : decode cX13_isTaughtBy 14 = .ok (.invokevirtual 410, 3) := by decide +kernel
theorem dX13_isTaughtBy_17 : decode cX13_isTaughtBy 17 = .ok (.istore_n 3, 1) := by decide +kernel
theorem dX13_isTaughtBy_18 : decode cX13_isTaughtBy 18 = .ok (.goto (-16), 3) := by decide +kernel
theorem dX13_isTaughtBy_21 : decode cX13_isTaughtBy 21 = .ok (.iload_n 3, 1) := by decide +kernel
theorem dX13_isTaughtBy_22 : decode cX13_isTaughtBy 22 = .ok (.iload_n 2, 1) := by decide +kernel
theorem dX13_isTaughtBy_23 : decode cX13_isTaughtBy 23 = .ok (.if_icmp .ne 7, 3) := by decide +kernel
theorem dX13_isTaughtBy_26 : decode cX13_isTaughtBy 26 = .ok (.iconst 1, 1) := by decide +kernel
theorem dX13_isTaughtBy_27 : decode cX13_isTaughtBy 27 = .ok (.goto 4, 3) := by decide +kernel
theorem dX13_isTaughtBy_30 : decode cX13_isTaughtBy 30 = .ok (.iconst 0, 1) := by decide +kernel
theorem dX13_isTaughtBy_31 : decode cX13_isTaughtBy 31 = .ok (.ireturn, 1) := by decide +kernel
theorem bX13_isTaughtBy_0 {d : Nat}  {v1 : Int32} {v2 : Int32} {I : Ii} {J : Jj} {K : KI}
    (h : GoI wM (d + 1) mX13_isTaughtBy 2 [(0, .ref (0)), (2, .int (v2)), (3, .int (v1))] [] I J K) :
    GoI wM (d + 1) mX13_isTaughtBy 0 [(0, .ref (0)), (1, .int (v1)), (2, .int (v2))] [] I J K :=
  (g_iload_n dX13_isTaughtBy_0 1 1 rfl rfl (g_istore_n dX13_isTaughtBy_1 rfl (by decide) rfl (g_sub [1, 3, 0] rfl h)))
theorem bX13_isTaughtBy_2 {d : Nat}  {v2 : Int32} {v3 : Int32} {I : Ii} {J : Jj} {K : KI}
    (h : ((v3 = ((-1))) → (((¬ v3 = v2) → (K (0) I J)) ∧ ((v3 = v2) → (K (1) I J)))) ∧ ((¬ v3 = ((-1))) → (((v3 = v2) → (K (1) I J)) ∧ ((¬ v3 = v2) → (CalI wM d mX13_masterOf [.ref (0), .int (v3)] I J (fun x6 I4 J5 => (GoI wM (d + 1) mX13_isTaughtBy 2 [(0, .ref (0)), (2, .int (v2)), (3, .int (x6))] [] I4 J5 K))))))) :
    GoI wM (d + 1) mX13_isTaughtBy 2 [(0, .ref (0)), (2, .int (v2)), (3, .int (v3))] [] I J K :=
  (g_iload_n dX13_isTaughtBy_2 2 3 rfl rfl (g_iconst dX13_isTaughtBy_3 kc_n1 (g_icmp_eq dX13_isTaughtBy_4 rfl (fun q1 => (g_iload_n dX13_isTaughtBy_21 2 3 rfl rfl (g_iload_n dX13_isTaughtBy_22 1 2 rfl rfl (g_icmp_ne dX13_isTaughtBy_23 rfl (fun q2 => (g_iconst dX13_isTaughtBy_30 kc_0 (g_zreturn dX13_isTaughtBy_31 rfl (narZ (by decide)) ⟨_, rfl, ((h.1 q1).1 q2)⟩))) (fun q2 => (g_iconst dX13_isTaughtBy_26 kc_1 (g_goto dX13_isTaughtBy_27 rfl (g_zreturn dX13_isTaughtBy_31 rfl (narZ (by decide)) ⟨_, rfl, ((h.1 q1).2 q2)⟩)))))))) (fun q1 => (g_iload_n dX13_isTaughtBy_7 2 3 rfl rfl (g_iload_n dX13_isTaughtBy_8 1 2 rfl rfl (g_icmp_eq dX13_isTaughtBy_9 rfl (fun q3 => (g_iload_n dX13_isTaughtBy_21 2 3 rfl rfl (g_iload_n dX13_isTaughtBy_22 1 2 rfl rfl (g_icmp_ne dX13_isTaughtBy_23 rfl (fun q => absurd q3 q) (fun _ => (g_iconst dX13_isTaughtBy_26 kc_1 (g_goto dX13_isTaughtBy_27 rfl (g_zreturn dX13_isTaughtBy_31 rfl (narZ (by decide)) ⟨_, rfl, ((h.2 q1).1 q3)⟩)))))))) (fun q3 => (g_aload_n dX13_isTaughtBy_12 0 0 rfl rfl (g_iload_n dX13_isTaughtBy_13 2 3 rfl rfl (g_callvI dX13_isTaughtBy_14 ml_X13_410 md_X13_masterOf mv_X13_masterOf obM_0 rfl rfl rfl (Nat.le_of_ble_eq_true rfl) (CalI.mono ((h.2 q1).2 q3) (fun x6 I4 J5 h7 => (g_istore_n dX13_isTaughtBy_17 rfl (by decide) rfl (g_goto dX13_isTaughtBy_18 rfl (g_sub [1, 2, 0] rfl h7))))))))))))))))
theorem dX13_yearsTill_0 : decode cX13_yearsTill 0 = .ok (.iconst 0, 1) := by decide +kernel
theorem dX13_yearsTill_1 : decode cX13_yearsTill 1 = .ok (.istore_n 2, 1) := by decide +kernel
theorem dX13_yearsTill_2 : decode cX13_yearsTill 2 = .ok (.aload_n 0, 1) := by decide +kernel
theorem dX13_yearsTill_3 : decode cX13_yearsTill 3 = .ok (.iload_n 1, 1) := by decide +kernel
theorem dX13_yearsTill_4 : decode cX13_yearsTill 4 = .ok (.invokevirtual 447, 3) := by decide +kernel
theorem dX13_yearsTill_7 : decode cX13_yearsTill 7 = .ok (.ifCond .ne 44, 3) := by decide +kernel
theorem dX13_yearsTill_10 : decode cX13_yearsTill 10 = .ok (.iload_n 2, 1) := by decide +kernel
theorem dX13_yearsTill_11 : decode cX13_yearsTill 11 = .ok (.bipush 40, 2) := by decide +kernel
theorem dX13_yearsTill_13 : decode cX13_yearsTill 13 = .ok (.if_icmp .gt 38, 3) := by decide +kernel
theorem dX13_yearsTill_16 : decode cX13_yearsTill 16 = .ok (.iload_n 2, 1) := by decide +kernel
theorem dX13_yearsTill_17 : decode cX13_yearsTill 17 = .ok (.bipush 40, 2) := by decide +kernel
theorem dX13_yearsTill_19 : decode cX13_yearsTill 19 = .ok (.if_icmp .ge 26, 3) := by decide +kernel
theorem dX13_yearsTill_22 : decode cX13_yearsTill 22 = .ok (.aload_n 0, 1) := by decide +kernel
theorem dX13_yearsTill_23 : decode cX13_yearsTill 23 = .ok (.getfield 139, 3) := by decide +kernel
theorem dX13_yearsTill_26 : decode cX13_yearsTill 26 = .ok (.iconst 0, 1) := by decide +kernel
theorem dX13_yearsTill_27 : decode cX13_yearsTill 27 = .ok (.iaload, 1) := by decide +kernel
theorem dX13_yearsTill_28 : decode cX13_yearsTill 28 = .ok (.sipush 999, 3) := by decide +kernel
theorem dX13_yearsTill_31 : decode cX13_yearsTill 31 = .ok (.if_icmp .ge 14, 3) := by decide +kernel
theorem dX13_yearsTill_34 : decode cX13_yearsTill 34 = .ok (.aload_n 0, 1) := by decide +kernel
theorem dX13_yearsTill_35 : decode cX13_yearsTill 35 = .ok (.iconst 0, 1) := by decide +kernel
theorem dX13_yearsTill_36 : decode cX13_yearsTill 36 = .ok (.invokevirtual 477, 3) := by decide +kernel
theorem dX13_yearsTill_39 : decode cX13_yearsTill 39 = .ok (.iinc 2 1, 3) := by decide +kernel
theorem dX13_yearsTill_42 : decode cX13_yearsTill 42 = .ok (.goto (-40), 3) := by decide +kernel
theorem dX13_yearsTill_45 : decode cX13_yearsTill 45 = .ok (.bipush 41, 2) := by decide +kernel
theorem dX13_yearsTill_47 : decode cX13_yearsTill 47 = .ok (.istore_n 2, 1) := by decide +kernel
theorem dX13_yearsTill_48 : decode cX13_yearsTill 48 = .ok (.goto (-46), 3) := by decide +kernel
theorem dX13_yearsTill_51 : decode cX13_yearsTill 51 = .ok (.iload_n 2, 1) := by decide +kernel
theorem dX13_yearsTill_52 : decode cX13_yearsTill 52 = .ok (.ireturn, 1) := by decide +kernel
theorem bX13_yearsTill_0 {d : Nat}  {v1 : Int32} {I : Ii} {J : Jj} {K : KI}
    (h : GoI wM (d + 1) mX13_yearsTill 2 [(0, .ref (0)), (1, .int (v1)), (2, .int (0))] [] I J K) :
    GoI wM (d + 1) mX13_yearsTill 0 [(0, .ref (0)), (1, .int (v1))] [] I J K :=
  (g_iconst dX13_yearsTill_0 kc_0 (g_istore_n dX13_yearsTill_1 rfl (by decide) rfl (g_sub [1, 2, 0] rfl h)))
theorem bX13_yearsTill_2 {d : Nat}  {v1 : Int32} {v2 : Int32} {I : Ii} {J : Jj} {K : KI}
    (h : CalI wM d mX13_hasPassed [.ref (0), .int (v1)] I J (fun x3 I1 J2 => (((¬ x3 = 0) → (K (v2) I1 J2)) ∧ ((x3 = 0) → (((40 < v2) → (K (v2) I1 J2)) ∧ ((¬ 40 < v2) → (((40 ≤ v2) → (GoI wM (d + 1) mX13_yearsTill 2 [(0, .ref (0)), (1, .int (v1)), (2, .int (41))] [] I1 J2 K)) ∧ ((¬ 40 ≤ v2) → (((999 ≤ (I1 42 (0 : Int32).toNatClampNeg)) → (GoI wM (d + 1) mX13_yearsTill 2 [(0, .ref (0)), (1, .int (v1)), (2, .int (41))] [] I1 J2 K)) ∧ ((¬ 999 ≤ (I1 42 (0 : Int32).toNatClampNeg)) → (CalV wM d mX13_yearGoes [.ref (0), .int (0)] I1 J2 (fun I9 J10 => (GoI wM (d + 1) mX13_yearsTill 2 [(0, .ref (0)), (1, .int (v1)), (2, .int (v2 + 1))] [] I9 J10 K))))))))))))) :
    GoI wM (d + 1) mX13_yearsTill 2 [(0, .ref (0)), (1, .int (v1)), (2, .int (v2))] [] I J K :=
  (g_aload_n dX13_yearsTill_2 0 0 rfl rfl (g_iload_n dX13_yearsTill_3 1 1 rfl rfl (g_callvI dX13_yearsTill_4 ml_X13_447 md_X13_hasPassed mv_X13_hasPassed obM_0 rfl rfl rfl (Nat.le_of_ble_eq_true rfl) (CalI.mono h (fun x3 I1 J2 h12 => (g_if_ne dX13_yearsTill_7 rfl (fun q4 => (g_iload_n dX13_yearsTill_51 2 2 rfl rfl (g_ireturn dX13_yearsTill_52 rfl ⟨_, rfl, (h12.1 q4)⟩))) (fun q4 => (g_iload_n dX13_yearsTill_10 2 2 rfl rfl (g_bipush dX13_yearsTill_11 kb_40 (g_icmp_gt dX13_yearsTill_13 rfl (fun q5 => (g_iload_n dX13_yearsTill_51 2 2 rfl rfl (g_ireturn dX13_yearsTill_52 rfl ⟨_, rfl, ((h12.2 q4).1 q5)⟩))) (fun q5 => (g_iload_n dX13_yearsTill_16 2 2 rfl rfl (g_bipush dX13_yearsTill_17 kb_40 (g_icmp_ge dX13_yearsTill_19 rfl (fun q6 => (g_bipush dX13_yearsTill_45 kb_41 (g_istore_n dX13_yearsTill_47 rfl (by decide) rfl (g_goto dX13_yearsTill_48 rfl (g_sub [1, 2, 0] rfl (((h12.2 q4).2 q5).1 q6)))))) (fun q6 => (g_aload_n dX13_yearsTill_22 0 0 rfl rfl (g_getP dX13_yearsTill_23 fl_X13_139 rfl obM_0 rfl (g_iconst dX13_yearsTill_26 kc_0 (g_iald dX13_yearsTill_27 arM_42 (by unfold vp_in; decide) (g_sipush dX13_yearsTill_28 ks_999 (g_icmp_ge dX13_yearsTill_31 rfl (fun q8 => (g_bipush dX13_yearsTill_45 kb_41 (g_istore_n dX13_yearsTill_47 rfl (by decide) rfl (g_goto dX13_yearsTill_48 rfl (g_sub [1, 2, 0] rfl ((((h12.2 q4).2 q5).2 q6).1 q8)))))) (fun q8 => (g_aload_n dX13_yearsTill_34 0 0 rfl rfl (g_iconst dX13_yearsTill_35 kc_0 (g_callvV dX13_yearsTill_36 ml_X13_477 md_X13_yearGoes mv_X13_yearGoes obM_0 rfl rfl rfl (Nat.le_of_ble_eq_true rfl) (CalV.mono ((((h12.2 q4).2 q5).2 q6).2 q8) (fun I9 J10 h11 => (g_iinc dX13_yearsTill_39 2 rfl rfl (by decide) rfl (g_goto dX13_yearsTill_42 rfl (g_sub [1, 2, 0] rfl h11))))))))))))))))))))))))))))))
theorem dX13_gift_0 : decode cX13_gift 0 = .ok (.aload_n 0, 1) := by decide +kernel
theorem dX13_gift_1 : decode cX13_gift 1 = .ok (.iload_n 1, 1) := by decide +kernel
theorem dX13_gift_2 : decode cX13_gift 2 = .ok (.invokevirtual 504, 3) := by decide +kernel
theorem dX13_gift_5 : decode cX13_gift 5 = .ok (.ifCond .eq 24, 3) := by decide +kernel
theorem dX13_gift_8 : decode cX13_gift 8 = .ok (.aload_n 0, 1) := by decide +kernel
theorem dX13_gift_9 : decode cX13_gift 9 = .ok (.iload_n 2, 1) := by decide +kernel
theorem dX13_gift_10 : decode cX13_gift 10 = .ok (.iconst 0, 1) := by decide +kernel
theorem dX13_gift_11 : decode cX13_gift 11 = .ok (.bipush 20, 2) := by decide +kernel
theorem dX13_gift_13 : decode cX13_gift 13 = .ok (.invokevirtual 514, 3) := by decide +kernel
theorem dX13_gift_16 : decode cX13_gift 16 = .ok (.ifCond .eq 13, 3) := by decide +kernel
theorem dX13_gift_19 : decode cX13_gift 19 = .ok (.iload_n 3, 1) := by decide +kernel
theorem dX13_gift_20 : decode cX13_gift 20 = .ok (.i2l, 1) := by decide +kernel
theorem dX13_gift_21 : decode cX13_gift 21 = .ok (.lconst 0, 1) := by decide +kernel
theorem dX13_gift_22 : decode cX13_gift 22 = .ok (.lconst 1, 1) := by decide +kernel
theorem dX13_gift_23 : decode cX13_gift 23 = .ok (.invokestatic 297, 3) := by decide +kernel
theorem dX13_gift_26 : decode cX13_gift 26 = .ok (.ifCond .ne 5, 3) := by decide +kernel
theorem dX13_gift_29 : decode cX13_gift 29 = .ok (.iconst (-1), 1) := by decide +kernel
theorem dX13_gift_30 : decode cX13_gift 30 = .ok (.ireturn, 1) := by decide +kernel
theorem dX13_gift_31 : decode cX13_gift 31 = .ok (.iconst (-1), 1) := by decide +kernel
theorem dX13_gift_32 : decode cX13_gift 32 = .ok (.istore 4, 2) := by decide +kernel
theorem dX13_gift_34 : decode cX13_gift 34 = .ok (.iconst (-1), 1) := by decide +kernel
theorem dX13_gift_35 : decode cX13_gift 35 = .ok (.istore 5, 2) := by decide +kernel
theorem dX13_gift_37 : decode cX13_gift 37 = .ok (.aload_n 0, 1) := by decide +kernel
theorem dX13_gift_38 : decode cX13_gift 38 = .ok (.invokevirtual 519, 3) := by decide +kernel
theorem dX13_gift_41 : decode cX13_gift 41 = .ok (.aload_n 0, 1) := by decide +kernel
theorem dX13_gift_42 : decode cX13_gift 42 = .ok (.iload_n 1, 1) := by decide +kernel
theorem dX13_gift_43 : decode cX13_gift 43 = .ok (.iload_n 2, 1) := by decide +kernel
theorem dX13_gift_44 : decode cX13_gift 44 = .ok (.invokevirtual 535, 3) := by decide +kernel
theorem dX13_gift_47 : decode cX13_gift 47 = .ok (.istore 6, 2) := by decide +kernel
theorem dX13_gift_49 : decode cX13_gift 49 = .ok (.iconst 0, 1) := by decide +kernel
theorem dX13_gift_50 : decode cX13_gift 50 = .ok (.istore 7, 2) := by decide +kernel
theorem dX13_gift_52 : decode cX13_gift 52 = .ok (.iload 7, 2) := by decide +kernel
theorem dX13_gift_54 : decode cX13_gift 54 = .ok (.aload_n 0, 1) := by decide +kernel
theorem dX13_gift_55 : decode cX13_gift 55 = .ok (.invokevirtual 401, 3) := by decide +kernel
theorem dX13_gift_58 : decode cX13_gift 58 = .ok (.if_icmp .ge 105, 3) := by decide +kernel
theorem dX13_gift_61 : decode cX13_gift 61 = .ok (.iload 6, 2) := by decide +kernel
theorem dX13_gift_63 : decode cX13_gift 63 = .ok (.ifCond .ne 100, 3) := by decide +kernel
theorem dX13_gift_66 : decode cX13_gift 66 = .ok (.iconst 0, 1) := by decide +kernel
theorem dX13_gift_67 : decode cX13_gift 67 = .ok (.istore 8, 2) := by decide +kernel
theorem dX13_gift_69 : decode cX13_gift 69 = .ok (.iload 8, 2) := by decide +kernel
theorem dX13_gift_71 : decode cX13_gift 71 = .ok (.aload_n 0, 1) := by decide +kernel
theorem dX13_gift_72 : decode cX13_gift 72 = .ok (.invokevirtual 398, 3) := by decide +kernel
theorem dX13_gift_75 : decode cX13_gift 75 = .ok (.if_icmp .ge 82, 3) := by decide +kernel
theorem dX13_gift_78 : decode cX13_gift 78 = .ok (.aload_n 0, 1) := by decide +kernel
theorem dX13_gift_79 : decode cX13_gift 79 = .ok (.iload 7, 2) := by decide +kernel
theorem dX13_gift_81 : decode cX13_gift 81 = .ok (.iload 8, 2) := by decide +kernel
theorem dX13_gift_83 : decode cX13_gift 83 = .ok (.invokevirtual 430, 3) := by decide +kernel
theorem dX13_gift_86 : decode cX13_gift 86 = .ok (.iconst 1, 1) := by decide +kernel
theorem dX13_gift_87 : decode cX13_gift 87 = .ok (.if_icmp .eq 64, 3) := by decide +kernel
theorem dX13_gift_90 : decode cX13_gift 90 = .ok (.iload 4, 2) := by decide +kernel
theorem dX13_gift_92 : decode cX13_gift 92 = .ok (.iconst (-1), 1) := by decide +kernel
theorem dX13_gift_93 : decode cX13_gift 93 = .ok (.if_icmp .eq 29, 3) := by decide +kernel
theorem dX13_gift_96 : decode cX13_gift 96 = .ok (.aload_n 0, 1) := by decide +kernel
theorem dX13_gift_97 : decode cX13_gift 97 = .ok (.getfield 112, 3) := by decide +kernel
theorem dX13_gift_100 : decode cX13_gift 100 = .ok (.bipush 8, 2) := by decide +kernel
theorem dX13_gift_102 : decode cX13_gift 102 = .ok (.iload 8, 2) := by decide +kernel
theorem dX13_gift_104 : decode cX13_gift 104 = .ok (.iadd, 1) := by decide +kernel
theorem dX13_gift_105 : decode cX13_gift 105 = .ok (.iaload, 1) := by decide +kernel
theorem dX13_gift_106 : decode cX13_gift 106 = .ok (.aload_n 0, 1) := by decide +kernel
theorem dX13_gift_107 : decode cX13_gift 107 = .ok (.getfield 112, 3) := by decide +kernel
theorem dX13_gift_110 : decode cX13_gift 110 = .ok (.bipush 8, 2) := by decide +kernel
theorem dX13_gift_112 : decode cX13_gift 112 = .ok (.iload 5, 2) := by decide +kernel
theorem dX13_gift_114 : decode cX13_gift 114 = .ok (.iadd, 1) := by decide +kernel
theorem dX13_gift_115 : decode cX13_gift 115 = .ok (.iaload, 1) := by decide +kernel
theorem dX13_gift_116 : decode cX13_gift 116 = .ok (.if_icmp .lt 6, 3) := by decide +kernel
theorem dX13_gift_119 : decode cX13_gift 119 = .ok (.goto 32, 3) := by decide +kernel
theorem dX13_gift_122 : decode cX13_gift 122 = .ok (.aload_n 0, 1) := by decide +kernel
theorem dX13_gift_123 : decode cX13_gift 123 = .ok (.iload 7, 2) := by decide +kernel
theorem dX13_gift_125 : decode cX13_gift 125 = .ok (.iload 8, 2) := by decide +kernel
theorem dX13_gift_127 : decode cX13_gift 127 = .ok (.iconst 1, 1) := by decide +kernel
theorem dX13_gift_128 : decode cX13_gift 128 = .ok (.invokevirtual 439, 3) := by decide +kernel
theorem dX13_gift_131 : decode cX13_gift 131 = .ok (.aload_n 0, 1) := by decide +kernel
theorem dX13_gift_132 : decode cX13_gift 132 = .ok (.iload_n 1, 1) := by decide +kernel
theorem dX13_gift_133 : decode cX13_gift 133 = .ok (.iload_n 2, 1) := by decide +kernel
theorem dX13_gift_134 : decode cX13_gift 134 = .ok (.invokevirtual 535, 3) := by decide +kernel
theorem dX13_gift_137 : decode cX13_gift 137 = .ok (.ifCond .ne 6, 3) := by decide +kernel
theorem dX13_gift_140 : decode cX13_gift 140 = .ok (.goto 11, 3) := by decide +kernel
theorem dX13_gift_143 : decode cX13_gift 143 = .ok (.iload 7, 2) := by decide +kernel
theorem dX13_gift_145 : decode cX13_gift 145 = .ok (.istore 4, 2) := by decide +kernel
theorem dX13_gift_147 : decode cX13_gift 147 = .ok (.iload 8, 2) := by decide +kernel
theorem dX13_gift_149 : decode cX13_gift 149 = .ok (.istore 5, 2) := by decide +kernel
theorem dX13_gift_151 : decode cX13_gift 151 = .ok (.iinc 8 1, 3) := by decide +kernel
theorem dX13_gift_154 : decode cX13_gift 154 = .ok (.goto (-85), 3) := by decide +kernel
theorem dX13_gift_157 : decode cX13_gift 157 = .ok (.iinc 7 1, 3) := by decide +kernel
theorem dX13_gift_160 : decode cX13_gift 160 = .ok (.goto (-108), 3) := by decide +kernel
theorem dX13_gift_163 : decode cX13_gift 163 = .ok (.aload_n 0, 1) := by decide +kernel
theorem dX13_gift_164 : decode cX13_gift 164 = .ok (.invokevirtual 525, 3) := by decide +kernel
theorem dX13_gift_167 : decode cX13_gift 167 = .ok (.iload 4, 2) := by decide +kernel
theorem dX13_gift_169 : decode cX13_gift 169 = .ok (.iconst (-1), 1) := by decide +kernel
theorem dX13_gift_170 : decode cX13_gift 170 = .ok (.if_icmp .ne 7, 3) := by decide +kernel
theorem dX13_gift_173 : decode cX13_gift 173 = .ok (.iconst (-1), 1) := by decide +kernel
theorem dX13_gift_174 : decode cX13_gift 174 = .ok (.goto 14, 3) := by decide +kernel
theorem dX13_gift_177 : decode cX13_gift 177 = .ok (.iload_n 3, 1) := by decide +kernel
theorem dX13_gift_178 : decode cX13_gift 178 = .ok (.ifCond .ne 8, 3) := by decide +kernel
theorem dX13_gift_181 : decode cX13_gift 181 = .ok (.iload 4, 2) := by decide +kernel
theorem dX13_gift_183 : decode cX13_gift 183 = .ok (.goto 5, 3) := by decide +kernel
theorem dX13_gift_186 : decode cX13_gift 186 = .ok (.iload 5, 2) := by decide +kernel
theorem dX13_gift_188 : decode cX13_gift 188 = .ok (.ireturn, 1) := by decide +kernel
theorem bX13_gift_0 {d : Nat}  {v1 : Int32} {v2 : Int32} {v3 : Int32} {I : Ii} {J : Jj} {K : KI}
    (h : CalI wM d mX13_isPerson [.ref (0), .int (v1)] I J (fun x3 I1 J2 => (((x3 = 0) → (K ((-1)) I1 J2)) ∧ ((¬ x3 = 0) → (CalI wM d mX13_isAhead [.ref (0), .int (v2), .int (0), .int (20)] I1 J2 (fun x7 I5 J6 => (((x7 = 0) → (K ((-1)) I5 J6)) ∧ ((¬ x7 = 0) → (CalI wM d mX13_isIn [.long (v3.toInt64), .long (0), .long (1)] I5 J6 (fun x11 I9 J10 => (((¬ x11 = 0) → (CalV wM d mX13_putsAside [.ref (0)] I9 J10 (fun I13 J14 => (CalI wM d mX13_isDoctorBehind [.ref (0), .int (v1), .int (v2)] I13 J14 (fun x17 I15 J16 => (GoI wM (d + 1) mX13_gift 52 [(0, .ref (0)), (1, .int (v1)), (2, .int (v2)), (3, .int (v3)), (4, .int ((-1))), (5, .int ((-1))), (6, .int (x17)), (7, .int (0))] [] I15 J16 K)))))) ∧ ((x11 = 0) → (K ((-1)) I9 J10))))))))))))) :
    GoI wM (d + 1) mX13_gift 0 [(0, .ref (0)), (1, .int (v1)), (2, .int (v2)), (3, .int (v3))] [] I J K :=
  (g_aload_n dX13_gift_0 0 0 rfl rfl (g_iload_n dX13_gift_1 1 1 rfl rfl (g_callvI dX13_gift_2 ml_X13_504 md_X13_isPerson mv_X13_isPerson obM_0 rfl rfl rfl (Nat.le_of_ble_eq_true rfl) (CalI.mono h (fun x3 I1 J2 h22 => (g_if_eq dX13_gift_5 rfl (fun q4 => (g_iconst dX13_gift_29 kc_n1 (g_ireturn dX13_gift_30 rfl ⟨_, rfl, (h22.1 q4)⟩))) (fun q4 => (g_aload_n dX13_gift_8 0 0 rfl rfl (g_iload_n dX13_gift_9 2 2 rfl rfl (g_iconst dX13_gift_10 kc_0 (g_bipush dX13_gift_11 kb_20 (g_callvI dX13_gift_13 ml_X13_514 md_X13_isAhead mv_X13_isAhead obM_0 rfl rfl rfl (Nat.le_of_ble_eq_true rfl) (CalI.mono (h22.2 q4) (fun x7 I5 J6 h21 => (g_if_eq dX13_gift_16 rfl (fun q8 => (g_iconst dX13_gift_29 kc_n1 (g_ireturn dX13_gift_30 rfl ⟨_, rfl, (h21.1 q8)⟩))) (fun q8 => (g_iload_n dX13_gift_19 3 3 rfl rfl (g_i2l dX13_gift_20 (g_lconst dX13_gift_21 kq_0 (g_lconst dX13_gift_22 kq_1 (g_callsI dX13_gift_23 ml_X13_297 md_X13_isIn ms_X13_isIn rfl rfl (Nat.le_of_ble_eq_true rfl) (CalI.mono (h21.2 q8) (fun x11 I9 J10 h20 => (g_if_ne dX13_gift_26 rfl (fun q12 => (g_iconst dX13_gift_31 kc_n1 (g_istore dX13_gift_32 (by decide) rfl (g_iconst dX13_gift_34 kc_n1 (g_istore dX13_gift_35 (by decide) rfl (g_aload_n dX13_gift_37 2 0 rfl rfl (g_callvV dX13_gift_38 ml_X13_519 md_X13_putsAside mv_X13_putsAside obM_0 rfl rfl rfl (Nat.le_of_ble_eq_true rfl) (CalV.mono (h20.1 q12) (fun I13 J14 h19 => (g_aload_n dX13_gift_41 2 0 rfl rfl (g_iload_n dX13_gift_42 3 1 rfl rfl (g_iload_n dX13_gift_43 4 2 rfl rfl (g_callvI dX13_gift_44 ml_X13_535 md_X13_isDoctorBehind mv_X13_isDoctorBehind obM_0 rfl rfl rfl (Nat.le_of_ble_eq_true rfl) (CalI.mono h19 (fun x17 I15 J16 h18 => (g_istore dX13_gift_47 (by decide) rfl (g_iconst dX13_gift_49 kc_0 (g_istore dX13_gift_50 (by decide) rfl (g_sub [4, 5, 6, 7, 3, 2, 1, 0] rfl h18))))))))))))))))))) (fun q12 => (g_iconst dX13_gift_29 kc_n1 (g_ireturn dX13_gift_30 rfl ⟨_, rfl, (h20.2 q12)⟩)))))))))))))))))))))))))))
theorem bX13_gift_52 {d : Nat}  {v1 : Int32} {v2 : Int32} {v3 : Int32} {v4 : Int32} {v5 : Int32} {v6 : Int32} {v7 : Int32} {I : Ii} {J : Jj} {K : KI}
    (h : CalI wM d mX13_personMany [.ref (0)] I J (fun x3 I1 J2 => (((x3 ≤ v7) → (CalV wM d mX13_takesBack [.ref (0)] I1 J2 (fun I5 J6 => (((¬ v4 = ((-1))) → (((¬ v3 = 0) → (K (v5) I5 J6)) ∧ ((v3 = 0) → (K (v4) I5 J6)))) ∧ ((v4 = ((-1))) → (K ((-1)) I5 J6)))))) ∧ ((¬ x3 ≤ v7) → (((¬ v6 = 0) → (CalV wM d mX13_takesBack [.ref (0)] I1 J2 (fun I11 J12 => (((¬ v4 = ((-1))) → (((¬ v3 = 0) → (K (v5) I11 J12)) ∧ ((v3 = 0) → (K (v4) I11 J12)))) ∧ ((v4 = ((-1))) → (K ((-1)) I11 J12)))))) ∧ ((v6 = 0) → (GoI wM (d + 1) mX13_gift 69 [(0, .ref (0)), (1, .int (v1)), (2, .int (v2)), (3, .int (v3)), (4, .int (v4)), (5, .int (v5)), (6, .int (v6)), (7, .int (v7)), (8, .int (0))] [] I1 J2 K))))))) :
    GoI wM (d + 1) mX13_gift 52 [(0, .ref (0)), (1, .int (v1)), (2, .int (v2)), (3, .int (v3)), (4, .int (v4)), (5, .int (v5)), (6, .int (v6)), (7, .int (v7))] [] I J K :=
  (g_iload dX13_gift_52 7 rfl (g_aload_n dX13_gift_54 0 0 rfl rfl (g_callvI dX13_gift_55 ml_X13_401 md_X13_personMany mv_X13_personMany obM_0 rfl rfl rfl (Nat.le_of_ble_eq_true rfl) (CalI.mono h (fun x3 I1 J2 h16 => (g_icmp_ge dX13_gift_58 rfl (fun q4 => (g_aload_n dX13_gift_163 0 0 rfl rfl (g_callvV dX13_gift_164 ml_X13_525 md_X13_takesBack mv_X13_takesBack obM_0 rfl rfl rfl (Nat.le_of_ble_eq_true rfl) (CalV.mono (h16.1 q4) (fun I5 J6 h9 => (g_iload dX13_gift_167 4 rfl (g_iconst dX13_gift_169 kc_n1 (g_icmp_ne dX13_gift_170 rfl (fun q7 => (g_iload_n dX13_gift_177 3 3 rfl rfl (g_if_ne dX13_gift_178 rfl (fun q8 => (g_iload dX13_gift_186 5 rfl (g_ireturn dX13_gift_188 rfl ⟨_, rfl, ((h9.1 q7).1 q8)⟩))) (fun q8 => (g_iload dX13_gift_181 4 rfl (g_goto dX13_gift_183 rfl (g_ireturn dX13_gift_188 rfl ⟨_, rfl, ((h9.1 q7).2 q8)⟩))))))) (fun q7 => (g_iconst dX13_gift_173 kc_n1 (g_goto dX13_gift_174 rfl (g_ireturn dX13_gift_188 rfl ⟨_, rfl, (h9.2 q7)⟩)))))))))))) (fun q4 => (g_iload dX13_gift_61 6 rfl (g_if_ne dX13_gift_63 rfl (fun q10 => (g_aload_n dX13_gift_163 0 0 rfl rfl (g_callvV dX13_gift_164 ml_X13_525 md_X13_takesBack mv_X13_takesBack obM_0 rfl rfl rfl (Nat.le_of_ble_eq_true rfl) (CalV.mono ((h16.2 q4).1 q10) (fun I11 J12 h15 => (g_iload dX13_gift_167 4 rfl (g_iconst dX13_gift_169 kc_n1 (g_icmp_ne dX13_gift_170 rfl (fun q13 => (g_iload_n dX13_gift_177 3 3 rfl rfl (g_if_ne dX13_gift_178 rfl (fun q14 => (g_iload dX13_gift_186 5 rfl (g_ireturn dX13_gift_188 rfl ⟨_, rfl, ((h15.1 q13).1 q14)⟩))) (fun q14 => (g_iload dX13_gift_181 4 rfl (g_goto dX13_gift_183 rfl (g_ireturn dX13_gift_188 rfl ⟨_, rfl, ((h15.1 q13).2 q14)⟩))))))) (fun q13 => (g_iconst dX13_gift_173 kc_n1 (g_goto dX13_gift_174 rfl (g_ireturn dX13_gift_188 rfl ⟨_, rfl, (h15.2 q13)⟩)))))))))))) (fun q10 => (g_iconst dX13_gift_66 kc_0 (g_istore dX13_gift_67 (by decide) rfl (g_sub [1, 2, 3, 4, 5, 6, 7, 8, 0] rfl ((h16.2 q4).2 q10))))))))))))))
theorem bX13_gift_69 {d : Nat}  {v1 : Int32} {v2 : Int32} {v3 : Int32} {v4 : Int32} {v5 : Int32} {v6 : Int32} {v7 : Int32} {v8 : Int32} {I : Ii} {J : Jj} {K : KI}
    (h : CalI wM d mX13_factMany [.ref (0)] I J (fun x3 I1 J2 => (((x3 ≤ v8) → (GoI wM (d + 1) mX13_gift 52 [(0, .ref (0)), (1, .int (v1)), (2, .int (v2)), (3, .int (v3)), (4, .int (v4)), (5, .int (v5)), (6, .int (v6)), (7, .int (v7 + 1))] [] I1 J2 K)) ∧ ((¬ x3 ≤ v8) → (CalI wM d mX13_isOf [.ref (0), .int (v7), .int (v8)] I1 J2 (fun x7 I5 J6 => (((x7 = 1) → (GoI wM (d + 1) mX13_gift 69 [(0, .ref (0)), (1, .int (v1)), (2, .int (v2)), (3, .int (v3)), (4, .int (v4)), (5, .int (v5)), (6, .int (v6)), (7, .int (v7)), (8, .int (v8 + 1))] [] I5 J6 K)) ∧ ((¬ x7 = 1) → (((v4 = ((-1))) → (CalV wM d mX13_makes [.ref (0), .int (v7), .int (v8), .int (1)] I5 J6 (fun I10 J11 => (CalI wM d mX13_isDoctorBehind [.ref (0), .int (v1), .int (v2)] I10 J11 (fun x14 I12 J13 => (((¬ x14 = 0) → (GoI wM (d + 1) mX13_gift 69 [(0, .ref (0)), (1, .int (v1)), (2, .int (v2)), (3, .int (v3)), (4, .int (v7)), (5, .int (v8)), (6, .int (v6)), (7, .int (v7)), (8, .int (v8 + 1))] [] I12 J13 K)) ∧ ((x14 = 0) → (GoI wM (d + 1) mX13_gift 69 [(0, .ref (0)), (1, .int (v1)), (2, .int (v2)), (3, .int (v3)), (4, .int (v4)), (5, .int (v5)), (6, .int (v6)), (7, .int (v7)), (8, .int (v8 + 1))] [] I12 J13 K)))))))) ∧ ((¬ v4 = ((-1))) → (vp_in (8 + v8) 16 ∧ (vp_in (8 + v5) 16 ∧ ((((I5 33 (8 + v8).toNatClampNeg) < (I5 33 (8 + v5).toNatClampNeg)) → (CalV wM d mX13_makes [.ref (0), .int (v7), .int (v8), .int (1)] I5 J6 (fun I21 J22 => (CalI wM d mX13_isDoctorBehind [.ref (0), .int (v1), .int (v2)] I21 J22 (fun x25 I23 J24 => (((¬ x25 = 0) → (GoI wM (d + 1) mX13_gift 69 [(0, .ref (0)), (1, .int (v1)), (2, .int (v2)), (3, .int (v3)), (4, .int (v7)), (5, .int (v8)), (6, .int (v6)), (7, .int (v7)), (8, .int (v8 + 1))] [] I23 J24 K)) ∧ ((x25 = 0) → (GoI wM (d + 1) mX13_gift 69 [(0, .ref (0)), (1, .int (v1)), (2, .int (v2)), (3, .int (v3)), (4, .int (v4)), (5, .int (v5)), (6, .int (v6)), (7, .int (v7)), (8, .int (v8 + 1))] [] I23 J24 K)))))))) ∧ ((¬ (I5 33 (8 + v8).toNatClampNeg) < (I5 33 (8 + v5).toNatClampNeg)) → (GoI wM (d + 1) mX13_gift 69 [(0, .ref (0)), (1, .int (v1)), (2, .int (v2)), (3, .int (v3)), (4, .int (v4)), (5, .int (v5)), (6, .int (v6)), (7, .int (v7)), (8, .int (v8 + 1))] [] I5 J6 K))))))))))))))) :
    GoI wM (d + 1) mX13_gift 69 [(0, .ref (0)), (1, .int (v1)), (2, .int (v2)), (3, .int (v3)), (4, .int (v4)), (5, .int (v5)), (6, .int (v6)), (7, .int (v7)), (8, .int (v8))] [] I J K :=
  (g_iload dX13_gift_69 8 rfl (g_aload_n dX13_gift_71 0 0 rfl rfl (g_callvI dX13_gift_72 ml_X13_398 md_X13_factMany mv_X13_factMany obM_0 rfl rfl rfl (Nat.le_of_ble_eq_true rfl) (CalI.mono h (fun x3 I1 J2 h30 => (g_icmp_ge dX13_gift_75 rfl (fun q4 => (g_iinc dX13_gift_157 7 rfl rfl (by decide) rfl (g_goto dX13_gift_160 rfl (g_sub [1, 2, 3, 4, 5, 6, 7, 0] rfl (h30.1 q4))))) (fun q4 => (g_aload_n dX13_gift_78 0 0 rfl rfl (g_iload dX13_gift_79 7 rfl (g_iload dX13_gift_81 8 rfl (g_callvI dX13_gift_83 ml_X13_430 md_X13_isOf mv_X13_isOf obM_0 rfl rfl rfl (Nat.le_of_ble_eq_true rfl) (CalI.mono (h30.2 q4) (fun x7 I5 J6 h29 => (g_iconst dX13_gift_86 kc_1 (g_icmp_eq dX13_gift_87 rfl (fun q8 => (g_iinc dX13_gift_151 8 rfl rfl (by decide) rfl (g_goto dX13_gift_154 rfl (g_sub [1, 2, 3, 4, 5, 6, 7, 8, 0] rfl (h29.1 q8))))) (fun q8 => (g_iload dX13_gift_90 4 rfl (g_iconst dX13_gift_92 kc_n1 (g_icmp_eq dX13_gift_93 rfl (fun q9 => (g_aload_n dX13_gift_122 0 0 rfl rfl (g_iload dX13_gift_123 7 rfl (g_iload dX13_gift_125 8 rfl (g_iconst dX13_gift_127 kc_1 (g_callvV dX13_gift_128 ml_X13_439 md_X13_makes mv_X13_makes obM_0 rfl rfl rfl (Nat.le_of_ble_eq_true rfl) (CalV.mono ((h29.2 q8).1 q9) (fun I10 J11 h17 => (g_aload_n dX13_gift_131 0 0 rfl rfl (g_iload_n dX13_gift_132 1 1 rfl rfl (g_iload_n dX13_gift_133 2 2 rfl rfl (g_callvI dX13_gift_134 ml_X13_535 md_X13_isDoctorBehind mv_X13_isDoctorBehind obM_0 rfl rfl rfl (Nat.le_of_ble_eq_true rfl) (CalI.mono h17 (fun x14 I12 J13 h16 => (g_if_ne dX13_gift_137 rfl (fun q15 => (g_iload dX13_gift_143 7 rfl (g_istore dX13_gift_145 (by decide) rfl (g_iload dX13_gift_147 8 rfl (g_istore dX13_gift_149 (by decide) rfl (g_iinc dX13_gift_151 8 rfl rfl (by decide) rfl (g_goto dX13_gift_154 rfl (g_sub [3, 4, 5, 6, 2, 1, 7, 8, 0] rfl (h16.1 q15))))))))) (fun q15 => (g_goto dX13_gift_140 rfl (g_iinc dX13_gift_151 8 rfl rfl (by decide) rfl (g_goto dX13_gift_154 rfl (g_sub [1, 2, 3, 4, 5, 6, 7, 8, 0] rfl (h16.2 q15))))))))))))))))))))) (fun q9 => (g_aload_n dX13_gift_96 0 0 rfl rfl (g_getP dX13_gift_97 fl_X13_112 rfl obM_0 rfl (g_bipush dX13_gift_100 kb_8 (g_iload dX13_gift_102 8 rfl (g_iadd dX13_gift_104 (have b18 := ((h29.2 q8).2 q9).1; g_iald dX13_gift_105 arM_33 b18 (g_aload_n dX13_gift_106 0 0 rfl rfl (g_getP dX13_gift_107 fl_X13_112 rfl obM_0 rfl (g_bipush dX13_gift_110 kb_8 (g_iload dX13_gift_112 5 rfl (g_iadd dX13_gift_114 (have b19 := ((h29.2 q8).2 q9).2.1; g_iald dX13_gift_115 arM_33 b19 (g_icmp_lt dX13_gift_116 rfl (fun q20 => (g_aload_n dX13_gift_122 0 0 rfl rfl (g_iload dX13_gift_123 7 rfl (g_iload dX13_gift_125 8 rfl (g_iconst dX13_gift_127 kc_1 (g_callvV dX13_gift_128 ml_X13_439 md_X13_makes mv_X13_makes obM_0 rfl rfl rfl (Nat.le_of_ble_eq_true rfl) (CalV.mono (((h29.2 q8).2 q9).2.2.1 q20) (fun I21 J22 h28 => (g_aload_n dX13_gift_131 0 0 rfl rfl (g_iload_n dX13_gift_132 1 1 rfl rfl (g_iload_n dX13_gift_133 2 2 rfl rfl (g_callvI dX13_gift_134 ml_X13_535 md_X13_isDoctorBehind mv_X13_isDoctorBehind obM_0 rfl rfl rfl (Nat.le_of_ble_eq_true rfl) (CalI.mono h28 (fun x25 I23 J24 h27 => (g_if_ne dX13_gift_137 rfl (fun q26 => (g_iload dX13_gift_143 7 rfl (g_istore dX13_gift_145 (by decide) rfl (g_iload dX13_gift_147 8 rfl (g_istore dX13_gift_149 (by decide) rfl (g_iinc dX13_gift_151 8 rfl rfl (by decide) rfl (g_goto dX13_gift_154 rfl (g_sub [3, 4, 5, 6, 2, 1, 7, 8, 0] rfl (h27.1 q26))))))))) (fun q26 => (g_goto dX13_gift_140 rfl (g_iinc dX13_gift_151 8 rfl rfl (by decide) rfl (g_goto dX13_gift_154 rfl (g_sub [1, 2, 3, 4, 5, 6, 7, 8, 0] rfl (h27.2 q26))))))))))))))))))))) (fun q20 => (g_goto dX13_gift_119 rfl (g_iinc dX13_gift_151 8 rfl rfl (by decide) rfl (g_goto dX13_gift_154 rfl (g_sub [1, 2, 3, 4, 5, 6, 7, 8, 0] rfl (((h29.2 q8).2 q9).2.2.2 q20)))))))))))))))))))))))))))))))))))))))
theorem dX13_isDoctorBehind_0 : decode cX13_isDoctorBehind 0 = .ok (.aload_n 0, 1) := by decide +kernel
theorem dX13_isDoctorBehind_1 : decode cX13_isDoctorBehind 1 = .ok (.iload_n 2, 1) := by decide +kernel
theorem dX13_isDoctorBehind_2 : decode cX13_isDoctorBehind 2 = .ok (.invokevirtual 522, 3) := by decide +kernel
theorem dX13_isDoctorBehind_5 : decode cX13_isDoctorBehind 5 = .ok (.aload_n 0, 1) := by decide +kernel
theorem dX13_isDoctorBehind_6 : decode cX13_isDoctorBehind 6 = .ok (.iload_n 1, 1) := by decide +kernel
theorem dX13_isDoctorBehind_7 : decode cX13_isDoctorBehind 7 = .ok (.invokevirtual 471, 3) := by decide +kernel
theorem dX13_isDoctorBehind_10 : decode cX13_isDoctorBehind 10 = .ok (.istore_n 3, 1) := by decide +kernel
theorem dX13_isDoctorBehind_11 : decode cX13_isDoctorBehind 11 = .ok (.aload_n 0, 1) := by decide +kernel
theorem dX13_isDoctorBehind_12 : decode cX13_isDoctorBehind 12 = .ok (.invokevirtual 480, 3) := by decide +kernel
theorem dX13_isDoctorBehind_15 : decode cX13_isDoctorBehind 15 = .ok (.iload_n 3, 1) := by decide +kernel
theorem dX13_isDoctorBehind_16 : decode cX13_isDoctorBehind 16 = .ok (.ireturn, 1) := by decide +kernel
theorem bX13_isDoctorBehind_0 {d : Nat}  {v1 : Int32} {v2 : Int32} {I : Ii} {J : Jj} {K : KI}
    (h : CalV wM d mX13_yearsGo [.ref (0), .int (v2)] I J (fun I1 J2 => (CalI wM d mX13_isDoctor [.ref (0), .int (v1)] I1 J2 (fun x5 I3 J4 => (CalV wM d mX13_triesAnew [.ref (0)] I3 J4 (fun I6 J7 => (((x5) = 0 ∨ (x5) = 1) ∧ K (x5) I6 J7))))))) :
    GoI wM (d + 1) mX13_isDoctorBehind 0 [(0, .ref (0)), (1, .int (v1)), (2, .int (v2))] [] I J K :=
  (g_aload_n dX13_isDoctorBehind_0 0 0 rfl rfl (g_iload_n dX13_isDoctorBehind_1 2 2 rfl rfl (g_callvV dX13_isDoctorBehind_2 ml_X13_522 md_X13_yearsGo mv_X13_yearsGo obM_0 rfl rfl rfl (Nat.le_of_ble_eq_true rfl) (CalV.mono h (fun I1 J2 h10 => (g_aload_n dX13_isDoctorBehind_5 0 0 rfl rfl (g_iload_n dX13_isDoctorBehind_6 1 1 rfl rfl (g_callvI dX13_isDoctorBehind_7 ml_X13_471 md_X13_isDoctor mv_X13_isDoctor obM_0 rfl rfl rfl (Nat.le_of_ble_eq_true rfl) (CalI.mono h10 (fun x5 I3 J4 h9 => (g_istore_n dX13_isDoctorBehind_10 rfl (by decide) rfl (g_aload_n dX13_isDoctorBehind_11 1 0 rfl rfl (g_callvV dX13_isDoctorBehind_12 ml_X13_480 md_X13_triesAnew mv_X13_triesAnew obM_0 rfl rfl rfl (Nat.le_of_ble_eq_true rfl) (CalV.mono h9 (fun I6 J7 h8 => (g_iload_n dX13_isDoctorBehind_15 0 3 rfl rfl (g_zreturn dX13_isDoctorBehind_16 rfl (narZ h8.1) ⟨_, rfl, h8.2⟩)))))))))))))))))
theorem dX13_law_0 : decode cX13_law 0 = .ok (.aload_n 0, 1) := by decide +kernel
theorem dX13_law_1 : decode cX13_law 1 = .ok (.iload_n 1, 1) := by decide +kernel
theorem dX13_law_2 : decode cX13_law 2 = .ok (.iconst 0, 1) := by decide +kernel
theorem dX13_law_3 : decode cX13_law 3 = .ok (.bipush 20, 2) := by decide +kernel
theorem dX13_law_5 : decode cX13_law 5 = .ok (.invokevirtual 514, 3) := by decide +kernel
theorem dX13_law_8 : decode cX13_law 8 = .ok (.ifCond .eq 13, 3) := by decide +kernel
theorem dX13_law_11 : decode cX13_law 11 = .ok (.iload_n 2, 1) := by decide +kernel
theorem dX13_law_12 : decode cX13_law 12 = .ok (.i2l, 1) := by decide +kernel
theorem dX13_law_13 : decode cX13_law 13 = .ok (.lconst 0, 1) := by decide +kernel
theorem dX13_law_14 : decode cX13_law 14 = .ok (.lconst 1, 1) := by decide +kernel
theorem dX13_law_15 : decode cX13_law 15 = .ok (.invokestatic 297, 3) := by decide +kernel
theorem dX13_law_18 : decode cX13_law 18 = .ok (.ifCond .ne 5, 3) := by decide +kernel
theorem dX13_law_21 : decode cX13_law 21 = .ok (.iconst (-1), 1) := by decide +kernel
theorem dX13_law_22 : decode cX13_law 22 = .ok (.ireturn, 1) := by decide +kernel
theorem dX13_law_23 : decode cX13_law 23 = .ok (.iconst 0, 1) := by decide +kernel
theorem dX13_law_24 : decode cX13_law 24 = .ok (.istore_n 3, 1) := by decide +kernel
theorem dX13_law_25 : decode cX13_law 25 = .ok (.iconst (-1), 1) := by decide +kernel
theorem dX13_law_26 : decode cX13_law 26 = .ok (.istore 4, 2) := by decide +kernel
theorem dX13_law_28 : decode cX13_law 28 = .ok (.aload_n 0, 1) := by decide +kernel
theorem dX13_law_29 : decode cX13_law 29 = .ok (.invokevirtual 519, 3) := by decide +kernel
theorem dX13_law_32 : decode cX13_law 32 = .ok (.iconst 0, 1) := by decide +kernel
theorem dX13_law_33 : decode cX13_law 33 = .ok (.istore 5, 2) := by decide +kernel
theorem dX13_law_35 : decode cX13_law 35 = .ok (.iload 5, 2) := by decide +kernel
theorem dX13_law_37 : decode cX13_law 37 = .ok (.bipush 9, 2) := by decide +kernel
theorem dX13_law_39 : decode cX13_law 39 = .ok (.if_icmp .gt 87, 3) := by decide +kernel
theorem dX13_law_42 : decode cX13_law 42 = .ok (.iconst 0, 1) := by decide +kernel
theorem dX13_law_43 : decode cX13_law 43 = .ok (.istore 6, 2) := by decide +kernel
theorem dX13_law_45 : decode cX13_law 45 = .ok (.iload 6, 2) := by decide +kernel
theorem dX13_law_47 : decode cX13_law 47 = .ok (.aload_n 0, 1) := by decide +kernel
theorem dX13_law_48 : decode cX13_law 48 = .ok (.invokevirtual 401, 3) := by decide +kernel
theorem dX13_law_51 : decode cX13_law 51 = .ok (.if_icmp .ge 33, 3) := by decide +kernel
theorem dX13_law_54 : decode cX13_law 54 = .ok (.aload_n 0, 1) := by decide +kernel
theorem dX13_law_55 : decode cX13_law 55 = .ok (.iload 6, 2) := by decide +kernel
theorem dX13_law_57 : decode cX13_law 57 = .ok (.invokevirtual 447, 3) := by decide +kernel
theorem dX13_law_60 : decode cX13_law 60 = .ok (.ifCond .ne 18, 3) := by decide +kernel
theorem dX13_law_63 : decode cX13_law 63 = .ok (.aload_n 0, 1) := by decide +kernel
theorem dX13_law_64 : decode cX13_law 64 = .ok (.getfield 139, 3) := by decide +kernel
theorem dX13_law_67 : decode cX13_law 67 = .ok (.iconst 1, 1) := by decide +kernel
theorem dX13_law_68 : decode cX13_law 68 = .ok (.iconst 5, 1) := by decide +kernel
theorem dX13_law_69 : decode cX13_law 69 = .ok (.iload 6, 2) := by decide +kernel
theorem dX13_law_71 : decode cX13_law 71 = .ok (.imul, 1) := by decide +kernel
theorem dX13_law_72 : decode cX13_law 72 = .ok (.iadd, 1) := by decide +kernel
theorem dX13_law_73 : decode cX13_law 73 = .ok (.iconst 3, 1) := by decide +kernel
theorem dX13_law_74 : decode cX13_law 74 = .ok (.iadd, 1) := by decide +kernel
theorem dX13_law_75 : decode cX13_law 75 = .ok (.iload 5, 2) := by decide +kernel
theorem dX13_law_77 : decode cX13_law 77 = .ok (.iastore, 1) := by decide +kernel
theorem dX13_law_78 : decode cX13_law 78 = .ok (.iinc 6 1, 3) := by decide +kernel
theorem dX13_law_81 : decode cX13_law 81 = .ok (.goto (-36), 3) := by decide +kernel
theorem dX13_law_84 : decode cX13_law 84 = .ok (.aload_n 0, 1) := by decide +kernel
theorem dX13_law_85 : decode cX13_law 85 = .ok (.iload_n 1, 1) := by decide +kernel
theorem dX13_law_86 : decode cX13_law 86 = .ok (.invokevirtual 522, 3) := by decide +kernel
theorem dX13_law_89 : decode cX13_law 89 = .ok (.aload_n 0, 1) := by decide +kernel
theorem dX13_law_90 : decode cX13_law 90 = .ok (.iconst 2, 1) := by decide +kernel
theorem dX13_law_91 : decode cX13_law 91 = .ok (.invokevirtual 486, 3) := by decide +kernel
theorem dX13_law_94 : decode cX13_law 94 = .ok (.invokestatic 483, 3) := by decide +kernel
theorem dX13_law_97 : decode cX13_law 97 = .ok (.istore 6, 2) := by decide +kernel
theorem dX13_law_99 : decode cX13_law 99 = .ok (.aload_n 0, 1) := by decide +kernel
theorem dX13_law_100 : decode cX13_law 100 = .ok (.invokevirtual 480, 3) := by decide +kernel
theorem dX13_law_103 : decode cX13_law 103 = .ok (.iload 6, 2) := by decide +kernel
theorem dX13_law_105 : decode cX13_law 105 = .ok (.iload 4, 2) := by decide +kernel
theorem dX13_law_107 : decode cX13_law 107 = .ok (.if_icmp .gt 6, 3) := by decide +kernel
theorem dX13_law_110 : decode cX13_law 110 = .ok (.goto 10, 3) := by decide +kernel
theorem dX13_law_113 : decode cX13_law 113 = .ok (.iload 6, 2) := by decide +kernel
theorem dX13_law_115 : decode cX13_law 115 = .ok (.istore 4, 2) := by decide +kernel
theorem dX13_law_117 : decode cX13_law 117 = .ok (.iload 5, 2) := by decide +kernel
theorem dX13_law_119 : decode cX13_law 119 = .ok (.istore_n 3, 1) := by decide +kernel
theorem dX13_law_120 : decode cX13_law 120 = .ok (.iinc 5 1, 3) := by decide +kernel
theorem dX13_law_123 : decode cX13_law 123 = .ok (.goto (-88), 3) := by decide +kernel
theorem dX13_law_126 : decode cX13_law 126 = .ok (.aload_n 0, 1) := by decide +kernel
theorem dX13_law_127 : decode cX13_law 127 = .ok (.invokevirtual 525, 3) := by decide +kernel
theorem dX13_law_130 : decode cX13_law 130 = .ok (.iload_n 2, 1) := by decide +kernel
theorem dX13_law_131 : decode cX13_law 131 = .ok (.ifCond .ne 7, 3) := by decide +kernel
theorem dX13_law_134 : decode cX13_law 134 = .ok (.iload_n 3, 1) := by decide +kernel
theorem dX13_law_135 : decode cX13_law 135 = .ok (.goto 5, 3) := by decide +kernel
theorem dX13_law_138 : decode cX13_law 138 = .ok (.iload 4, 2) := by decide +kernel
theorem dX13_law_140 : decode cX13_law 140 = .ok (.ireturn, 1) := by decide +kernel
theorem bX13_law_0 {d : Nat}  {v1 : Int32} {v2 : Int32} {I : Ii} {J : Jj} {K : KI}
    (h : CalI wM d mX13_isAhead [.ref (0), .int (v1), .int (0), .int (20)] I J (fun x3 I1 J2 => (((x3 = 0) → (K ((-1)) I1 J2)) ∧ ((¬ x3 = 0) → (CalI wM d mX13_isIn [.long (v2.toInt64), .long (0), .long (1)] I1 J2 (fun x7 I5 J6 => (((¬ x7 = 0) → (CalV wM d mX13_putsAside [.ref (0)] I5 J6 (fun I9 J10 => (GoI wM (d + 1) mX13_law 35 [(0, .ref (0)), (1, .int (v1)), (2, .int (v2)), (3, .int (0)), (4, .int ((-1))), (5, .int (0))] [] I9 J10 K)))) ∧ ((x7 = 0) → (K ((-1)) I5 J6))))))))) :
    GoI wM (d + 1) mX13_law 0 [(0, .ref (0)), (1, .int (v1)), (2, .int (v2))] [] I J K :=
  (g_aload_n dX13_law_0 0 0 rfl rfl (g_iload_n dX13_law_1 1 1 rfl rfl (g_iconst dX13_law_2 kc_0 (g_bipush dX13_law_3 kb_20 (g_callvI dX13_law_5 ml_X13_514 md_X13_isAhead mv_X13_isAhead obM_0 rfl rfl rfl (Nat.le_of_ble_eq_true rfl) (CalI.mono h (fun x3 I1 J2 h13 => (g_if_eq dX13_law_8 rfl (fun q4 => (g_iconst dX13_law_21 kc_n1 (g_ireturn dX13_law_22 rfl ⟨_, rfl, (h13.1 q4)⟩))) (fun q4 => (g_iload_n dX13_law_11 2 2 rfl rfl (g_i2l dX13_law_12 (g_lconst dX13_law_13 kq_0 (g_lconst dX13_law_14 kq_1 (g_callsI dX13_law_15 ml_X13_297 md_X13_isIn ms_X13_isIn rfl rfl (Nat.le_of_ble_eq_true rfl) (CalI.mono (h13.2 q4) (fun x7 I5 J6 h12 => (g_if_ne dX13_law_18 rfl (fun q8 => (g_iconst dX13_law_23 kc_0 (g_istore_n dX13_law_24 rfl (by decide) rfl (g_iconst dX13_law_25 kc_n1 (g_istore dX13_law_26 (by decide) rfl (g_aload_n dX13_law_28 2 0 rfl rfl (g_callvV dX13_law_29 ml_X13_519 md_X13_putsAside mv_X13_putsAside obM_0 rfl rfl rfl (Nat.le_of_ble_eq_true rfl) (CalV.mono (h12.1 q8) (fun I9 J10 h11 => (g_iconst dX13_law_32 kc_0 (g_istore dX13_law_33 (by decide) rfl (g_sub [3, 4, 5, 2, 1, 0] rfl h11)))))))))))) (fun q8 => (g_iconst dX13_law_21 kc_n1 (g_ireturn dX13_law_22 rfl ⟨_, rfl, (h12.2 q8)⟩))))))))))))))))))))
theorem bX13_law_35 {d : Nat}  {v1 : Int32} {v2 : Int32} {v3 : Int32} {v4 : Int32} {v5 : Int32} {I : Ii} {J : Jj} {K : KI}
    (h : ((9 < v5) → (CalV wM d mX13_takesBack [.ref (0)] I J (fun I2 J3 => (((¬ v2 = 0) → (K (v4) I2 J3)) ∧ ((v2 = 0) → (K (v3) I2 J3)))))) ∧ ((¬ 9 < v5) → (GoI wM (d + 1) mX13_law 45 [(0, .ref (0)), (1, .int (v1)), (2, .int (v2)), (3, .int (v3)), (4, .int (v4)), (5, .int (v5)), (6, .int (0))] [] I J K))) :
    GoI wM (d + 1) mX13_law 35 [(0, .ref (0)), (1, .int (v1)), (2, .int (v2)), (3, .int (v3)), (4, .int (v4)), (5, .int (v5))] [] I J K :=
  (g_iload dX13_law_35 5 rfl (g_bipush dX13_law_37 kb_9 (g_icmp_gt dX13_law_39 rfl (fun q1 => (g_aload_n dX13_law_126 0 0 rfl rfl (g_callvV dX13_law_127 ml_X13_525 md_X13_takesBack mv_X13_takesBack obM_0 rfl rfl rfl (Nat.le_of_ble_eq_true rfl) (CalV.mono (h.1 q1) (fun I2 J3 h5 => (g_iload_n dX13_law_130 2 2 rfl rfl (g_if_ne dX13_law_131 rfl (fun q4 => (g_iload dX13_law_138 4 rfl (g_ireturn dX13_law_140 rfl ⟨_, rfl, (h5.1 q4)⟩))) (fun q4 => (g_iload_n dX13_law_134 3 3 rfl rfl (g_goto dX13_law_135 rfl (g_ireturn dX13_law_140 rfl ⟨_, rfl, (h5.2 q4)⟩))))))))))) (fun q1 => (g_iconst dX13_law_42 kc_0 (g_istore dX13_law_43 (by decide) rfl (g_sub [1, 2, 3, 4, 5, 6, 0] rfl (h.2 q1))))))))
theorem bX13_law_45 {d : Nat}  {v1 : Int32} {v2 : Int32} {v3 : Int32} {v4 : Int32} {v5 : Int32} {v6 : Int32} {I : Ii} {J : Jj} {K : KI}
    (h : CalI wM d mX13_personMany [.ref (0)] I J (fun x3 I1 J2 => (((x3 ≤ v6) → (CalV wM d mX13_yearsGo [.ref (0), .int (v1)] I1 J2 (fun I5 J6 => (CalI wM d mX13_thoseWho [.ref (0), .int (2)] I5 J6 (fun x9 I7 J8 => (CalI wM d mX13_bits [.int (x9)] I7 J8 (fun x12 I10 J11 => (CalV wM d mX13_triesAnew [.ref (0)] I10 J11 (fun I13 J14 => (((v4 < x12) → (GoI wM (d + 1) mX13_law 35 [(0, .ref (0)), (1, .int (v1)), (2, .int (v2)), (3, .int (v5)), (4, .int (x12)), (5, .int (v5 + 1))] [] I13 J14 K)) ∧ ((¬ v4 < x12) → (GoI wM (d + 1) mX13_law 35 [(0, .ref (0)), (1, .int (v1)), (2, .int (v2)), (3, .int (v3)), (4, .int (v4)), (5, .int (v5 + 1))] [] I13 J14 K)))))))))))) ∧ ((¬ x3 ≤ v6) → (CalI wM d mX13_hasPassed [.ref (0), .int (v6)] I1 J2 (fun x22 I20 J21 => (((¬ x22 = 0) → (GoI wM (d + 1) mX13_law 45 [(0, .ref (0)), (1, .int (v1)), (2, .int (v2)), (3, .int (v3)), (4, .int (v4)), (5, .int (v5)), (6, .int (v6 + 1))] [] I20 J21 K)) ∧ ((x22 = 0) → (vp_in ((1 + (5 * v6)) + 3) 132 ∧ (GoI wM (d + 1) mX13_law 45 [(0, .ref (0)), (1, .int (v1)), (2, .int (v2)), (3, .int (v3)), (4, .int (v4)), (5, .int (v5)), (6, .int (v6 + 1))] [] (u2 I20 42 ((1 + (5 * v6)) + 3).toNatClampNeg v5) J21 K)))))))))) :
    GoI wM (d + 1) mX13_law 45 [(0, .ref (0)), (1, .int (v1)), (2, .int (v2)), (3, .int (v3)), (4, .int (v4)), (5, .int (v5)), (6, .int (v6))] [] I J K :=
  (g_iload dX13_law_45 6 rfl (g_aload_n dX13_law_47 0 0 rfl rfl (g_callvI dX13_law_48 ml_X13_401 md_X13_personMany mv_X13_personMany obM_0 rfl rfl rfl (Nat.le_of_ble_eq_true rfl) (CalI.mono h (fun x3 I1 J2 h27 => (g_icmp_ge dX13_law_51 rfl (fun q4 => (g_aload_n dX13_law_84 0 0 rfl rfl (g_iload_n dX13_law_85 1 1 rfl rfl (g_callvV dX13_law_86 ml_X13_522 md_X13_yearsGo mv_X13_yearsGo obM_0 rfl rfl rfl (Nat.le_of_ble_eq_true rfl) (CalV.mono (h27.1 q4) (fun I5 J6 h19 => (g_aload_n dX13_law_89 0 0 rfl rfl (g_iconst dX13_law_90 kc_2 (g_callvI dX13_law_91 ml_X13_486 md_X13_thoseWho mv_X13_thoseWho obM_0 rfl rfl rfl (Nat.le_of_ble_eq_true rfl) (CalI.mono h19 (fun x9 I7 J8 h18 => (g_callsI dX13_law_94 ml_X13_483 md_X13_bits ms_X13_bits rfl rfl (Nat.le_of_ble_eq_true rfl) (CalI.mono h18 (fun x12 I10 J11 h17 => (g_istore dX13_law_97 (by decide) rfl (g_aload_n dX13_law_99 1 0 rfl rfl (g_callvV dX13_law_100 ml_X13_480 md_X13_triesAnew mv_X13_triesAnew obM_0 rfl rfl rfl (Nat.le_of_ble_eq_true rfl) (CalV.mono h17 (fun I13 J14 h16 => (g_iload dX13_law_103 0 rfl (g_iload dX13_law_105 5 rfl (g_icmp_gt dX13_law_107 rfl (fun q15 => (g_iload dX13_law_113 0 rfl (g_istore dX13_law_115 (by decide) rfl (g_iload dX13_law_117 6 rfl (g_istore_n dX13_law_119 rfl (by decide) rfl (g_iinc dX13_law_120 6 rfl rfl (by decide) rfl (g_goto dX13_law_123 rfl (g_sub [4, 5, 6, 1, 2, 0] rfl (h16.1 q15))))))))) (fun q15 => (g_goto dX13_law_110 rfl (g_iinc dX13_law_120 6 rfl rfl (by decide) rfl (g_goto dX13_law_123 rfl (g_sub [2, 3, 4, 5, 6, 0] rfl (h16.2 q15)))))))))))))))))))))))))))) (fun q4 => (g_aload_n dX13_law_54 0 0 rfl rfl (g_iload dX13_law_55 6 rfl (g_callvI dX13_law_57 ml_X13_447 md_X13_hasPassed mv_X13_hasPassed obM_0 rfl rfl rfl (Nat.le_of_ble_eq_true rfl) (CalI.mono (h27.2 q4) (fun x22 I20 J21 h26 => (g_if_ne dX13_law_60 rfl (fun q23 => (g_iinc dX13_law_78 6 rfl rfl (by decide) rfl (g_goto dX13_law_81 rfl (g_sub [1, 2, 3, 4, 5, 6, 0] rfl (h26.1 q23))))) (fun q23 => (g_aload_n dX13_law_63 0 0 rfl rfl (g_getP dX13_law_64 fl_X13_139 rfl obM_0 rfl (g_iconst dX13_law_67 kc_1 (g_iconst dX13_law_68 kc_5 (g_iload dX13_law_69 6 rfl (g_imul dX13_law_71 (g_iadd dX13_law_72 (g_iconst dX13_law_73 kc_3 (g_iadd dX13_law_74 (g_iload dX13_law_75 5 rfl (have b24 := (h26.2 q23).1; g_iast dX13_law_77 arM_42 b24 (g_iinc dX13_law_78 6 rfl rfl (by decide) rfl (g_goto dX13_law_81 rfl (g_sub [1, 2, 3, 4, 5, 6, 0] rfl (h26.2 q23).2))))))))))))))))))))))))))))
theorem dX13_hear_0 : decode cX13_hear 0 = .ok (.aload_n 0, 1) := by decide +kernel
theorem dX13_hear_1 : decode cX13_hear 1 = .ok (.getfield 254, 3) := by decide +kernel
theorem dX13_hear_4 : decode cX13_hear 4 = .ok (.istore_n 1, 1) := by decide +kernel
theorem dX13_hear_5 : decode cX13_hear 5 = .ok (.aload_n 0, 1) := by decide +kernel
theorem dX13_hear_6 : decode cX13_hear 6 = .ok (.iconst 0, 1) := by decide +kernel
theorem dX13_hear_7 : decode cX13_hear 7 = .ok (.putfield 254, 3) := by decide +kernel
theorem dX13_hear_10 : decode cX13_hear 10 = .ok (.iload_n 1, 1) := by decide +kernel
theorem dX13_hear_11 : decode cX13_hear 11 = .ok (.ifCond .le 21, 3) := by decide +kernel
theorem dX13_hear_14 : decode cX13_hear 14 = .ok (.iload_n 1, 1) := by decide +kernel
theorem dX13_hear_15 : decode cX13_hear 15 = .ok (.iconst 2, 1) := by decide +kernel
theorem dX13_hear_16 : decode cX13_hear 16 = .ok (.irem, 1) := by decide +kernel
theorem dX13_hear_17 : decode cX13_hear 17 = .ok (.ifCond .ne 15, 3) := by decide +kernel
theorem dX13_hear_20 : decode cX13_hear 20 = .ok (.iload_n 1, 1) := by decide +kernel
theorem dX13_hear_21 : decode cX13_hear 21 = .ok (.iconst 2, 1) := by decide +kernel
theorem dX13_hear_22 : decode cX13_hear 22 = .ok (.idiv, 1) := by decide +kernel
theorem dX13_hear_23 : decode cX13_hear 23 = .ok (.bipush 16, 2) := by decide +kernel
theorem dX13_hear_25 : decode cX13_hear 25 = .ok (.if_icmp .gt 7, 3) := by decide +kernel
theorem dX13_hear_28 : decode cX13_hear 28 = .ok (.iconst 1, 1) := by decide +kernel
theorem dX13_hear_29 : decode cX13_hear 29 = .ok (.goto 4, 3) := by decide +kernel
theorem dX13_hear_32 : decode cX13_hear 32 = .ok (.iconst 0, 1) := by decide +kernel
theorem dX13_hear_33 : decode cX13_hear 33 = .ok (.istore_n 2, 1) := by decide +kernel
theorem dX13_hear_34 : decode cX13_hear 34 = .ok (.iconst 0, 1) := by decide +kernel
theorem dX13_hear_35 : decode cX13_hear 35 = .ok (.istore_n 3, 1) := by decide +kernel
theorem dX13_hear_36 : decode cX13_hear 36 = .ok (.iload_n 3, 1) := by decide +kernel
theorem dX13_hear_37 : decode cX13_hear 37 = .ok (.iload_n 1, 1) := by decide +kernel
theorem dX13_hear_38 : decode cX13_hear 38 = .ok (.if_icmp .ge 44, 3) := by decide +kernel
theorem dX13_hear_41 : decode cX13_hear 41 = .ok (.iload_n 2, 1) := by decide +kernel
theorem dX13_hear_42 : decode cX13_hear 42 = .ok (.ifCond .eq 40, 3) := by decide +kernel
theorem dX13_hear_45 : decode cX13_hear 45 = .ok (.aload_n 0, 1) := by decide +kernel
theorem dX13_hear_46 : decode cX13_hear 46 = .ok (.aload_n 0, 1) := by decide +kernel
theorem dX13_hear_47 : decode cX13_hear 47 = .ok (.getfield 7, 3) := by decide +kernel
theorem dX13_hear_50 : decode cX13_hear 50 = .ok (.iload_n 3, 1) := by decide +kernel
theorem dX13_hear_51 : decode cX13_hear 51 = .ok (.iaload, 1) := by decide +kernel
theorem dX13_hear_52 : decode cX13_hear 52 = .ok (.invokevirtual 504, 3) := by decide +kernel
theorem dX13_hear_55 : decode cX13_hear 55 = .ok (.ifCond .eq 19, 3) := by decide +kernel
theorem dX13_hear_58 : decode cX13_hear 58 = .ok (.aload_n 0, 1) := by decide +kernel
theorem dX13_hear_59 : decode cX13_hear 59 = .ok (.getfield 7, 3) := by decide +kernel
theorem dX13_hear_62 : decode cX13_hear 62 = .ok (.iload_n 3, 1) := by decide +kernel
theorem dX13_hear_63 : decode cX13_hear 63 = .ok (.iconst 1, 1) := by decide +kernel
theorem dX13_hear_64 : decode cX13_hear 64 = .ok (.iadd, 1) := by decide +kernel
theorem dX13_hear_65 : decode cX13_hear 65 = .ok (.iaload, 1) := by decide +kernel
theorem dX13_hear_66 : decode cX13_hear 66 = .ok (.iconst 3, 1) := by decide +kernel
theorem dX13_hear_67 : decode cX13_hear 67 = .ok (.if_icmp .ge 7, 3) := by decide +kernel
theorem dX13_hear_70 : decode cX13_hear 70 = .ok (.iconst 1, 1) := by decide +kernel
theorem dX13_hear_71 : decode cX13_hear 71 = .ok (.goto 4, 3) := by decide +kernel
theorem dX13_hear_74 : decode cX13_hear 74 = .ok (.iconst 0, 1) := by decide +kernel
theorem dX13_hear_75 : decode cX13_hear 75 = .ok (.istore_n 2, 1) := by decide +kernel
theorem dX13_hear_76 : decode cX13_hear 76 = .ok (.iinc 3 2, 3) := by decide +kernel
theorem dX13_hear_79 : decode cX13_hear 79 = .ok (.goto (-43), 3) := by decide +kernel
theorem dX13_hear_82 : decode cX13_hear 82 = .ok (.iload_n 2, 1) := by decide +kernel
theorem dX13_hear_83 : decode cX13_hear 83 = .ok (.ifCond .ne 15, 3) := by decide +kernel
theorem dX13_hear_86 : decode cX13_hear 86 = .ok (.aload_n 0, 1) := by decide +kernel
theorem dX13_hear_87 : decode cX13_hear 87 = .ok (.getfield 17, 3) := by decide +kernel
theorem dX13_hear_90 : decode cX13_hear 90 = .ok (.iconst 1, 1) := by decide +kernel
theorem dX13_hear_91 : decode cX13_hear 91 = .ok (.dup2, 1) := by decide +kernel
theorem dX13_hear_92 : decode cX13_hear 92 = .ok (.iaload, 1) := by decide +kernel
theorem dX13_hear_93 : decode cX13_hear 93 = .ok (.iconst 1, 1) := by decide +kernel
theorem dX13_hear_94 : decode cX13_hear 94 = .ok (.iadd, 1) := by decide +kernel
theorem dX13_hear_95 : decode cX13_hear 95 = .ok (.iastore, 1) := by decide +kernel
theorem dX13_hear_96 : decode cX13_hear 96 = .ok (.iconst (-1), 1) := by decide +kernel
theorem dX13_hear_97 : decode cX13_hear 97 = .ok (.ireturn, 1) := by decide +kernel
theorem dX13_hear_98 : decode cX13_hear 98 = .ok (.iconst 0, 1) := by decide +kernel
theorem dX13_hear_99 : decode cX13_hear 99 = .ok (.istore_n 3, 1) := by decide +kernel
theorem dX13_hear_100 : decode cX13_hear 100 = .ok (.iload_n 3, 1) := by decide +kernel
theorem dX13_hear_101 : decode cX13_hear 101 = .ok (.iload_n 1, 1) := by decide +kernel
theorem dX13_hear_102 : decode cX13_hear 102 = .ok (.if_icmp .ge 21, 3) := by decide +kernel
theorem dX13_hear_105 : decode cX13_hear 105 = .ok (.aload_n 0, 1) := by decide +kernel
theorem dX13_hear_106 : decode cX13_hear 106 = .ok (.getfield 151, 3) := by decide +kernel
theorem dX13_hear_109 : decode cX13_hear 109 = .ok (.iload_n 3, 1) := by decide +kernel
theorem dX13_hear_110 : decode cX13_hear 110 = .ok (.aload_n 0, 1) := by decide +kernel
theorem dX13_hear_111 : decode cX13_hear 111 = .ok (.getfield 7, 3) := by decide +kernel
theorem dX13_hear_114 : decode cX13_hear 114 = .ok (.iload_n 3, 1) := by decide +kernel
theorem dX13_hear_115 : decode cX13_hear 115 = .ok (.iaload, 1) := by decide +kernel
theorem dX13_hear_116 : decode cX13_hear 116 = .ok (.iastore, 1) := by decide +kernel
theorem dX13_hear_117 : decode cX13_hear 117 = .ok (.iinc 3 1, 3) := by decide +kernel
theorem dX13_hear_120 : decode cX13_hear 120 = .ok (.goto (-20), 3) := by decide +kernel
theorem dX13_hear_123 : decode cX13_hear 123 = .ok (.aload_n 0, 1) := by decide +kernel
theorem dX13_hear_124 : decode cX13_hear 124 = .ok (.iload_n 1, 1) := by decide +kernel
theorem dX13_hear_125 : decode cX13_hear 125 = .ok (.iconst 2, 1) := by decide +kernel
theorem dX13_hear_126 : decode cX13_hear 126 = .ok (.idiv, 1) := by decide +kernel
theorem dX13_hear_127 : decode cX13_hear 127 = .ok (.putfield 395, 3) := by decide +kernel
theorem dX13_hear_130 : decode cX13_hear 130 = .ok (.aload_n 0, 1) := by decide +kernel
theorem dX13_hear_131 : decode cX13_hear 131 = .ok (.getfield 395, 3) := by decide +kernel
theorem dX13_hear_134 : decode cX13_hear 134 = .ok (.ireturn, 1) := by decide +kernel
theorem bX13_hear_0 {d : Nat}   {I : Ii} {J : Jj} {K : KI}
    (h : ∀ I1 : Ii, I1 = u2 I 0 1 0 → ((((I 0 1) ≤ 0) → (GoI wM (d + 1) mX13_hear 36 [(0, .ref (0)), (1, .int (I 0 1)), (2, .int (0)), (3, .int (0))] [] I1 J K)) ∧ ((¬ (I 0 1) ≤ 0) → (((¬ ((I 0 1) - (I 0 1) / 2 * 2) = 0) → (GoI wM (d + 1) mX13_hear 36 [(0, .ref (0)), (1, .int (I 0 1)), (2, .int (0)), (3, .int (0))] [] I1 J K)) ∧ ((((I 0 1) - (I 0 1) / 2 * 2) = 0) → (((16 < ((I 0 1) / 2)) → (GoI wM (d + 1) mX13_hear 36 [(0, .ref (0)), (1, .int (I 0 1)), (2, .int (0)), (3, .int (0))] [] I1 J K)) ∧ ((¬ 16 < ((I 0 1) / 2)) → (GoI wM (d + 1) mX13_hear 36 [(0, .ref (0)), (1, .int (I 0 1)), (2, .int (1)), (3, .int (0))] [] I1 J K)))))))) :
    GoI wM (d + 1) mX13_hear 0 [(0, .ref (0))] [] I J K :=
  (g_aload_n dX13_hear_0 0 0 rfl rfl (g_getI dX13_hear_1 fl_X13_254 rfl obM_0 (g_istore_n dX13_hear_4 rfl (by decide) rfl (g_aload_n dX13_hear_5 1 0 rfl rfl (g_iconst dX13_hear_6 kc_0 (g_putI dX13_hear_7 fl_X13_254 rfl rfl obM_0 (g_iload_n dX13_hear_10 0 1 rfl rfl (g_if_le dX13_hear_11 rfl (fun q2 => (g_iconst dX13_hear_32 kc_0 (g_istore_n dX13_hear_33 rfl (by decide) rfl (g_iconst dX13_hear_34 kc_0 (g_istore_n dX13_hear_35 rfl (by decide) rfl (g_sub [3, 2, 1, 0] rfl ((h _ rfl).1 q2))))))) (fun q2 => (g_iload_n dX13_hear_14 0 1 rfl rfl (g_iconst dX13_hear_15 kc_2 (g_irem dX13_hear_16 (by decide) (g_if_ne dX13_hear_17 rfl (fun q3 => (g_iconst dX13_hear_32 kc_0 (g_istore_n dX13_hear_33 rfl (by decide) rfl (g_iconst dX13_hear_34 kc_0 (g_istore_n dX13_hear_35 rfl (by decide) rfl (g_sub [3, 2, 1, 0] rfl (((h _ rfl).2 q2).1 q3))))))) (fun q3 => (g_iload_n dX13_hear_20 0 1 rfl rfl (g_iconst dX13_hear_21 kc_2 (g_idiv dX13_hear_22 (by decide) (g_bipush dX13_hear_23 kb_16 (g_icmp_gt dX13_hear_25 rfl (fun q4 => (g_iconst dX13_hear_32 kc_0 (g_istore_n dX13_hear_33 rfl (by decide) rfl (g_iconst dX13_hear_34 kc_0 (g_istore_n dX13_hear_35 rfl (by decide) rfl (g_sub [3, 2, 1, 0] rfl ((((h _ rfl).2 q2).2 q3).1 q4))))))) (fun q4 => (g_iconst dX13_hear_28 kc_1 (g_goto dX13_hear_29 rfl (g_istore_n dX13_hear_33 rfl (by decide) rfl (g_iconst dX13_hear_34 kc_0 (g_istore_n dX13_hear_35 rfl (by decide) rfl (g_sub [3, 2, 1, 0] rfl ((((h _ rfl).2 q2).2 q3).2 q4)))))))))))))))))))))))))))
theorem bX13_hear_36 {d : Nat}  {v1 : Int32} {v2 : Int32} {v3 : Int32} {I : Ii} {J : Jj} {K : KI}
    (h : ((v1 ≤ v3) → (((¬ v2 = 0) → (GoI wM (d + 1) mX13_hear 100 [(0, .ref (0)), (1, .int (v1)), (3, .int (0))] [] I J K)) ∧ ((v2 = 0) → (K ((-1)) (u2 I 2 (1 : Int32).toNatClampNeg ((I 2 (1 : Int32).toNatClampNeg) + 1)) J)))) ∧ ((¬ v1 ≤ v3) → (((v2 = 0) → (K ((-1)) (u2 I 2 (1 : Int32).toNatClampNeg ((I 2 (1 : Int32).toNatClampNeg) + 1)) J)) ∧ ((¬ v2 = 0) → (vp_in (v3) 1600 ∧ (CalI wM d mX13_isPerson [.ref (0), .int (I 1 v3.toNatClampNeg)] I J (fun x11 I9 J10 => (((x11 = 0) → (GoI wM (d + 1) mX13_hear 36 [(0, .ref (0)), (1, .int (v1)), (2, .int (0)), (3, .int (v3 + (Int32.ofInt (2))))] [] I9 J10 K)) ∧ ((¬ x11 = 0) → (vp_in (v3 + 1) 1600 ∧ (((3 ≤ (I9 1 (v3 + 1).toNatClampNeg)) → (GoI wM (d + 1) mX13_hear 36 [(0, .ref (0)), (1, .int (v1)), (2, .int (0)), (3, .int (v3 + (Int32.ofInt (2))))] [] I9 J10 K)) ∧ ((¬ 3 ≤ (I9 1 (v3 + 1).toNatClampNeg)) → (GoI wM (d + 1) mX13_hear 36 [(0, .ref (0)), (1, .int (v1)), (2, .int (1)), (3, .int (v3 + (Int32.ofInt (2))))] [] I9 J10 K))))))))))))) :
    GoI wM (d + 1) mX13_hear 36 [(0, .ref (0)), (1, .int (v1)), (2, .int (v2)), (3, .int (v3))] [] I J K :=
  (g_iload_n dX13_hear_36 3 3 rfl rfl (g_iload_n dX13_hear_37 1 1 rfl rfl (g_icmp_ge dX13_hear_38 rfl (fun q1 => (g_iload_n dX13_hear_82 2 2 rfl rfl (g_if_ne dX13_hear_83 rfl (fun q2 => (g_iconst dX13_hear_98 kc_0 (g_istore_n dX13_hear_99 rfl (by decide) rfl (g_sub [1, 2, 0] rfl ((h.1 q1).1 q2))))) (fun q2 => (g_aload_n dX13_hear_86 0 0 rfl rfl (g_getP dX13_hear_87 fl_X13_17 rfl obM_0 rfl (g_iconst dX13_hear_90 kc_1 (g_dup2_11 dX13_hear_91 rfl rfl (g_iald dX13_hear_92 arM_2 (by unfold vp_in; decide) (g_iconst dX13_hear_93 kc_1 (g_iadd dX13_hear_94 (g_iast dX13_hear_95 arM_2 (by unfold vp_in; decide) (g_iconst dX13_hear_96 kc_n1 (g_ireturn dX13_hear_97 rfl ⟨_, rfl, ((h.1 q1).2 q2)⟩)))))))))))))) (fun q1 => (g_iload_n dX13_hear_41 2 2 rfl rfl (g_if_eq dX13_hear_42 rfl (fun q5 => (g_iload_n dX13_hear_82 2 2 rfl rfl (g_if_ne dX13_hear_83 rfl (fun q => absurd q5 q) (fun _ => (g_aload_n dX13_hear_86 0 0 rfl rfl (g_getP dX13_hear_87 fl_X13_17 rfl obM_0 rfl (g_iconst dX13_hear_90 kc_1 (g_dup2_11 dX13_hear_91 rfl rfl (g_iald dX13_hear_92 arM_2 (by unfold vp_in; decide) (g_iconst dX13_hear_93 kc_1 (g_iadd dX13_hear_94 (g_iast dX13_hear_95 arM_2 (by unfold vp_in; decide) (g_iconst dX13_hear_96 kc_n1 (g_ireturn dX13_hear_97 rfl ⟨_, rfl, ((h.2 q1).1 q5)⟩)))))))))))))) (fun q5 => (g_aload_n dX13_hear_45 0 0 rfl rfl (g_aload_n dX13_hear_46 0 0 rfl rfl (g_getP dX13_hear_47 fl_X13_7 rfl obM_0 rfl (g_iload_n dX13_hear_50 3 3 rfl rfl (have b8 := ((h.2 q1).2 q5).1; g_iald dX13_hear_51 arM_1 b8 (g_callvI dX13_hear_52 ml_X13_504 md_X13_isPerson mv_X13_isPerson obM_0 rfl rfl rfl (Nat.le_of_ble_eq_true rfl) (CalI.mono ((h.2 q1).2 q5).2 (fun x11 I9 J10 h15 => (g_if_eq dX13_hear_55 rfl (fun q12 => (g_iconst dX13_hear_74 kc_0 (g_istore_n dX13_hear_75 rfl (by decide) rfl (g_iinc dX13_hear_76 3 rfl rfl (by decide) rfl (g_goto dX13_hear_79 rfl (g_sub [2, 3, 1, 0] rfl (h15.1 q12))))))) (fun q12 => (g_aload_n dX13_hear_58 0 0 rfl rfl (g_getP dX13_hear_59 fl_X13_7 rfl obM_0 rfl (g_iload_n dX13_hear_62 3 3 rfl rfl (g_iconst dX13_hear_63 kc_1 (g_iadd dX13_hear_64 (have b13 := (h15.2 q12).1; g_iald dX13_hear_65 arM_1 b13 (g_iconst dX13_hear_66 kc_3 (g_icmp_ge dX13_hear_67 rfl (fun q14 => (g_iconst dX13_hear_74 kc_0 (g_istore_n dX13_hear_75 rfl (by decide) rfl (g_iinc dX13_hear_76 3 rfl rfl (by decide) rfl (g_goto dX13_hear_79 rfl (g_sub [2, 3, 1, 0] rfl ((h15.2 q12).2.1 q14))))))) (fun q14 => (g_iconst dX13_hear_70 kc_1 (g_goto dX13_hear_71 rfl (g_istore_n dX13_hear_75 rfl (by decide) rfl (g_iinc dX13_hear_76 3 rfl rfl (by decide) rfl (g_goto dX13_hear_79 rfl (g_sub [2, 3, 1, 0] rfl ((h15.2 q12).2.2 q14)))))))))))))))))))))))))))))))))
theorem bX13_hear_100 {d : Nat}  {v1 : Int32} {v3 : Int32} {I : Ii} {J : Jj} {K : KI}
    (h : ((v1 ≤ v3) → (∀ I2 : Ii, I2 = u2 I 0 60 (v1 / 2) → (K (I2 0 60) I2 J))) ∧ ((¬ v1 ≤ v3) → (vp_in (v3) 1600 ∧ (vp_in (v3) 32 ∧ (GoI wM (d + 1) mX13_hear 100 [(0, .ref (0)), (1, .int (v1)), (3, .int (v3 + 1))] [] (u2 I 46 v3.toNatClampNeg (I 1 v3.toNatClampNeg)) J K))))) :
    GoI wM (d + 1) mX13_hear 100 [(0, .ref (0)), (1, .int (v1)), (3, .int (v3))] [] I J K :=
  (g_iload_n dX13_hear_100 2 3 rfl rfl (g_iload_n dX13_hear_101 1 1 rfl rfl (g_icmp_ge dX13_hear_102 rfl (fun q1 => (g_aload_n dX13_hear_123 0 0 rfl rfl (g_iload_n dX13_hear_124 1 1 rfl rfl (g_iconst dX13_hear_125 kc_2 (g_idiv dX13_hear_126 (by decide) (g_putI dX13_hear_127 fl_X13_395 rfl rfl obM_0 (g_aload_n dX13_hear_130 0 0 rfl rfl (g_getI dX13_hear_131 fl_X13_395 rfl obM_0 (g_ireturn dX13_hear_134 rfl ⟨_, rfl, ((h.1 q1) _ rfl)⟩))))))))) (fun q1 => (g_aload_n dX13_hear_105 0 0 rfl rfl (g_getP dX13_hear_106 fl_X13_151 rfl obM_0 rfl (g_iload_n dX13_hear_109 2 3 rfl rfl (g_aload_n dX13_hear_110 0 0 rfl rfl (g_getP dX13_hear_111 fl_X13_7 rfl obM_0 rfl (g_iload_n dX13_hear_114 2 3 rfl rfl (have b3 := (h.2 q1).1; g_iald dX13_hear_115 arM_1 b3 (have b4 := (h.2 q1).2.1; g_iast dX13_hear_116 arM_46 b4 (g_iinc dX13_hear_117 2 rfl rfl (by decide) rfl (g_goto dX13_hear_120 rfl (g_sub [1, 2, 0] rfl (h.2 q1).2.2)))))))))))))))
theorem dX13_sources_0 : decode cX13_sources 0 = .ok (.aload_n 0, 1) := by decide +kernel
theorem dX13_sources_1 : decode cX13_sources 1 = .ok (.iload_n 1, 1) := by decide +kernel
theorem dX13_sources_2 : decode cX13_sources 2 = .ok (.invokevirtual 495, 3) := by decide +kernel
theorem dX13_sources_5 : decode cX13_sources 5 = .ok (.ifCond .eq 14, 3) := by decide +kernel
theorem dX13_sources_8 : decode cX13_sources 8 = .ok (.aload_n 0, 1) := by decide +kernel
theorem dX13_sources_9 : decode cX13_sources 9 = .ok (.iload_n 2, 1) := by decide +kernel
theorem dX13_sources_10 : decode cX13_sources 10 = .ok (.iconst 0, 1) := by decide +kernel
theorem dX13_sources_11 : decode cX13_sources 11 = .ok (.bipush 20, 2) := by decide +kernel
theorem dX13_sources_13 : decode cX13_sources 13 = .ok (.invokevirtual 514, 3) := by decide +kernel
theorem dX13_sources_16 : decode cX13_sources 16 = .ok (.ifCond .ne 5, 3) := by decide +kernel
theorem dX13_sources_19 : decode cX13_sources 19 = .ok (.iconst (-1), 1) := by decide +kernel
theorem dX13_sources_20 : decode cX13_sources 20 = .ok (.ireturn, 1) := by decide +kernel
theorem dX13_sources_21 : decode cX13_sources 21 = .ok (.iconst 0, 1) := by decide +kernel
theorem dX13_sources_22 : decode cX13_sources 22 = .ok (.istore_n 3, 1) := by decide +kernel
theorem dX13_sources_23 : decode cX13_sources 23 = .ok (.aload_n 0, 1) := by decide +kernel
theorem dX13_sources_24 : decode cX13_sources 24 = .ok (.invokevirtual 519, 3) := by decide +kernel
theorem dX13_sources_27 : decode cX13_sources 27 = .ok (.iconst 0, 1) := by decide +kernel
theorem dX13_sources_28 : decode cX13_sources 28 = .ok (.istore 4, 2) := by decide +kernel
theorem dX13_sources_30 : decode cX13_sources 30 = .ok (.iload 4, 2) := by decide +kernel
theorem dX13_sources_32 : decode cX13_sources 32 = .ok (.aload_n 0, 1) := by decide +kernel
theorem dX13_sources_33 : decode cX13_sources 33 = .ok (.invokevirtual 401, 3) := by decide +kernel
theorem dX13_sources_36 : decode cX13_sources 36 = .ok (.if_icmp .ge 27, 3) := by decide +kernel
theorem dX13_sources_39 : decode cX13_sources 39 = .ok (.aload_n 0, 1) := by decide +kernel
theorem dX13_sources_40 : decode cX13_sources 40 = .ok (.iload 4, 2) := by decide +kernel
theorem dX13_sources_42 : decode cX13_sources 42 = .ok (.iload_n 1, 1) := by decide +kernel
theorem dX13_sources_43 : decode cX13_sources 43 = .ok (.iload_n 2, 1) := by decide +kernel
theorem dX13_sources_44 : decode cX13_sources 44 = .ok (.invokevirtual 538, 3) := by decide +kernel
theorem dX13_sources_47 : decode cX13_sources 47 = .ok (.ifCond .eq 10, 3) := by decide +kernel
theorem dX13_sources_50 : decode cX13_sources 50 = .ok (.iload_n 3, 1) := by decide +kernel
theorem dX13_sources_51 : decode cX13_sources 51 = .ok (.iconst 1, 1) := by decide +kernel
theorem dX13_sources_52 : decode cX13_sources 52 = .ok (.iload 4, 2) := by decide +kernel
theorem dX13_sources_54 : decode cX13_sources 54 = .ok (.ishl, 1) := by decide +kernel
theorem dX13_sources_55 : decode cX13_sources 55 = .ok (.ior, 1) := by decide +kernel
theorem dX13_sources_56 : decode cX13_sources 56 = .ok (.istore_n 3, 1) := by decide +kernel
theorem dX13_sources_57 : decode cX13_sources 57 = .ok (.iinc 4 1, 3) := by decide +kernel
theorem dX13_sources_60 : decode cX13_sources 60 = .ok (.goto (-30), 3) := by decide +kernel
theorem dX13_sources_63 : decode cX13_sources 63 = .ok (.aload_n 0, 1) := by decide +kernel
theorem dX13_sources_64 : decode cX13_sources 64 = .ok (.invokevirtual 525, 3) := by decide +kernel
theorem dX13_sources_67 : decode cX13_sources 67 = .ok (.iload_n 3, 1) := by decide +kernel
theorem dX13_sources_68 : decode cX13_sources 68 = .ok (.ireturn, 1) := by decide +kernel
theorem bX13_sources_0 {d : Nat}  {v1 : Int32} {v2 : Int32} {I : Ii} {J : Jj} {K : KI}
    (h : CalI wM d mX13_isFact [.ref (0), .int (v1)] I J (fun x3 I1 J2 => (((x3 = 0) → (K ((-1)) I1 J2)) ∧ ((¬ x3 = 0) → (CalI wM d mX13_isAhead [.ref (0), .int (v2), .int (0), .int (20)] I1 J2 (fun x7 I5 J6 => (((¬ x7 = 0) → (CalV wM d mX13_putsAside [.ref (0)] I5 J6 (fun I9 J10 => (GoI wM (d + 1) mX13_sources 30 [(0, .ref (0)), (1, .int (v1)), (2, .int (v2)), (3, .int (0)), (4, .int (0))] [] I9 J10 K)))) ∧ ((x7 = 0) → (K ((-1)) I5 J6))))))))) :
    GoI wM (d + 1) mX13_sources 0 [(0, .ref (0)), (1, .int (v1)), (2, .int (v2))] [] I J K :=
  (g_aload_n dX13_sources_0 0 0 rfl rfl (g_iload_n dX13_sources_1 1 1 rfl rfl (g_callvI dX13_sources_2 ml_X13_495 md_X13_isFact mv_X13_isFact obM_0 rfl rfl rfl (Nat.le_of_ble_eq_true rfl) (CalI.mono h (fun x3 I1 J2 h13 => (g_if_eq dX13_sources_5 rfl (fun q4 => (g_iconst dX13_sources_19 kc_n1 (g_ireturn dX13_sources_20 rfl ⟨_, rfl, (h13.1 q4)⟩))) (fun q4 => (g_aload_n dX13_sources_8 0 0 rfl rfl (g_iload_n dX13_sources_9 2 2 rfl rfl (g_iconst dX13_sources_10 kc_0 (g_bipush dX13_sources_11 kb_20 (g_callvI dX13_sources_13 ml_X13_514 md_X13_isAhead mv_X13_isAhead obM_0 rfl rfl rfl (Nat.le_of_ble_eq_true rfl) (CalI.mono (h13.2 q4) (fun x7 I5 J6 h12 => (g_if_ne dX13_sources_16 rfl (fun q8 => (g_iconst dX13_sources_21 kc_0 (g_istore_n dX13_sources_22 rfl (by decide) rfl (g_aload_n dX13_sources_23 1 0 rfl rfl (g_callvV dX13_sources_24 ml_X13_519 md_X13_putsAside mv_X13_putsAside obM_0 rfl rfl rfl (Nat.le_of_ble_eq_true rfl) (CalV.mono (h12.1 q8) (fun I9 J10 h11 => (g_iconst dX13_sources_27 kc_0 (g_istore dX13_sources_28 (by decide) rfl (g_sub [2, 3, 4, 1, 0] rfl h11)))))))))) (fun q8 => (g_iconst dX13_sources_19 kc_n1 (g_ireturn dX13_sources_20 rfl ⟨_, rfl, (h12.2 q8)⟩))))))))))))))))))
theorem bX13_sources_30 {d : Nat}  {v1 : Int32} {v2 : Int32} {v3 : Int32} {v4 : Int32} {I : Ii} {J : Jj} {K : KI}
    (h : CalI wM d mX13_personMany [.ref (0)] I J (fun x3 I1 J2 => (((x3 ≤ v4) → (CalV wM d mX13_takesBack [.ref (0)] I1 J2 (fun I5 J6 => (K (v3) I5 J6)))) ∧ ((¬ x3 ≤ v4) → (CalI wM d mX13_isSource [.ref (0), .int (v4), .int (v1), .int (v2)] I1 J2 (fun x10 I8 J9 => (((x10 = 0) → (GoI wM (d + 1) mX13_sources 30 [(0, .ref (0)), (1, .int (v1)), (2, .int (v2)), (3, .int (v3)), (4, .int (v4 + 1))] [] I8 J9 K)) ∧ ((¬ x10 = 0) → (GoI wM (d + 1) mX13_sources 30 [(0, .ref (0)), (1, .int (v1)), (2, .int (v2)), (3, .int (v3 ||| (1 <<< (v4 &&& 31)))), (4, .int (v4 + 1))] [] I8 J9 K))))))))) :
    GoI wM (d + 1) mX13_sources 30 [(0, .ref (0)), (1, .int (v1)), (2, .int (v2)), (3, .int (v3)), (4, .int (v4))] [] I J K :=
  (g_iload dX13_sources_30 4 rfl (g_aload_n dX13_sources_32 0 0 rfl rfl (g_callvI dX13_sources_33 ml_X13_401 md_X13_personMany mv_X13_personMany obM_0 rfl rfl rfl (Nat.le_of_ble_eq_true rfl) (CalI.mono h (fun x3 I1 J2 h13 => (g_icmp_ge dX13_sources_36 rfl (fun q4 => (g_aload_n dX13_sources_63 0 0 rfl rfl (g_callvV dX13_sources_64 ml_X13_525 md_X13_takesBack mv_X13_takesBack obM_0 rfl rfl rfl (Nat.le_of_ble_eq_true rfl) (CalV.mono (h13.1 q4) (fun I5 J6 h7 => (g_iload_n dX13_sources_67 3 3 rfl rfl (g_ireturn dX13_sources_68 rfl ⟨_, rfl, h7⟩))))))) (fun q4 => (g_aload_n dX13_sources_39 0 0 rfl rfl (g_iload dX13_sources_40 4 rfl (g_iload_n dX13_sources_42 1 1 rfl rfl (g_iload_n dX13_sources_43 2 2 rfl rfl (g_callvI dX13_sources_44 ml_X13_538 md_X13_isSource mv_X13_isSource obM_0 rfl rfl rfl (Nat.le_of_ble_eq_true rfl) (CalI.mono (h13.2 q4) (fun x10 I8 J9 h12 => (g_if_eq dX13_sources_47 rfl (fun q11 => (g_iinc dX13_sources_57 4 rfl rfl (by decide) rfl (g_goto dX13_sources_60 rfl (g_sub [1, 2, 3, 4, 0] rfl (h12.1 q11))))) (fun q11 => (g_iload_n dX13_sources_50 3 3 rfl rfl (g_iconst dX13_sources_51 kc_1 (g_iload dX13_sources_52 4 rfl (g_ishl dX13_sources_54 (g_ior dX13_sources_55 (g_istore_n dX13_sources_56 rfl (by decide) rfl (g_iinc dX13_sources_57 4 rfl rfl (by decide) rfl (g_goto dX13_sources_60 rfl (g_sub [2, 3, 4, 1, 0] rfl (h12.2 q11))))))))))))))))))))))))))
theorem dX13_isSource_0 : decode cX13_isSource 0 = .ok (.aload_n 0, 1) := by decide +kernel
theorem dX13_isSource_1 : decode cX13_isSource 1 = .ok (.iload_n 1, 1) := by decide +kernel
theorem dX13_isSource_2 : decode cX13_isSource 2 = .ok (.iload_n 2, 1) := by decide +kernel
theorem dX13_isSource_3 : decode cX13_isSource 3 = .ok (.invokevirtual 430, 3) := by decide +kernel
theorem dX13_isSource_6 : decode cX13_isSource 6 = .ok (.ifCond .ne 5, 3) := by decide +kernel
theorem dX13_isSource_9 : decode cX13_isSource 9 = .ok (.iconst 0, 1) := by decide +kernel
theorem dX13_isSource_10 : decode cX13_isSource 10 = .ok (.ireturn, 1) := by decide +kernel
theorem dX13_isSource_11 : decode cX13_isSource 11 = .ok (.iconst 0, 1) := by decide +kernel
theorem dX13_isSource_12 : decode cX13_isSource 12 = .ok (.istore 4, 2) := by decide +kernel
theorem dX13_isSource_14 : decode cX13_isSource 14 = .ok (.iload 4, 2) := by decide +kernel
theorem dX13_isSource_16 : decode cX13_isSource 16 = .ok (.aload_n 0, 1) := by decide +kernel
theorem dX13_isSource_17 : decode cX13_isSource 17 = .ok (.invokevirtual 401, 3) := by decide +kernel
theorem dX13_isSource_20 : decode cX13_isSource 20 = .ok (.if_icmp .ge 37, 3) := by decide +kernel
theorem dX13_isSource_23 : decode cX13_isSource 23 = .ok (.aload_n 0, 1) := by decide +kernel
theorem dX13_isSource_24 : decode cX13_isSource 24 = .ok (.iload 4, 2) := by decide +kernel
theorem dX13_isSource_26 : decode cX13_isSource 26 = .ok (.iload_n 2, 1) := by decide +kernel
theorem dX13_isSource_27 : decode cX13_isSource 27 = .ok (.invokevirtual 430, 3) := by decide +kernel
theorem dX13_isSource_30 : decode cX13_isSource 30 = .ok (.ifCond .eq 21, 3) := by decide +kernel
theorem dX13_isSource_33 : decode cX13_isSource 33 = .ok (.aload_n 0, 1) := by decide +kernel
theorem dX13_isSource_34 : decode cX13_isSource 34 = .ok (.iload 4, 2) := by decide +kernel
theorem dX13_isSource_36 : decode cX13_isSource 36 = .ok (.iload_n 2, 1) := by decide +kernel
theorem dX13_isSource_37 : decode cX13_isSource 37 = .ok (.iload 4, 2) := by decide +kernel
theorem dX13_isSource_39 : decode cX13_isSource 39 = .ok (.iload_n 1, 1) := by decide +kernel
theorem dX13_isSource_40 : decode cX13_isSource 40 = .ok (.if_icmp .ne 7, 3) := by decide +kernel
theorem dX13_isSource_43 : decode cX13_isSource 43 = .ok (.iconst 2, 1) := by decide +kernel
theorem dX13_isSource_44 : decode cX13_isSource 44 = .ok (.goto 4, 3) := by decide +kernel
theorem dX13_isSource_47 : decode cX13_isSource 47 = .ok (.iconst 1, 1) := by decide +kernel
theorem dX13_isSource_48 : decode cX13_isSource 48 = .ok (.invokevirtual 439, 3) := by decide +kernel
theorem dX13_isSource_51 : decode cX13_isSource 51 = .ok (.iinc 4 1, 3) := by decide +kernel
theorem dX13_isSource_54 : decode cX13_isSource 54 = .ok (.goto (-40), 3) := by decide +kernel
theorem dX13_isSource_57 : decode cX13_isSource 57 = .ok (.aload_n 0, 1) := by decide +kernel
theorem dX13_isSource_58 : decode cX13_isSource 58 = .ok (.iload_n 3, 1) := by decide +kernel
theorem dX13_isSource_59 : decode cX13_isSource 59 = .ok (.invokevirtual 522, 3) := by decide +kernel
theorem dX13_isSource_62 : decode cX13_isSource 62 = .ok (.iconst 0, 1) := by decide +kernel
theorem dX13_isSource_63 : decode cX13_isSource 63 = .ok (.istore 4, 2) := by decide +kernel
theorem dX13_isSource_65 : decode cX13_isSource 65 = .ok (.iload 4, 2) := by decide +kernel
theorem dX13_isSource_67 : decode cX13_isSource 67 = .ok (.aload_n 0, 1) := by decide +kernel
theorem dX13_isSource_68 : decode cX13_isSource 68 = .ok (.invokevirtual 401, 3) := by decide +kernel
theorem dX13_isSource_71 : decode cX13_isSource 71 = .ok (.if_icmp .ge 23, 3) := by decide +kernel
theorem dX13_isSource_74 : decode cX13_isSource 74 = .ok (.aload_n 0, 1) := by decide +kernel
theorem dX13_isSource_75 : decode cX13_isSource 75 = .ok (.getfield 154, 3) := by decide +kernel
theorem dX13_isSource_78 : decode cX13_isSource 78 = .ok (.iload 4, 2) := by decide +kernel
theorem dX13_isSource_80 : decode cX13_isSource 80 = .ok (.aload_n 0, 1) := by decide +kernel
theorem dX13_isSource_81 : decode cX13_isSource 81 = .ok (.iload 4, 2) := by decide +kernel
theorem dX13_isSource_83 : decode cX13_isSource 83 = .ok (.iload_n 2, 1) := by decide +kernel
theorem dX13_isSource_84 : decode cX13_isSource 84 = .ok (.invokevirtual 430, 3) := by decide +kernel
theorem dX13_isSource_87 : decode cX13_isSource 87 = .ok (.iastore, 1) := by decide +kernel
theorem dX13_isSource_88 : decode cX13_isSource 88 = .ok (.iinc 4 1, 3) := by decide +kernel
theorem dX13_isSource_91 : decode cX13_isSource 91 = .ok (.goto (-26), 3) := by decide +kernel
theorem dX13_isSource_94 : decode cX13_isSource 94 = .ok (.aload_n 0, 1) := by decide +kernel
theorem dX13_isSource_95 : decode cX13_isSource 95 = .ok (.invokevirtual 480, 3) := by decide +kernel
theorem dX13_isSource_98 : decode cX13_isSource 98 = .ok (.iconst 0, 1) := by decide +kernel
theorem dX13_isSource_99 : decode cX13_isSource 99 = .ok (.istore 4, 2) := by decide +kernel
theorem dX13_isSource_101 : decode cX13_isSource 101 = .ok (.iload 4, 2) := by decide +kernel
theorem dX13_isSource_103 : decode cX13_isSource 103 = .ok (.aload_n 0, 1) := by decide +kernel
theorem dX13_isSource_104 : decode cX13_isSource 104 = .ok (.getfield 395, 3) := by decide +kernel
theorem dX13_isSource_107 : decode cX13_isSource 107 = .ok (.if_icmp .ge 39, 3) := by decide +kernel
theorem dX13_isSource_110 : decode cX13_isSource 110 = .ok (.aload_n 0, 1) := by decide +kernel
theorem dX13_isSource_111 : decode cX13_isSource 111 = .ok (.getfield 154, 3) := by decide +kernel
theorem dX13_isSource_114 : decode cX13_isSource 114 = .ok (.aload_n 0, 1) := by decide +kernel
theorem dX13_isSource_115 : decode cX13_isSource 115 = .ok (.getfield 151, 3) := by decide +kernel
theorem dX13_isSource_118 : decode cX13_isSource 118 = .ok (.iconst 2, 1) := by decide +kernel
theorem dX13_isSource_119 : decode cX13_isSource 119 = .ok (.iload 4, 2) := by decide +kernel
theorem dX13_isSource_121 : decode cX13_isSource 121 = .ok (.imul, 1) := by decide +kernel
theorem dX13_isSource_122 : decode cX13_isSource 122 = .ok (.iaload, 1) := by decide +kernel
theorem dX13_isSource_123 : decode cX13_isSource 123 = .ok (.iaload, 1) := by decide +kernel
theorem dX13_isSource_124 : decode cX13_isSource 124 = .ok (.aload_n 0, 1) := by decide +kernel
theorem dX13_isSource_125 : decode cX13_isSource 125 = .ok (.getfield 151, 3) := by decide +kernel
theorem dX13_isSource_128 : decode cX13_isSource 128 = .ok (.iconst 2, 1) := by decide +kernel
theorem dX13_isSource_129 : decode cX13_isSource 129 = .ok (.iload 4, 2) := by decide +kernel
theorem dX13_isSource_131 : decode cX13_isSource 131 = .ok (.imul, 1) := by decide +kernel
theorem dX13_isSource_132 : decode cX13_isSource 132 = .ok (.iconst 1, 1) := by decide +kernel
theorem dX13_isSource_133 : decode cX13_isSource 133 = .ok (.iadd, 1) := by decide +kernel
theorem dX13_isSource_134 : decode cX13_isSource 134 = .ok (.iaload, 1) := by decide +kernel
theorem dX13_isSource_135 : decode cX13_isSource 135 = .ok (.if_icmp .eq 5, 3) := by decide +kernel
theorem dX13_isSource_138 : decode cX13_isSource 138 = .ok (.iconst 0, 1) := by decide +kernel
theorem dX13_isSource_139 : decode cX13_isSource 139 = .ok (.ireturn, 1) := by decide +kernel
theorem dX13_isSource_140 : decode cX13_isSource 140 = .ok (.iinc 4 1, 3) := by decide +kernel
theorem dX13_isSource_143 : decode cX13_isSource 143 = .ok (.goto (-42), 3) := by decide +kernel
theorem dX13_isSource_146 : decode cX13_isSource 146 = .ok (.iconst 1, 1) := by decide +kernel
theorem dX13_isSource_147 : decode cX13_isSource 147 = .ok (.ireturn, 1) := by decide +kernel
theorem bX13_isSource_0 {d : Nat}  {v1 : Int32} {v2 : Int32} {v3 : Int32} {I : Ii} {J : Jj} {K : KI}
    (h : CalI wM d mX13_isOf [.ref (0), .int (v1), .int (v2)] I J (fun x3 I1 J2 => (((¬ x3 = 0) → (GoI wM (d + 1) mX13_isSource 14 [(0, .ref (0)), (1, .int (v1)), (2, .int (v2)), (3, .int (v3)), (4, .int (0))] [] I1 J2 K)) ∧ ((x3 = 0) → (K (0) I1 J2))))) :
    GoI wM (d + 1) mX13_isSource 0 [(0, .ref (0)), (1, .int (v1)), (2, .int (v2)), (3, .int (v3))] [] I J K :=
  (g_aload_n dX13_isSource_0 0 0 rfl rfl (g_iload_n dX13_isSource_1 1 1 rfl rfl (g_iload_n dX13_isSource_2 2 2 rfl rfl (g_callvI dX13_isSource_3 ml_X13_430 md_X13_isOf mv_X13_isOf obM_0 rfl rfl rfl (Nat.le_of_ble_eq_true rfl) (CalI.mono h (fun x3 I1 J2 h5 => (g_if_ne dX13_isSource_6 rfl (fun q4 => (g_iconst dX13_isSource_11 kc_0 (g_istore dX13_isSource_12 (by decide) rfl (g_sub [1, 2, 3, 4, 0] rfl (h5.1 q4))))) (fun q4 => (g_iconst dX13_isSource_9 kc_0 (g_zreturn dX13_isSource_10 rfl (narZ (by decide)) ⟨_, rfl, (h5.2 q4)⟩))))))))))
theorem bX13_isSource_14 {d : Nat}  {v1 : Int32} {v2 : Int32} {v3 : Int32} {v4 : Int32} {I : Ii} {J : Jj} {K : KI}
    (h : CalI wM d mX13_personMany [.ref (0)] I J (fun x3 I1 J2 => (((x3 ≤ v4) → (CalV wM d mX13_yearsGo [.ref (0), .int (v3)] I1 J2 (fun I5 J6 => (GoI wM (d + 1) mX13_isSource 65 [(0, .ref (0)), (2, .int (v2)), (4, .int (0))] [] I5 J6 K)))) ∧ ((¬ x3 ≤ v4) → (CalI wM d mX13_isOf [.ref (0), .int (v4), .int (v2)] I1 J2 (fun x10 I8 J9 => (((x10 = 0) → (GoI wM (d + 1) mX13_isSource 14 [(0, .ref (0)), (1, .int (v1)), (2, .int (v2)), (3, .int (v3)), (4, .int (v4 + 1))] [] I8 J9 K)) ∧ ((¬ x10 = 0) → (((¬ v4 = v1) → (CalV wM d mX13_makes [.ref (0), .int (v4), .int (v2), .int (1)] I8 J9 (fun I13 J14 => (GoI wM (d + 1) mX13_isSource 14 [(0, .ref (0)), (1, .int (v1)), (2, .int (v2)), (3, .int (v3)), (4, .int (v4 + 1))] [] I13 J14 K)))) ∧ ((v4 = v1) → (CalV wM d mX13_makes [.ref (0), .int (v4), .int (v2), .int (2)] I8 J9 (fun I16 J17 => (GoI wM (d + 1) mX13_isSource 14 [(0, .ref (0)), (1, .int (v1)), (2, .int (v2)), (3, .int (v3)), (4, .int (v4 + 1))] [] I16 J17 K))))))))))))) :
    GoI wM (d + 1) mX13_isSource 14 [(0, .ref (0)), (1, .int (v1)), (2, .int (v2)), (3, .int (v3)), (4, .int (v4))] [] I J K :=
  (g_iload dX13_isSource_14 4 rfl (g_aload_n dX13_isSource_16 0 0 rfl rfl (g_callvI dX13_isSource_17 ml_X13_401 md_X13_personMany mv_X13_personMany obM_0 rfl rfl rfl (Nat.le_of_ble_eq_true rfl) (CalI.mono h (fun x3 I1 J2 h20 => (g_icmp_ge dX13_isSource_20 rfl (fun q4 => (g_aload_n dX13_isSource_57 0 0 rfl rfl (g_iload_n dX13_isSource_58 3 3 rfl rfl (g_callvV dX13_isSource_59 ml_X13_522 md_X13_yearsGo mv_X13_yearsGo obM_0 rfl rfl rfl (Nat.le_of_ble_eq_true rfl) (CalV.mono (h20.1 q4) (fun I5 J6 h7 => (g_iconst dX13_isSource_62 kc_0 (g_istore dX13_isSource_63 (by decide) rfl (g_sub [1, 3, 0] rfl h7))))))))) (fun q4 => (g_aload_n dX13_isSource_23 0 0 rfl rfl (g_iload dX13_isSource_24 4 rfl (g_iload_n dX13_isSource_26 2 2 rfl rfl (g_callvI dX13_isSource_27 ml_X13_430 md_X13_isOf mv_X13_isOf obM_0 rfl rfl rfl (Nat.le_of_ble_eq_true rfl) (CalI.mono (h20.2 q4) (fun x10 I8 J9 h19 => (g_if_eq dX13_isSource_30 rfl (fun q11 => (g_iinc dX13_isSource_51 4 rfl rfl (by decide) rfl (g_goto dX13_isSource_54 rfl (g_sub [1, 2, 3, 4, 0] rfl (h19.1 q11))))) (fun q11 => (g_aload_n dX13_isSource_33 0 0 rfl rfl (g_iload dX13_isSource_34 4 rfl (g_iload_n dX13_isSource_36 2 2 rfl rfl (g_iload dX13_isSource_37 4 rfl (g_iload_n dX13_isSource_39 1 1 rfl rfl (g_icmp_ne dX13_isSource_40 rfl (fun q12 => (g_iconst dX13_isSource_47 kc_1 (g_callvV dX13_isSource_48 ml_X13_439 md_X13_makes mv_X13_makes obM_0 rfl rfl rfl (Nat.le_of_ble_eq_true rfl) (CalV.mono ((h19.2 q11).1 q12) (fun I13 J14 h15 => (g_iinc dX13_isSource_51 4 rfl rfl (by decide) rfl (g_goto dX13_isSource_54 rfl (g_sub [1, 2, 3, 4, 0] rfl h15)))))))) (fun q12 => (g_iconst dX13_isSource_43 kc_2 (g_goto dX13_isSource_44 rfl (g_callvV dX13_isSource_48 ml_X13_439 md_X13_makes mv_X13_makes obM_0 rfl rfl rfl (Nat.le_of_ble_eq_true rfl) (CalV.mono ((h19.2 q11).2 q12) (fun I16 J17 h18 => (g_iinc dX13_isSource_51 4 rfl rfl (by decide) rfl (g_goto dX13_isSource_54 rfl (g_sub [1, 2, 3, 4, 0] rfl h18))))))))))))))))))))))))))))))
theorem bX13_isSource_65 {d : Nat}  {v2 : Int32} {v4 : Int32} {I : Ii} {J : Jj} {K : KI}
    (h : CalI wM d mX13_personMany [.ref (0)] I J (fun x3 I1 J2 => (((x3 ≤ v4) → (CalV wM d mX13_triesAnew [.ref (0)] I1 J2 (fun I5 J6 => (GoI wM (d + 1) mX13_isSource 101 [(0, .ref (0)), (4, .int (0))] [] I5 J6 K)))) ∧ ((¬ x3 ≤ v4) → (CalI wM d mX13_isOf [.ref (0), .int (v4), .int (v2)] I1 J2 (fun x10 I8 J9 => (vp_in (v4) 8 ∧ (GoI wM (d + 1) mX13_isSource 65 [(0, .ref (0)), (2, .int (v2)), (4, .int (v4 + 1))] [] (u2 I8 47 v4.toNatClampNeg x10) J9 K)))))))) :
    GoI wM (d + 1) mX13_isSource 65 [(0, .ref (0)), (2, .int (v2)), (4, .int (v4))] [] I J K :=
  (g_iload dX13_isSource_65 2 rfl (g_aload_n dX13_isSource_67 0 0 rfl rfl (g_callvI dX13_isSource_68 ml_X13_401 md_X13_personMany mv_X13_personMany obM_0 rfl rfl rfl (Nat.le_of_ble_eq_true rfl) (CalI.mono h (fun x3 I1 J2 h14 => (g_icmp_ge dX13_isSource_71 rfl (fun q4 => (g_aload_n dX13_isSource_94 0 0 rfl rfl (g_callvV dX13_isSource_95 ml_X13_480 md_X13_triesAnew mv_X13_triesAnew obM_0 rfl rfl rfl (Nat.le_of_ble_eq_true rfl) (CalV.mono (h14.1 q4) (fun I5 J6 h7 => (g_iconst dX13_isSource_98 kc_0 (g_istore dX13_isSource_99 (by decide) rfl (g_sub [1, 0] rfl h7)))))))) (fun q4 => (g_aload_n dX13_isSource_74 0 0 rfl rfl (g_getP dX13_isSource_75 fl_X13_154 rfl obM_0 rfl (g_iload dX13_isSource_78 2 rfl (g_aload_n dX13_isSource_80 0 0 rfl rfl (g_iload dX13_isSource_81 2 rfl (g_iload_n dX13_isSource_83 1 2 rfl rfl (g_callvI dX13_isSource_84 ml_X13_430 md_X13_isOf mv_X13_isOf obM_0 rfl rfl rfl (Nat.le_of_ble_eq_true rfl) (CalI.mono (h14.2 q4) (fun x10 I8 J9 h13 => (have b11 := h13.1; g_iast dX13_isSource_87 arM_47 b11 (g_iinc dX13_isSource_88 2 rfl rfl (by decide) rfl (g_goto dX13_isSource_91 rfl (g_sub [1, 2, 0] rfl h13.2))))))))))))))))))))
theorem bX13_isSource_101 {d : Nat}  {v4 : Int32} {I : Ii} {J : Jj} {K : KI}
    (h : (((I 0 60) ≤ v4) → (K (1) I J)) ∧ ((¬ (I 0 60) ≤ v4) → (vp_in (2 * v4) 32 ∧ (vp_in (I 46 (2 * v4).toNatClampNeg) 8 ∧ (vp_in ((2 * v4) + 1) 32 ∧ ((((I 47 (I 46 (2 * v4).toNatClampNeg).toNatClampNeg) = (I 46 ((2 * v4) + 1).toNatClampNeg)) → (GoI wM (d + 1) mX13_isSource 101 [(0, .ref (0)), (4, .int (v4 + 1))] [] I J K)) ∧ ((¬ (I 47 (I 46 (2 * v4).toNatClampNeg).toNatClampNeg) = (I 46 ((2 * v4) + 1).toNatClampNeg)) → (K (0) I J)))))))) :
    GoI wM (d + 1) mX13_isSource 101 [(0, .ref (0)), (4, .int (v4))] [] I J K :=
  (g_iload dX13_isSource_101 1 rfl (g_aload_n dX13_isSource_103 0 0 rfl rfl (g_getI dX13_isSource_104 fl_X13_395 rfl obM_0 (g_icmp_ge dX13_isSource_107 rfl (fun q1 => (g_iconst dX13_isSource_146 kc_1 (g_zreturn dX13_isSource_147 rfl (narZ (by decide)) ⟨_, rfl, (h.1 q1)⟩))) (fun q1 => (g_aload_n dX13_isSource_110 0 0 rfl rfl (g_getP dX13_isSource_111 fl_X13_154 rfl obM_0 rfl (g_aload_n dX13_isSource_114 0 0 rfl rfl (g_getP dX13_isSource_115 fl_X13_151 rfl obM_0 rfl (g_iconst dX13_isSource_118 kc_2 (g_iload dX13_isSource_119 1 rfl (g_imul dX13_isSource_121 (have b2 := (h.2 q1).1; g_iald dX13_isSource_122 arM_46 b2 (have b3 := (h.2 q1).2.1; g_iald dX13_isSource_123 arM_47 b3 (g_aload_n dX13_isSource_124 0 0 rfl rfl (g_getP dX13_isSource_125 fl_X13_151 rfl obM_0 rfl (g_iconst dX13_isSource_128 kc_2 (g_iload dX13_isSource_129 1 rfl (g_imul dX13_isSource_131 (g_iconst dX13_isSource_132 kc_1 (g_iadd dX13_isSource_133 (have b4 := (h.2 q1).2.2.1; g_iald dX13_isSource_134 arM_46 b4 (g_icmp_eq dX13_isSource_135 rfl (fun q5 => (g_iinc dX13_isSource_140 1 rfl rfl (by decide) rfl (g_goto dX13_isSource_143 rfl (g_sub [1, 0] rfl ((h.2 q1).2.2.2.1 q5))))) (fun q5 => (g_iconst dX13_isSource_138 kc_0 (g_zreturn dX13_isSource_139 rfl (narZ (by decide)) ⟨_, rfl, ((h.2 q1).2.2.2.2 q5)⟩))))))))))))))))))))))))))
theorem dX13_probe_0 : decode cX13_probe 0 = .ok (.aload_n 0, 1) := by decide +kernel
theorem dX13_probe_1 : decode cX13_probe 1 = .ok (.iload_n 1, 1) := by decide +kernel
theorem dX13_probe_2 : decode cX13_probe 2 = .ok (.invokevirtual 495, 3) := by decide +kernel
theorem dX13_probe_5 : decode cX13_probe 5 = .ok (.ifCond .eq 24, 3) := by decide +kernel
theorem dX13_probe_8 : decode cX13_probe 8 = .ok (.aload_n 0, 1) := by decide +kernel
theorem dX13_probe_9 : decode cX13_probe 9 = .ok (.iload_n 2, 1) := by decide +kernel
theorem dX13_probe_10 : decode cX13_probe 10 = .ok (.iconst 0, 1) := by decide +kernel
theorem dX13_probe_11 : decode cX13_probe 11 = .ok (.bipush 20, 2) := by decide +kernel
theorem dX13_probe_13 : decode cX13_probe 13 = .ok (.invokevirtual 514, 3) := by decide +kernel
theorem dX13_probe_16 : decode cX13_probe 16 = .ok (.ifCond .eq 13, 3) := by decide +kernel
theorem dX13_probe_19 : decode cX13_probe 19 = .ok (.iload_n 3, 1) := by decide +kernel
theorem dX13_probe_20 : decode cX13_probe 20 = .ok (.i2l, 1) := by decide +kernel
theorem dX13_probe_21 : decode cX13_probe 21 = .ok (.lconst 0, 1) := by decide +kernel
theorem dX13_probe_22 : decode cX13_probe 22 = .ok (.lconst 1, 1) := by decide +kernel
theorem dX13_probe_23 : decode cX13_probe 23 = .ok (.invokestatic 297, 3) := by decide +kernel
theorem dX13_probe_26 : decode cX13_probe 26 = .ok (.ifCond .ne 5, 3) := by decide +kernel
theorem dX13_probe_29 : decode cX13_probe 29 = .ok (.iconst (-1), 1) := by decide +kernel
theorem dX13_probe_30 : decode cX13_probe 30 = .ok (.ireturn, 1) := by decide +kernel
theorem dX13_probe_31 : decode cX13_probe 31 = .ok (.iconst 0, 1) := by decide +kernel
theorem dX13_probe_32 : decode cX13_probe 32 = .ok (.istore 4, 2) := by decide +kernel
theorem dX13_probe_34 : decode cX13_probe 34 = .ok (.iconst 0, 1) := by decide +kernel
theorem dX13_probe_35 : decode cX13_probe 35 = .ok (.istore 5, 2) := by decide +kernel
theorem dX13_probe_37 : decode cX13_probe 37 = .ok (.iload 5, 2) := by decide +kernel
theorem dX13_probe_39 : decode cX13_probe 39 = .ok (.bipush 24, 2) := by decide +kernel
theorem dX13_probe_41 : decode cX13_probe 41 = .ok (.if_icmp .ge 17, 3) := by decide +kernel
theorem dX13_probe_44 : decode cX13_probe 44 = .ok (.aload_n 0, 1) := by decide +kernel
theorem dX13_probe_45 : decode cX13_probe 45 = .ok (.getfield 157, 3) := by decide +kernel
theorem dX13_probe_48 : decode cX13_probe 48 = .ok (.iload 5, 2) := by decide +kernel
theorem dX13_probe_50 : decode cX13_probe 50 = .ok (.iconst 0, 1) := by decide +kernel
theorem dX13_probe_51 : decode cX13_probe 51 = .ok (.iastore, 1) := by decide +kernel
theorem dX13_probe_52 : decode cX13_probe 52 = .ok (.iinc 5 1, 3) := by decide +kernel
theorem dX13_probe_55 : decode cX13_probe 55 = .ok (.goto (-18), 3) := by decide +kernel
theorem dX13_probe_58 : decode cX13_probe 58 = .ok (.aload_n 0, 1) := by decide +kernel
theorem dX13_probe_59 : decode cX13_probe 59 = .ok (.invokevirtual 519, 3) := by decide +kernel
theorem dX13_probe_62 : decode cX13_probe 62 = .ok (.iconst 0, 1) := by decide +kernel
theorem dX13_probe_63 : decode cX13_probe 63 = .ok (.istore 5, 2) := by decide +kernel
theorem dX13_probe_65 : decode cX13_probe 65 = .ok (.iload 5, 2) := by decide +kernel
theorem dX13_probe_67 : decode cX13_probe 67 = .ok (.aload_n 0, 1) := by decide +kernel
theorem dX13_probe_68 : decode cX13_probe 68 = .ok (.invokevirtual 401, 3) := by decide +kernel
theorem dX13_probe_71 : decode cX13_probe 71 = .ok (.if_icmp .ge 65, 3) := by decide +kernel
theorem dX13_probe_74 : decode cX13_probe 74 = .ok (.aload_n 0, 1) := by decide +kernel
theorem dX13_probe_75 : decode cX13_probe 75 = .ok (.iload 5, 2) := by decide +kernel
theorem dX13_probe_77 : decode cX13_probe 77 = .ok (.iload_n 1, 1) := by decide +kernel
theorem dX13_probe_78 : decode cX13_probe 78 = .ok (.iload_n 2, 1) := by decide +kernel
theorem dX13_probe_79 : decode cX13_probe 79 = .ok (.invokevirtual 538, 3) := by decide +kernel
theorem dX13_probe_82 : decode cX13_probe 82 = .ok (.ifCond .ne 6, 3) := by decide +kernel
theorem dX13_probe_85 : decode cX13_probe 85 = .ok (.goto 45, 3) := by decide +kernel
theorem dX13_probe_88 : decode cX13_probe 88 = .ok (.iinc 4 1, 3) := by decide +kernel
theorem dX13_probe_91 : decode cX13_probe 91 = .ok (.iconst 0, 1) := by decide +kernel
theorem dX13_probe_92 : decode cX13_probe 92 = .ok (.istore 6, 2) := by decide +kernel
theorem dX13_probe_94 : decode cX13_probe 94 = .ok (.iload 6, 2) := by decide +kernel
theorem dX13_probe_96 : decode cX13_probe 96 = .ok (.aload_n 0, 1) := by decide +kernel
theorem dX13_probe_97 : decode cX13_probe 97 = .ok (.invokevirtual 401, 3) := by decide +kernel
theorem dX13_probe_100 : decode cX13_probe 100 = .ok (.if_icmp .ge 30, 3) := by decide +kernel
theorem dX13_probe_103 : decode cX13_probe 103 = .ok (.aload_n 0, 1) := by decide +kernel
theorem dX13_probe_104 : decode cX13_probe 104 = .ok (.getfield 157, 3) := by decide +kernel
theorem dX13_probe_107 : decode cX13_probe 107 = .ok (.iconst 3, 1) := by decide +kernel
theorem dX13_probe_108 : decode cX13_probe 108 = .ok (.iload 6, 2) := by decide +kernel
theorem dX13_probe_110 : decode cX13_probe 110 = .ok (.imul, 1) := by decide +kernel
theorem dX13_probe_111 : decode cX13_probe 111 = .ok (.aload_n 0, 1) := by decide +kernel
theorem dX13_probe_112 : decode cX13_probe 112 = .ok (.getfield 154, 3) := by decide +kernel
theorem dX13_probe_115 : decode cX13_probe 115 = .ok (.iload 6, 2) := by decide +kernel
theorem dX13_probe_117 : decode cX13_probe 117 = .ok (.iaload, 1) := by decide +kernel
theorem dX13_probe_118 : decode cX13_probe 118 = .ok (.iadd, 1) := by decide +kernel
theorem dX13_probe_119 : decode cX13_probe 119 = .ok (.dup2, 1) := by decide +kernel
theorem dX13_probe_120 : decode cX13_probe 120 = .ok (.iaload, 1) := by decide +kernel
theorem dX13_probe_121 : decode cX13_probe 121 = .ok (.iconst 1, 1) := by decide +kernel
theorem dX13_probe_122 : decode cX13_probe 122 = .ok (.iadd, 1) := by decide +kernel
theorem dX13_probe_123 : decode cX13_probe 123 = .ok (.iastore, 1) := by decide +kernel
theorem dX13_probe_124 : decode cX13_probe 124 = .ok (.iinc 6 1, 3) := by decide +kernel
theorem dX13_probe_127 : decode cX13_probe 127 = .ok (.goto (-33), 3) := by decide +kernel
theorem dX13_probe_130 : decode cX13_probe 130 = .ok (.iinc 5 1, 3) := by decide +kernel
theorem dX13_probe_133 : decode cX13_probe 133 = .ok (.goto (-68), 3) := by decide +kernel
theorem dX13_probe_136 : decode cX13_probe 136 = .ok (.aload_n 0, 1) := by decide +kernel
theorem dX13_probe_137 : decode cX13_probe 137 = .ok (.invokevirtual 525, 3) := by decide +kernel
theorem dX13_probe_140 : decode cX13_probe 140 = .ok (.iconst (-1), 1) := by decide +kernel
theorem dX13_probe_141 : decode cX13_probe 141 = .ok (.istore 5, 2) := by decide +kernel
theorem dX13_probe_143 : decode cX13_probe 143 = .ok (.iconst 0, 1) := by decide +kernel
theorem dX13_probe_144 : decode cX13_probe 144 = .ok (.istore 6, 2) := by decide +kernel
theorem dX13_probe_146 : decode cX13_probe 146 = .ok (.iconst 0, 1) := by decide +kernel
theorem dX13_probe_147 : decode cX13_probe 147 = .ok (.istore 7, 2) := by decide +kernel
theorem dX13_probe_149 : decode cX13_probe 149 = .ok (.iload 7, 2) := by decide +kernel
theorem dX13_probe_151 : decode cX13_probe 151 = .ok (.aload_n 0, 1) := by decide +kernel
theorem dX13_probe_152 : decode cX13_probe 152 = .ok (.invokevirtual 401, 3) := by decide +kernel
theorem dX13_probe_155 : decode cX13_probe 155 = .ok (.if_icmp .ge 107, 3) := by decide +kernel
theorem dX13_probe_158 : decode cX13_probe 158 = .ok (.iload 4, 2) := by decide +kernel
theorem dX13_probe_160 : decode cX13_probe 160 = .ok (.ifCond .le 102, 3) := by decide +kernel
theorem dX13_probe_163 : decode cX13_probe 163 = .ok (.aload_n 0, 1) := by decide +kernel
theorem dX13_probe_164 : decode cX13_probe 164 = .ok (.getfield 157, 3) := by decide +kernel
theorem dX13_probe_167 : decode cX13_probe 167 = .ok (.iconst 3, 1) := by decide +kernel
theorem dX13_probe_168 : decode cX13_probe 168 = .ok (.iload 7, 2) := by decide +kernel
theorem dX13_probe_170 : decode cX13_probe 170 = .ok (.imul, 1) := by decide +kernel
theorem dX13_probe_171 : decode cX13_probe 171 = .ok (.iaload, 1) := by decide +kernel
theorem dX13_probe_172 : decode cX13_probe 172 = .ok (.istore 8, 2) := by decide +kernel
theorem dX13_probe_174 : decode cX13_probe 174 = .ok (.aload_n 0, 1) := by decide +kernel
theorem dX13_probe_175 : decode cX13_probe 175 = .ok (.getfield 157, 3) := by decide +kernel
theorem dX13_probe_178 : decode cX13_probe 178 = .ok (.iconst 3, 1) := by decide +kernel
theorem dX13_probe_179 : decode cX13_probe 179 = .ok (.iload 7, 2) := by decide +kernel
theorem dX13_probe_181 : decode cX13_probe 181 = .ok (.imul, 1) := by decide +kernel
theorem dX13_probe_182 : decode cX13_probe 182 = .ok (.iconst 1, 1) := by decide +kernel
theorem dX13_probe_183 : decode cX13_probe 183 = .ok (.iadd, 1) := by decide +kernel
theorem dX13_probe_184 : decode cX13_probe 184 = .ok (.iaload, 1) := by decide +kernel
theorem dX13_probe_185 : decode cX13_probe 185 = .ok (.iload 8, 2) := by decide +kernel
theorem dX13_probe_187 : decode cX13_probe 187 = .ok (.if_icmp .le 16, 3) := by decide +kernel
theorem dX13_probe_190 : decode cX13_probe 190 = .ok (.aload_n 0, 1) := by decide +kernel
theorem dX13_probe_191 : decode cX13_probe 191 = .ok (.getfield 157, 3) := by decide +kernel
theorem dX13_probe_194 : decode cX13_probe 194 = .ok (.iconst 3, 1) := by decide +kernel
theorem dX13_probe_195 : decode cX13_probe 195 = .ok (.iload 7, 2) := by decide +kernel
theorem dX13_probe_197 : decode cX13_probe 197 = .ok (.imul, 1) := by decide +kernel
theorem dX13_probe_198 : decode cX13_probe 198 = .ok (.iconst 1, 1) := by decide +kernel
theorem dX13_probe_199 : decode cX13_probe 199 = .ok (.iadd, 1) := by decide +kernel
theorem dX13_probe_200 : decode cX13_probe 200 = .ok (.iaload, 1) := by decide +kernel
theorem dX13_probe_201 : decode cX13_probe 201 = .ok (.istore 8, 2) := by decide +kernel
theorem dX13_probe_203 : decode cX13_probe 203 = .ok (.aload_n 0, 1) := by decide +kernel
theorem dX13_probe_204 : decode cX13_probe 204 = .ok (.getfield 157, 3) := by decide +kernel
theorem dX13_probe_207 : decode cX13_probe 207 = .ok (.iconst 3, 1) := by decide +kernel
theorem dX13_probe_208 : decode cX13_probe 208 = .ok (.iload 7, 2) := by decide +kernel
theorem dX13_probe_210 : decode cX13_probe 210 = .ok (.imul, 1) := by decide +kernel
theorem dX13_probe_211 : decode cX13_probe 211 = .ok (.iconst 2, 1) := by decide +kernel
theorem dX13_probe_212 : decode cX13_probe 212 = .ok (.iadd, 1) := by decide +kernel
theorem dX13_probe_213 : decode cX13_probe 213 = .ok (.iaload, 1) := by decide +kernel
theorem dX13_probe_214 : decode cX13_probe 214 = .ok (.iload 8, 2) := by decide +kernel
theorem dX13_probe_216 : decode cX13_probe 216 = .ok (.if_icmp .le 16, 3) := by decide +kernel
theorem dX13_probe_219 : decode cX13_probe 219 = .ok (.aload_n 0, 1) := by decide +kernel
theorem dX13_probe_220 : decode cX13_probe 220 = .ok (.getfield 157, 3) := by decide +kernel
theorem dX13_probe_223 : decode cX13_probe 223 = .ok (.iconst 3, 1) := by decide +kernel
theorem dX13_probe_224 : decode cX13_probe 224 = .ok (.iload 7, 2) := by decide +kernel
theorem dX13_probe_226 : decode cX13_probe 226 = .ok (.imul, 1) := by decide +kernel
theorem dX13_probe_227 : decode cX13_probe 227 = .ok (.iconst 2, 1) := by decide +kernel
theorem dX13_probe_228 : decode cX13_probe 228 = .ok (.iadd, 1) := by decide +kernel
theorem dX13_probe_229 : decode cX13_probe 229 = .ok (.iaload, 1) := by decide +kernel
theorem dX13_probe_230 : decode cX13_probe 230 = .ok (.istore 8, 2) := by decide +kernel
theorem dX13_probe_232 : decode cX13_probe 232 = .ok (.iload 5, 2) := by decide +kernel
theorem dX13_probe_234 : decode cX13_probe 234 = .ok (.iconst (-1), 1) := by decide +kernel
theorem dX13_probe_235 : decode cX13_probe 235 = .ok (.if_icmp .eq 13, 3) := by decide +kernel
theorem dX13_probe_238 : decode cX13_probe 238 = .ok (.iload 8, 2) := by decide +kernel
theorem dX13_probe_240 : decode cX13_probe 240 = .ok (.iload 6, 2) := by decide +kernel
theorem dX13_probe_242 : decode cX13_probe 242 = .ok (.if_icmp .lt 6, 3) := by decide +kernel
theorem dX13_probe_245 : decode cX13_probe 245 = .ok (.goto 11, 3) := by decide +kernel
theorem dX13_probe_248 : decode cX13_probe 248 = .ok (.iload 7, 2) := by decide +kernel
theorem dX13_probe_250 : decode cX13_probe 250 = .ok (.istore 5, 2) := by decide +kernel
theorem dX13_probe_252 : decode cX13_probe 252 = .ok (.iload 8, 2) := by decide +kernel
theorem dX13_probe_254 : decode cX13_probe 254 = .ok (.istore 6, 2) := by decide +kernel
theorem dX13_probe_256 : decode cX13_probe 256 = .ok (.iinc 7 1, 3) := by decide +kernel
theorem dX13_probe_259 : decode cX13_probe 259 = .ok (.goto (-110), 3) := by decide +kernel
theorem dX13_probe_262 : decode cX13_probe 262 = .ok (.iload 5, 2) := by decide +kernel
theorem dX13_probe_264 : decode cX13_probe 264 = .ok (.iconst (-1), 1) := by decide +kernel
theorem dX13_probe_265 : decode cX13_probe 265 = .ok (.if_icmp .ne 7, 3) := by decide +kernel
theorem dX13_probe_268 : decode cX13_probe 268 = .ok (.iconst (-1), 1) := by decide +kernel
theorem dX13_probe_269 : decode cX13_probe 269 = .ok (.goto 14, 3) := by decide +kernel
theorem dX13_probe_272 : decode cX13_probe 272 = .ok (.iload_n 3, 1) := by decide +kernel
theorem dX13_probe_273 : decode cX13_probe 273 = .ok (.ifCond .ne 8, 3) := by decide +kernel
theorem dX13_probe_276 : decode cX13_probe 276 = .ok (.iload 5, 2) := by decide +kernel
theorem dX13_probe_278 : decode cX13_probe 278 = .ok (.goto 5, 3) := by decide +kernel
theorem dX13_probe_281 : decode cX13_probe 281 = .ok (.iload 6, 2) := by decide +kernel
theorem dX13_probe_283 : decode cX13_probe 283 = .ok (.ireturn, 1) := by decide +kernel
theorem bX13_probe_0 {d : Nat}  {v1 : Int32} {v2 : Int32} {v3 : Int32} {I : Ii} {J : Jj} {K : KI}
    (h : CalI wM d mX13_isFact [.ref (0), .int (v1)] I J (fun x3 I1 J2 => (((x3 = 0) → (K ((-1)) I1 J2)) ∧ ((¬ x3 = 0) → (CalI wM d mX13_isAhead [.ref (0), .int (v2), .int (0), .int (20)] I1 J2 (fun x7 I5 J6 => (((x7 = 0) → (K ((-1)) I5 J6)) ∧ ((¬ x7 = 0) → (CalI wM d mX13_isIn [.long (v3.toInt64), .long (0), .long (1)] I5 J6 (fun x11 I9 J10 => (((¬ x11 = 0) → (GoI wM (d + 1) mX13_probe 37 [(0, .ref (0)), (1, .int (v1)), (2, .int (v2)), (3, .int (v3)), (4, .int (0)), (5, .int (0))] [] I9 J10 K)) ∧ ((x11 = 0) → (K ((-1)) I9 J10))))))))))))) :
    GoI wM (d + 1) mX13_probe 0 [(0, .ref (0)), (1, .int (v1)), (2, .int (v2)), (3, .int (v3))] [] I J K :=
  (g_aload_n dX13_probe_0 0 0 rfl rfl (g_iload_n dX13_probe_1 1 1 rfl rfl (g_callvI dX13_probe_2 ml_X13_495 md_X13_isFact mv_X13_isFact obM_0 rfl rfl rfl (Nat.le_of_ble_eq_true rfl) (CalI.mono h (fun x3 I1 J2 h15 => (g_if_eq dX13_probe_5 rfl (fun q4 => (g_iconst dX13_probe_29 kc_n1 (g_ireturn dX13_probe_30 rfl ⟨_, rfl, (h15.1 q4)⟩))) (fun q4 => (g_aload_n dX13_probe_8 0 0 rfl rfl (g_iload_n dX13_probe_9 2 2 rfl rfl (g_iconst dX13_probe_10 kc_0 (g_bipush dX13_probe_11 kb_20 (g_callvI dX13_probe_13 ml_X13_514 md_X13_isAhead mv_X13_isAhead obM_0 rfl rfl rfl (Nat.le_of_ble_eq_true rfl) (CalI.mono (h15.2 q4) (fun x7 I5 J6 h14 => (g_if_eq dX13_probe_16 rfl (fun q8 => (g_iconst dX13_probe_29 kc_n1 (g_ireturn dX13_probe_30 rfl ⟨_, rfl, (h14.1 q8)⟩))) (fun q8 => (g_iload_n dX13_probe_19 3 3 rfl rfl (g_i2l dX13_probe_20 (g_lconst dX13_probe_21 kq_0 (g_lconst dX13_probe_22 kq_1 (g_callsI dX13_probe_23 ml_X13_297 md_X13_isIn ms_X13_isIn rfl rfl (Nat.le_of_ble_eq_true rfl) (CalI.mono (h14.2 q8) (fun x11 I9 J10 h13 => (g_if_ne dX13_probe_26 rfl (fun q12 => (g_iconst dX13_probe_31 kc_0 (g_istore dX13_probe_32 (by decide) rfl (g_iconst dX13_probe_34 kc_0 (g_istore dX13_probe_35 (by decide) rfl (g_sub [2, 3, 4, 5, 1, 0] rfl (h13.1 q12))))))) (fun q12 => (g_iconst dX13_probe_29 kc_n1 (g_ireturn dX13_probe_30 rfl ⟨_, rfl, (h13.2 q12)⟩)))))))))))))))))))))))))))
theorem bX13_probe_37 {d : Nat}  {v1 : Int32} {v2 : Int32} {v3 : Int32} {v4 : Int32} {v5 : Int32} {I : Ii} {J : Jj} {K : KI}
    (h : ((24 ≤ v5) → (CalV wM d mX13_putsAside [.ref (0)] I J (fun I2 J3 => (GoI wM (d + 1) mX13_probe 65 [(0, .ref (0)), (1, .int (v1)), (2, .int (v2)), (3, .int (v3)), (4, .int (v4)), (5, .int (0))] [] I2 J3 K)))) ∧ ((¬ 24 ≤ v5) → (vp_in (v5) 24 ∧ (GoI wM (d + 1) mX13_probe 37 [(0, .ref (0)), (1, .int (v1)), (2, .int (v2)), (3, .int (v3)), (4, .int (v4)), (5, .int (v5 + 1))] [] (u2 I 48 v5.toNatClampNeg 0) J K)))) :
    GoI wM (d + 1) mX13_probe 37 [(0, .ref (0)), (1, .int (v1)), (2, .int (v2)), (3, .int (v3)), (4, .int (v4)), (5, .int (v5))] [] I J K :=
  (g_iload dX13_probe_37 5 rfl (g_bipush dX13_probe_39 kb_24 (g_icmp_ge dX13_probe_41 rfl (fun q1 => (g_aload_n dX13_probe_58 0 0 rfl rfl (g_callvV dX13_probe_59 ml_X13_519 md_X13_putsAside mv_X13_putsAside obM_0 rfl rfl rfl (Nat.le_of_ble_eq_true rfl) (CalV.mono (h.1 q1) (fun I2 J3 h4 => (g_iconst dX13_probe_62 kc_0 (g_istore dX13_probe_63 (by decide) rfl (g_sub [1, 2, 3, 4, 5, 0] rfl h4)))))))) (fun q1 => (g_aload_n dX13_probe_44 0 0 rfl rfl (g_getP dX13_probe_45 fl_X13_157 rfl obM_0 rfl (g_iload dX13_probe_48 5 rfl (g_iconst dX13_probe_50 kc_0 (have b5 := (h.2 q1).1; g_iast dX13_probe_51 arM_48 b5 (g_iinc dX13_probe_52 5 rfl rfl (by decide) rfl (g_goto dX13_probe_55 rfl (g_sub [1, 2, 3, 4, 5, 0] rfl (h.2 q1).2))))))))))))
theorem bX13_probe_65 {d : Nat}  {v1 : Int32} {v2 : Int32} {v3 : Int32} {v4 : Int32} {v5 : Int32} {I : Ii} {J : Jj} {K : KI}
    (h : CalI wM d mX13_personMany [.ref (0)] I J (fun x3 I1 J2 => (((x3 ≤ v5) → (CalV wM d mX13_takesBack [.ref (0)] I1 J2 (fun I5 J6 => (GoI wM (d + 1) mX13_probe 149 [(0, .ref (0)), (3, .int (v3)), (4, .int (v4)), (5, .int ((-1))), (6, .int (0)), (7, .int (0))] [] I5 J6 K)))) ∧ ((¬ x3 ≤ v5) → (CalI wM d mX13_isSource [.ref (0), .int (v5), .int (v1), .int (v2)] I1 J2 (fun x10 I8 J9 => (((¬ x10 = 0) → (GoI wM (d + 1) mX13_probe 94 [(0, .ref (0)), (1, .int (v1)), (2, .int (v2)), (3, .int (v3)), (4, .int (v4 + 1)), (5, .int (v5)), (6, .int (0))] [] I8 J9 K)) ∧ ((x10 = 0) → (GoI wM (d + 1) mX13_probe 65 [(0, .ref (0)), (1, .int (v1)), (2, .int (v2)), (3, .int (v3)), (4, .int (v4)), (5, .int (v5 + 1))] [] I8 J9 K))))))))) :
    GoI wM (d + 1) mX13_probe 65 [(0, .ref (0)), (1, .int (v1)), (2, .int (v2)), (3, .int (v3)), (4, .int (v4)), (5, .int (v5))] [] I J K :=
  (g_iload dX13_probe_65 5 rfl (g_aload_n dX13_probe_67 0 0 rfl rfl (g_callvI dX13_probe_68 ml_X13_401 md_X13_personMany mv_X13_personMany obM_0 rfl rfl rfl (Nat.le_of_ble_eq_true rfl) (CalI.mono h (fun x3 I1 J2 h13 => (g_icmp_ge dX13_probe_71 rfl (fun q4 => (g_aload_n dX13_probe_136 0 0 rfl rfl (g_callvV dX13_probe_137 ml_X13_525 md_X13_takesBack mv_X13_takesBack obM_0 rfl rfl rfl (Nat.le_of_ble_eq_true rfl) (CalV.mono (h13.1 q4) (fun I5 J6 h7 => (g_iconst dX13_probe_140 kc_n1 (g_istore dX13_probe_141 (by decide) rfl (g_iconst dX13_probe_143 kc_0 (g_istore dX13_probe_144 (by decide) rfl (g_iconst dX13_probe_146 kc_0 (g_istore dX13_probe_147 (by decide) rfl (g_sub [3, 6, 7, 2, 1, 0] rfl h7)))))))))))) (fun q4 => (g_aload_n dX13_probe_74 0 0 rfl rfl (g_iload dX13_probe_75 5 rfl (g_iload_n dX13_probe_77 1 1 rfl rfl (g_iload_n dX13_probe_78 2 2 rfl rfl (g_callvI dX13_probe_79 ml_X13_538 md_X13_isSource mv_X13_isSource obM_0 rfl rfl rfl (Nat.le_of_ble_eq_true rfl) (CalI.mono (h13.2 q4) (fun x10 I8 J9 h12 => (g_if_ne dX13_probe_82 rfl (fun q11 => (g_iinc dX13_probe_88 4 rfl rfl (by decide) rfl (g_iconst dX13_probe_91 kc_0 (g_istore dX13_probe_92 (by decide) rfl (g_sub [2, 3, 4, 5, 1, 6, 0] rfl (h12.1 q11)))))) (fun q11 => (g_goto dX13_probe_85 rfl (g_iinc dX13_probe_130 5 rfl rfl (by decide) rfl (g_goto dX13_probe_133 rfl (g_sub [1, 2, 3, 4, 5, 0] rfl (h12.2 q11)))))))))))))))))))))
theorem bX13_probe_149 {d : Nat}  {v3 : Int32} {v4 : Int32} {v5 : Int32} {v6 : Int32} {v7 : Int32} {I : Ii} {J : Jj} {K : KI}
    (h : CalI wM d mX13_personMany [.ref (0)] I J (fun x3 I1 J2 => (((x3 ≤ v7) → (((¬ v5 = ((-1))) → (((¬ v3 = 0) → (K (v6) I1 J2)) ∧ ((v3 = 0) → (K (v5) I1 J2)))) ∧ ((v5 = ((-1))) → (K ((-1)) I1 J2)))) ∧ ((¬ x3 ≤ v7) → (((v4 ≤ 0) → (((¬ v5 = ((-1))) → (((¬ v3 = 0) → (K (v6) I1 J2)) ∧ ((v3 = 0) → (K (v5) I1 J2)))) ∧ ((v5 = ((-1))) → (K ((-1)) I1 J2)))) ∧ ((¬ v4 ≤ 0) → (vp_in (3 * v7) 24 ∧ (vp_in ((3 * v7) + 1) 24 ∧ ((((I1 48 ((3 * v7) + 1).toNatClampNeg) ≤ (I1 48 (3 * v7).toNatClampNeg)) → (vp_in ((3 * v7) + 2) 24 ∧ ((((I1 48 ((3 * v7) + 2).toNatClampNeg) ≤ (I1 48 (3 * v7).toNatClampNeg)) → (((v5 = ((-1))) → (GoI wM (d + 1) mX13_probe 149 [(0, .ref (0)), (3, .int (v3)), (4, .int (v4)), (5, .int (v7)), (6, .int (I1 48 (3 * v7).toNatClampNeg)), (7, .int (v7 + 1))] [] I1 J2 K)) ∧ ((¬ v5 = ((-1))) → ((((I1 48 (3 * v7).toNatClampNeg) < v6) → (GoI wM (d + 1) mX13_probe 149 [(0, .ref (0)), (3, .int (v3)), (4, .int (v4)), (5, .int (v7)), (6, .int (I1 48 (3 * v7).toNatClampNeg)), (7, .int (v7 + 1))] [] I1 J2 K)) ∧ ((¬ (I1 48 (3 * v7).toNatClampNeg) < v6) → (GoI wM (d + 1) mX13_probe 149 [(0, .ref (0)), (3, .int (v3)), (4, .int (v4)), (5, .int (v5)), (6, .int (v6)), (7, .int (v7 + 1))] [] I1 J2 K)))))) ∧ ((¬ (I1 48 ((3 * v7) + 2).toNatClampNeg) ≤ (I1 48 (3 * v7).toNatClampNeg)) → (∀ y17 : Int32, y17 = I1 48 ((3 * v7) + 2).toNatClampNeg → (((v5 = ((-1))) → (GoI wM (d + 1) mX13_probe 149 [(0, .ref (0)), (3, .int (v3)), (4, .int (v4)), (5, .int (v7)), (6, .int (y17)), (7, .int (v7 + 1))] [] I1 J2 K)) ∧ ((¬ v5 = ((-1))) → (((y17 < v6) → (GoI wM (d + 1) mX13_probe 149 [(0, .ref (0)), (3, .int (v3)), (4, .int (v4)), (5, .int (v7)), (6, .int (y17)), (7, .int (v7 + 1))] [] I1 J2 K)) ∧ ((¬ y17 < v6) → (GoI wM (d + 1) mX13_probe 149 [(0, .ref (0)), (3, .int (v3)), (4, .int (v4)), (5, .int (v5)), (6, .int (v6)), (7, .int (v7 + 1))] [] I1 J2 K)))))))))) ∧ ((¬ (I1 48 ((3 * v7) + 1).toNatClampNeg) ≤ (I1 48 (3 * v7).toNatClampNeg)) → (∀ y20 : Int32, y20 = I1 48 ((3 * v7) + 1).toNatClampNeg → (vp_in ((3 * v7) + 2) 24 ∧ ((((I1 48 ((3 * v7) + 2).toNatClampNeg) ≤ y20) → (((v5 = ((-1))) → (GoI wM (d + 1) mX13_probe 149 [(0, .ref (0)), (3, .int (v3)), (4, .int (v4)), (5, .int (v7)), (6, .int (y20)), (7, .int (v7 + 1))] [] I1 J2 K)) ∧ ((¬ v5 = ((-1))) → (((y20 < v6) → (GoI wM (d + 1) mX13_probe 149 [(0, .ref (0)), (3, .int (v3)), (4, .int (v4)), (5, .int (v7)), (6, .int (y20)), (7, .int (v7 + 1))] [] I1 J2 K)) ∧ ((¬ y20 < v6) → (GoI wM (d + 1) mX13_probe 149 [(0, .ref (0)), (3, .int (v3)), (4, .int (v4)), (5, .int (v5)), (6, .int (v6)), (7, .int (v7 + 1))] [] I1 J2 K)))))) ∧ ((¬ (I1 48 ((3 * v7) + 2).toNatClampNeg) ≤ y20) → (∀ y25 : Int32, y25 = I1 48 ((3 * v7) + 2).toNatClampNeg → (((v5 = ((-1))) → (GoI wM (d + 1) mX13_probe 149 [(0, .ref (0)), (3, .int (v3)), (4, .int (v4)), (5, .int (v7)), (6, .int (y25)), (7, .int (v7 + 1))] [] I1 J2 K)) ∧ ((¬ v5 = ((-1))) → (((y25 < v6) → (GoI wM (d + 1) mX13_probe 149 [(0, .ref (0)), (3, .int (v3)), (4, .int (v4)), (5, .int (v7)), (6, .int (y25)), (7, .int (v7 + 1))] [] I1 J2 K)) ∧ ((¬ y25 < v6) → (GoI wM (d + 1) mX13_probe 149 [(0, .ref (0)), (3, .int (v3)), (4, .int (v4)), (5, .int (v5)), (6, .int (v6)), (7, .int (v7 + 1))] [] I1 J2 K)))))))))))))))))))) :
    GoI wM (d + 1) mX13_probe 149 [(0, .ref (0)), (3, .int (v3)), (4, .int (v4)), (5, .int (v5)), (6, .int (v6)), (7, .int (v7))] [] I J K :=
  (g_iload dX13_probe_149 5 rfl (g_aload_n dX13_probe_151 0 0 rfl rfl (g_callvI dX13_probe_152 ml_X13_401 md_X13_personMany mv_X13_personMany obM_0 rfl rfl rfl (Nat.le_of_ble_eq_true rfl) (CalI.mono h (fun x3 I1 J2 h28 => (g_icmp_ge dX13_probe_155 rfl (fun q4 => (g_iload dX13_probe_262 3 rfl (g_iconst dX13_probe_264 kc_n1 (g_icmp_ne dX13_probe_265 rfl (fun q5 => (g_iload_n dX13_probe_272 1 3 rfl rfl (g_if_ne dX13_probe_273 rfl (fun q6 => (g_iload dX13_probe_281 4 rfl (g_ireturn dX13_probe_283 rfl ⟨_, rfl, (((h28.1 q4).1 q5).1 q6)⟩))) (fun q6 => (g_iload dX13_probe_276 3 rfl (g_goto dX13_probe_278 rfl (g_ireturn dX13_probe_283 rfl ⟨_, rfl, (((h28.1 q4).1 q5).2 q6)⟩))))))) (fun q5 => (g_iconst dX13_probe_268 kc_n1 (g_goto dX13_probe_269 rfl (g_ireturn dX13_probe_283 rfl ⟨_, rfl, ((h28.1 q4).2 q5)⟩)))))))) (fun q4 => (g_iload dX13_probe_158 2 rfl (g_if_le dX13_probe_160 rfl (fun q7 => (g_iload dX13_probe_262 3 rfl (g_iconst dX13_probe_264 kc_n1 (g_icmp_ne dX13_probe_265 rfl (fun q8 => (g_iload_n dX13_probe_272 1 3 rfl rfl (g_if_ne dX13_probe_273 rfl (fun q9 => (g_iload dX13_probe_281 4 rfl (g_ireturn dX13_probe_283 rfl ⟨_, rfl, ((((h28.2 q4).1 q7).1 q8).1 q9)⟩))) (fun q9 => (g_iload dX13_probe_276 3 rfl (g_goto dX13_probe_278 rfl (g_ireturn dX13_probe_283 rfl ⟨_, rfl, ((((h28.2 q4).1 q7).1 q8).2 q9)⟩))))))) (fun q8 => (g_iconst dX13_probe_268 kc_n1 (g_goto dX13_probe_269 rfl (g_ireturn dX13_probe_283 rfl ⟨_, rfl, (((h28.2 q4).1 q7).2 q8)⟩)))))))) (fun q7 => (g_aload_n dX13_probe_163 0 0 rfl rfl (g_getP dX13_probe_164 fl_X13_157 rfl obM_0 rfl (g_iconst dX13_probe_167 kc_3 (g_iload dX13_probe_168 5 rfl (g_imul dX13_probe_170 (have b10 := ((h28.2 q4).2 q7).1; g_iald dX13_probe_171 arM_48 b10 (g_istore dX13_probe_172 (by decide) rfl (g_aload_n dX13_probe_174 1 0 rfl rfl (g_getP dX13_probe_175 fl_X13_157 rfl obM_0 rfl (g_iconst dX13_probe_178 kc_3 (g_iload dX13_probe_179 6 rfl (g_imul dX13_probe_181 (g_iconst dX13_probe_182 kc_1 (g_iadd dX13_probe_183 (have b11 := ((h28.2 q4).2 q7).2.1; g_iald dX13_probe_184 arM_48 b11 (g_iload dX13_probe_185 0 rfl (g_icmp_le dX13_probe_187 rfl (fun q12 => (g_aload_n dX13_probe_203 1 0 rfl rfl (g_getP dX13_probe_204 fl_X13_157 rfl obM_0 rfl (g_iconst dX13_probe_207 kc_3 (g_iload dX13_probe_208 6 rfl (g_imul dX13_probe_210 (g_iconst dX13_probe_211 kc_2 (g_iadd dX13_probe_212 (have b13 := (((h28.2 q4).2 q7).2.2.1 q12).1; g_iald dX13_probe_213 arM_48 b13 (g_iload dX13_probe_214 0 rfl (g_icmp_le dX13_probe_216 rfl (fun q14 => (g_iload dX13_probe_232 4 rfl (g_iconst dX13_probe_234 kc_n1 (g_icmp_eq dX13_probe_235 rfl (fun q15 => (g_iload dX13_probe_248 6 rfl (g_istore dX13_probe_250 (by decide) rfl (g_iload dX13_probe_252 1 rfl (g_istore dX13_probe_254 (by decide) rfl (g_iinc dX13_probe_256 6 rfl rfl (by decide) rfl (g_goto dX13_probe_259 rfl (g_sub [4, 5, 6, 2, 1, 0] rfl (((((h28.2 q4).2 q7).2.2.1 q12).2.1 q14).1 q15))))))))) (fun q15 => (g_iload dX13_probe_238 0 rfl (g_iload dX13_probe_240 5 rfl (g_icmp_lt dX13_probe_242 rfl (fun q16 => (g_iload dX13_probe_248 6 rfl (g_istore dX13_probe_250 (by decide) rfl (g_iload dX13_probe_252 1 rfl (g_istore dX13_probe_254 (by decide) rfl (g_iinc dX13_probe_256 6 rfl rfl (by decide) rfl (g_goto dX13_probe_259 rfl (g_sub [4, 5, 6, 2, 1, 0] rfl ((((((h28.2 q4).2 q7).2.2.1 q12).2.1 q14).2 q15).1 q16))))))))) (fun q16 => (g_goto dX13_probe_245 rfl (g_iinc dX13_probe_256 6 rfl rfl (by decide) rfl (g_goto dX13_probe_259 rfl (g_sub [2, 3, 4, 5, 6, 0] rfl ((((((h28.2 q4).2 q7).2.2.1 q12).2.1 q14).2 q15).2 q16)))))))))))))) (fun q14 => (g_aload_n dX13_probe_219 1 0 rfl rfl (g_getP dX13_probe_220 fl_X13_157 rfl obM_0 rfl (g_iconst dX13_probe_223 kc_3 (g_iload dX13_probe_224 6 rfl (g_imul dX13_probe_226 (g_iconst dX13_probe_227 kc_2 (g_iadd dX13_probe_228 (g_iald dX13_probe_229 arM_48 b13 (g_istore dX13_probe_230 (by decide) rfl (g_iload dX13_probe_232 4 rfl (g_iconst dX13_probe_234 kc_n1 (g_icmp_eq dX13_probe_235 rfl (fun q18 => (g_iload dX13_probe_248 6 rfl (g_istore dX13_probe_250 (by decide) rfl (g_iload dX13_probe_252 1 rfl (g_istore dX13_probe_254 (by decide) rfl (g_iinc dX13_probe_256 6 rfl rfl (by decide) rfl (g_goto dX13_probe_259 rfl (g_sub [4, 5, 6, 2, 1, 0] rfl ((((((h28.2 q4).2 q7).2.2.1 q12).2.2 q14) _ rfl).1 q18))))))))) (fun q18 => (g_iload dX13_probe_238 0 rfl (g_iload dX13_probe_240 5 rfl (g_icmp_lt dX13_probe_242 rfl (fun q19 => (g_iload dX13_probe_248 6 rfl (g_istore dX13_probe_250 (by decide) rfl (g_iload dX13_probe_252 1 rfl (g_istore dX13_probe_254 (by decide) rfl (g_iinc dX13_probe_256 6 rfl rfl (by decide) rfl (g_goto dX13_probe_259 rfl (g_sub [4, 5, 6, 2, 1, 0] rfl (((((((h28.2 q4).2 q7).2.2.1 q12).2.2 q14) _ rfl).2 q18).1 q19))))))))) (fun q19 => (g_goto dX13_probe_245 rfl (g_iinc dX13_probe_256 6 rfl rfl (by decide) rfl (g_goto dX13_probe_259 rfl (g_sub [2, 3, 4, 5, 6, 0] rfl (((((((h28.2 q4).2 q7).2.2.1 q12).2.2 q14) _ rfl).2 q18).2 q19)))))))))))))))))))))))))))))))))) (fun q12 => (g_aload_n dX13_probe_190 1 0 rfl rfl (g_getP dX13_probe_191 fl_X13_157 rfl obM_0 rfl (g_iconst dX13_probe_194 kc_3 (g_iload dX13_probe_195 6 rfl (g_imul dX13_probe_197 (g_iconst dX13_probe_198 kc_1 (g_iadd dX13_probe_199 (g_iald dX13_probe_200 arM_48 b11 (g_istore dX13_probe_201 (by decide) rfl (g_aload_n dX13_probe_203 1 0 rfl rfl (g_getP dX13_probe_204 fl_X13_157 rfl obM_0 rfl (g_iconst dX13_probe_207 kc_3 (g_iload dX13_probe_208 6 rfl (g_imul dX13_probe_210 (g_iconst dX13_probe_211 kc_2 (g_iadd dX13_probe_212 (have b21 := ((((h28.2 q4).2 q7).2.2.2 q12) _ rfl).1; g_iald dX13_probe_213 arM_48 b21 (g_iload dX13_probe_214 0 rfl (g_icmp_le dX13_probe_216 rfl (fun q22 => (g_iload dX13_probe_232 4 rfl (g_iconst dX13_probe_234 kc_n1 (g_icmp_eq dX13_probe_235 rfl (fun q23 => (g_iload dX13_probe_248 6 rfl (g_istore dX13_probe_250 (by decide) rfl (g_iload dX13_probe_252 1 rfl (g_istore dX13_probe_254 (by decide) rfl (g_iinc dX13_probe_256 6 rfl rfl (by decide) rfl (g_goto dX13_probe_259 rfl (g_sub [4, 5, 6, 2, 1, 0] rfl ((((((h28.2 q4).2 q7).2.2.2 q12) _ rfl).2.1 q22).1 q23))))))))) (fun q23 => (g_iload dX13_probe_238 0 rfl (g_iload dX13_probe_240 5 rfl (g_icmp_lt dX13_probe_242 rfl (fun q24 => (g_iload dX13_probe_248 6 rfl (g_istore dX13_probe_250 (by decide) rfl (g_iload dX13_probe_252 1 rfl (g_istore dX13_probe_254 (by decide) rfl (g_iinc dX13_probe_256 6 rfl rfl (by decide) rfl (g_goto dX13_probe_259 rfl (g_sub [4, 5, 6, 2, 1, 0] rfl (((((((h28.2 q4).2 q7).2.2.2 q12) _ rfl).2.1 q22).2 q23).1 q24))))))))) (fun q24 => (g_goto dX13_probe_245 rfl (g_iinc dX13_probe_256 6 rfl rfl (by decide) rfl (g_goto dX13_probe_259 rfl (g_sub [2, 3, 4, 5, 6, 0] rfl (((((((h28.2 q4).2 q7).2.2.2 q12) _ rfl).2.1 q22).2 q23).2 q24)))))))))))))) (fun q22 => (g_aload_n dX13_probe_219 1 0 rfl rfl (g_getP dX13_probe_220 fl_X13_157 rfl obM_0 rfl (g_iconst dX13_probe_223 kc_3 (g_iload dX13_probe_224 6 rfl (g_imul dX13_probe_226 (g_iconst dX13_probe_227 kc_2 (g_iadd dX13_probe_228 (g_iald dX13_probe_229 arM_48 b21 (g_istore dX13_probe_230 (by decide) rfl (g_iload dX13_probe_232 4 rfl (g_iconst dX13_probe_234 kc_n1 (g_icmp_eq dX13_probe_235 rfl (fun q26 => (g_iload dX13_probe_248 6 rfl (g_istore dX13_probe_250 (by decide) rfl (g_iload dX13_probe_252 1 rfl (g_istore dX13_probe_254 (by decide) rfl (g_iinc dX13_probe_256 6 rfl rfl (by decide) rfl (g_goto dX13_probe_259 rfl (g_sub [4, 5, 6, 2, 1, 0] rfl (((((((h28.2 q4).2 q7).2.2.2 q12) _ rfl).2.2 q22) _ rfl).1 q26))))))))) (fun q26 => (g_iload dX13_probe_238 0 rfl (g_iload dX13_probe_240 5 rfl (g_icmp_lt dX13_probe_242 rfl (fun q27 => (g_iload dX13_probe_248 6 rfl (g_istore dX13_probe_250 (by decide) rfl (g_iload dX13_probe_252 1 rfl (g_istore dX13_probe_254 (by decide) rfl (g_iinc dX13_probe_256 6 rfl rfl (by decide) rfl (g_goto dX13_probe_259 rfl (g_sub [4, 5, 6, 2, 1, 0] rfl ((((((((h28.2 q4).2 q7).2.2.2 q12) _ rfl).2.2 q22) _ rfl).2 q26).1 q27))))))))) (fun q27 => (g_goto dX13_probe_245 rfl (g_iinc dX13_probe_256 6 rfl rfl (by decide) rfl (g_goto dX13_probe_259 rfl (g_sub [2, 3, 4, 5, 6, 0] rfl ((((((((h28.2 q4).2 q7).2.2.2 q12) _ rfl).2.2 q22) _ rfl).2 q26).2 q27))))))))))))))))))))))))))))))))))))))))))))))))))))))))))))))))))))))
theorem bX13_probe_94 {d : Nat}  {v1 : Int32} {v2 : Int32} {v3 : Int32} {v4 : Int32} {v5 : Int32} {v6 : Int32} {I : Ii} {J : Jj} {K : KI}
    (h : CalI wM d mX13_personMany [.ref (0)] I J (fun x3 I1 J2 => (((x3 ≤ v6) → (GoI wM (d + 1) mX13_probe 65 [(0, .ref (0)), (1, .int (v1)), (2, .int (v2)), (3, .int (v3)), (4, .int (v4)), (5, .int (v5 + 1))] [] I1 J2 K)) ∧ ((¬ x3 ≤ v6) → (vp_in (v6) 8 ∧ (vp_in ((3 * v6) + (I1 47 v6.toNatClampNeg)) 24 ∧ (GoI wM (d + 1) mX13_probe 94 [(0, .ref (0)), (1, .int (v1)), (2, .int (v2)), (3, .int (v3)), (4, .int (v4)), (5, .int (v5)), (6, .int (v6 + 1))] [] (u2 I1 48 ((3 * v6) + (I1 47 v6.toNatClampNeg)).toNatClampNeg ((I1 48 ((3 * v6) + (I1 47 v6.toNatClampNeg)).toNatClampNeg) + 1)) J2 K))))))) :
    GoI wM (d + 1) mX13_probe 94 [(0, .ref (0)), (1, .int (v1)), (2, .int (v2)), (3, .int (v3)), (4, .int (v4)), (5, .int (v5)), (6, .int (v6))] [] I J K :=
  (g_iload dX13_probe_94 6 rfl (g_aload_n dX13_probe_96 0 0 rfl rfl (g_callvI dX13_probe_97 ml_X13_401 md_X13_personMany mv_X13_personMany obM_0 rfl rfl rfl (Nat.le_of_ble_eq_true rfl) (CalI.mono h (fun x3 I1 J2 h8 => (g_icmp_ge dX13_probe_100 rfl (fun q4 => (g_iinc dX13_probe_130 5 rfl rfl (by decide) rfl (g_goto dX13_probe_133 rfl (g_sub [1, 2, 3, 4, 5, 0] rfl (h8.1 q4))))) (fun q4 => (g_aload_n dX13_probe_103 0 0 rfl rfl (g_getP dX13_probe_104 fl_X13_157 rfl obM_0 rfl (g_iconst dX13_probe_107 kc_3 (g_iload dX13_probe_108 6 rfl (g_imul dX13_probe_110 (g_aload_n dX13_probe_111 0 0 rfl rfl (g_getP dX13_probe_112 fl_X13_154 rfl obM_0 rfl (g_iload dX13_probe_115 6 rfl (have b5 := (h8.2 q4).1; g_iald dX13_probe_117 arM_47 b5 (g_iadd dX13_probe_118 (g_dup2_11 dX13_probe_119 rfl rfl (have b6 := (h8.2 q4).2.1; g_iald dX13_probe_120 arM_48 b6 (g_iconst dX13_probe_121 kc_1 (g_iadd dX13_probe_122 (g_iast dX13_probe_123 arM_48 b6 (g_iinc dX13_probe_124 6 rfl rfl (by decide) rfl (g_goto dX13_probe_127 rfl (g_sub [1, 2, 3, 4, 5, 6, 0] rfl (h8.2 q4).2.2)))))))))))))))))))))))))
theorem dX13_part_0 : decode cX13_part 0 = .ok (.iconst 1, 1) := by decide +kernel
theorem dX13_part_1 : decode cX13_part 1 = .ok (.aload_n 0, 1) := by decide +kernel
theorem dX13_part_2 : decode cX13_part 2 = .ok (.invokevirtual 401, 3) := by decide +kernel
theorem dX13_part_5 : decode cX13_part 5 = .ok (.ishl, 1) := by decide +kernel
theorem dX13_part_6 : decode cX13_part 6 = .ok (.iconst 1, 1) := by decide +kernel
theorem dX13_part_7 : decode cX13_part 7 = .ok (.isub, 1) := by decide +kernel
theorem dX13_part_8 : decode cX13_part 8 = .ok (.istore_n 3, 1) := by decide +kernel
theorem dX13_part_9 : decode cX13_part 9 = .ok (.iload_n 1, 1) := by decide +kernel
theorem dX13_part_10 : decode cX13_part 10 = .ok (.i2l, 1) := by decide +kernel
theorem dX13_part_11 : decode cX13_part 11 = .ok (.lconst 0, 1) := by decide +kernel
theorem dX13_part_12 : decode cX13_part 12 = .ok (.iload_n 3, 1) := by decide +kernel
theorem dX13_part_13 : decode cX13_part 13 = .ok (.i2l, 1) := by decide +kernel
theorem dX13_part_14 : decode cX13_part 14 = .ok (.invokestatic 297, 3) := by decide +kernel
theorem dX13_part_17 : decode cX13_part 17 = .ok (.ifCond .eq 20, 3) := by decide +kernel
theorem dX13_part_20 : decode cX13_part 20 = .ok (.iload_n 2, 1) := by decide +kernel
theorem dX13_part_21 : decode cX13_part 21 = .ok (.i2l, 1) := by decide +kernel
theorem dX13_part_22 : decode cX13_part 22 = .ok (.lconst 0, 1) := by decide +kernel
theorem dX13_part_23 : decode cX13_part 23 = .ok (.iload_n 3, 1) := by decide +kernel
theorem dX13_part_24 : decode cX13_part 24 = .ok (.i2l, 1) := by decide +kernel
theorem dX13_part_25 : decode cX13_part 25 = .ok (.invokestatic 297, 3) := by decide +kernel
theorem dX13_part_28 : decode cX13_part 28 = .ok (.ifCond .eq 9, 3) := by decide +kernel
theorem dX13_part_31 : decode cX13_part 31 = .ok (.iload_n 1, 1) := by decide +kernel
theorem dX13_part_32 : decode cX13_part 32 = .ok (.iload_n 2, 1) := by decide +kernel
theorem dX13_part_33 : decode cX13_part 33 = .ok (.iand, 1) := by decide +kernel
theorem dX13_part_34 : decode cX13_part 34 = .ok (.ifCond .eq 5, 3) := by decide +kernel
theorem dX13_part_37 : decode cX13_part 37 = .ok (.iconst (-1), 1) := by decide +kernel
theorem dX13_part_38 : decode cX13_part 38 = .ok (.ireturn, 1) := by decide +kernel
theorem dX13_part_39 : decode cX13_part 39 = .ok (.iconst (-1), 1) := by decide +kernel
theorem dX13_part_40 : decode cX13_part 40 = .ok (.istore 4, 2) := by decide +kernel
theorem dX13_part_42 : decode cX13_part 42 = .ok (.iconst 0, 1) := by decide +kernel
theorem dX13_part_43 : decode cX13_part 43 = .ok (.istore 5, 2) := by decide +kernel
theorem dX13_part_45 : decode cX13_part 45 = .ok (.iload 5, 2) := by decide +kernel
theorem dX13_part_47 : decode cX13_part 47 = .ok (.iconst 1, 1) := by decide +kernel
theorem dX13_part_48 : decode cX13_part 48 = .ok (.aload_n 0, 1) := by decide +kernel
theorem dX13_part_49 : decode cX13_part 49 = .ok (.invokevirtual 398, 3) := by decide +kernel
theorem dX13_part_52 : decode cX13_part 52 = .ok (.ishl, 1) := by decide +kernel
theorem dX13_part_53 : decode cX13_part 53 = .ok (.if_icmp .ge 43, 3) := by decide +kernel
theorem dX13_part_56 : decode cX13_part 56 = .ok (.iload 4, 2) := by decide +kernel
theorem dX13_part_58 : decode cX13_part 58 = .ok (.iconst (-1), 1) := by decide +kernel
theorem dX13_part_59 : decode cX13_part 59 = .ok (.if_icmp .eq 16, 3) := by decide +kernel
theorem dX13_part_62 : decode cX13_part 62 = .ok (.iload 5, 2) := by decide +kernel
theorem dX13_part_64 : decode cX13_part 64 = .ok (.invokestatic 483, 3) := by decide +kernel
theorem dX13_part_67 : decode cX13_part 67 = .ok (.iload 4, 2) := by decide +kernel
theorem dX13_part_69 : decode cX13_part 69 = .ok (.invokestatic 483, 3) := by decide +kernel
theorem dX13_part_72 : decode cX13_part 72 = .ok (.if_icmp .ge 18, 3) := by decide +kernel
theorem dX13_part_75 : decode cX13_part 75 = .ok (.aload_n 0, 1) := by decide +kernel
theorem dX13_part_76 : decode cX13_part 76 = .ok (.iload_n 1, 1) := by decide +kernel
theorem dX13_part_77 : decode cX13_part 77 = .ok (.iload_n 2, 1) := by decide +kernel
theorem dX13_part_78 : decode cX13_part 78 = .ok (.iload 5, 2) := by decide +kernel
theorem dX13_part_80 : decode cX13_part 80 = .ok (.invokevirtual 541, 3) := by decide +kernel
theorem dX13_part_83 : decode cX13_part 83 = .ok (.ifCond .eq 7, 3) := by decide +kernel
theorem dX13_part_86 : decode cX13_part 86 = .ok (.iload 5, 2) := by decide +kernel
theorem dX13_part_88 : decode cX13_part 88 = .ok (.istore 4, 2) := by decide +kernel
theorem dX13_part_90 : decode cX13_part 90 = .ok (.iinc 5 1, 3) := by decide +kernel
theorem dX13_part_93 : decode cX13_part 93 = .ok (.goto (-48), 3) := by decide +kernel
theorem dX13_part_96 : decode cX13_part 96 = .ok (.iload 4, 2) := by decide +kernel
theorem dX13_part_98 : decode cX13_part 98 = .ok (.ireturn, 1) := by decide +kernel
theorem bX13_part_0 {d : Nat}  {v1 : Int32} {v2 : Int32} {I : Ii} {J : Jj} {K : KI}
    (h : CalI wM d mX13_personMany [.ref (0)] I J (fun x3 I1 J2 => (CalI wM d mX13_isIn [.long (v1.toInt64), .long (0), .long (((1 <<< (x3 &&& 31)) - 1).toInt64)] I1 J2 (fun x6 I4 J5 => (((x6 = 0) → (K ((-1)) I4 J5)) ∧ ((¬ x6 = 0) → (CalI wM d mX13_isIn [.long (v2.toInt64), .long (0), .long (((1 <<< (x3 &&& 31)) - 1).toInt64)] I4 J5 (fun x10 I8 J9 => (((x10 = 0) → (K ((-1)) I8 J9)) ∧ ((¬ x10 = 0) → ((((v1 &&& v2) = 0) → (GoI wM (d + 1) mX13_part 45 [(0, .ref (0)), (1, .int (v1)), (2, .int (v2)), (4, .int ((-1))), (5, .int (0))] [] I8 J9 K)) ∧ ((¬ (v1 &&& v2) = 0) → (K ((-1)) I8 J9))))))))))))) :
    GoI wM (d + 1) mX13_part 0 [(0, .ref (0)), (1, .int (v1)), (2, .int (v2))] [] I J K :=
  (g_iconst dX13_part_0 kc_1 (g_aload_n dX13_part_1 0 0 rfl rfl (g_callvI dX13_part_2 ml_X13_401 md_X13_personMany mv_X13_personMany obM_0 rfl rfl rfl (Nat.le_of_ble_eq_true rfl) (CalI.mono h (fun x3 I1 J2 h15 => (g_ishl dX13_part_5 (g_iconst dX13_part_6 kc_1 (g_isub dX13_part_7 (g_istore_n dX13_part_8 rfl (by decide) rfl (g_iload_n dX13_part_9 2 1 rfl rfl (g_i2l dX13_part_10 (g_lconst dX13_part_11 kq_0 (g_iload_n dX13_part_12 0 3 rfl rfl (g_i2l dX13_part_13 (g_callsI dX13_part_14 ml_X13_297 md_X13_isIn ms_X13_isIn rfl rfl (Nat.le_of_ble_eq_true rfl) (CalI.mono h15 (fun x6 I4 J5 h14 => (g_if_eq dX13_part_17 rfl (fun q7 => (g_iconst dX13_part_37 kc_n1 (g_ireturn dX13_part_38 rfl ⟨_, rfl, (h14.1 q7)⟩))) (fun q7 => (g_iload_n dX13_part_20 3 2 rfl rfl (g_i2l dX13_part_21 (g_lconst dX13_part_22 kq_0 (g_iload_n dX13_part_23 0 3 rfl rfl (g_i2l dX13_part_24 (g_callsI dX13_part_25 ml_X13_297 md_X13_isIn ms_X13_isIn rfl rfl (Nat.le_of_ble_eq_true rfl) (CalI.mono (h14.2 q7) (fun x10 I8 J9 h13 => (g_if_eq dX13_part_28 rfl (fun q11 => (g_iconst dX13_part_37 kc_n1 (g_ireturn dX13_part_38 rfl ⟨_, rfl, (h13.1 q11)⟩))) (fun q11 => (g_iload_n dX13_part_31 2 1 rfl rfl (g_iload_n dX13_part_32 3 2 rfl rfl (g_iand dX13_part_33 (g_if_eq dX13_part_34 rfl (fun q12 => (g_iconst dX13_part_39 kc_n1 (g_istore dX13_part_40 (by decide) rfl (g_iconst dX13_part_42 kc_0 (g_istore dX13_part_43 (by decide) rfl (g_sub [3, 4, 5, 1, 0] rfl ((h13.2 q11).1 q12))))))) (fun q12 => (g_iconst dX13_part_37 kc_n1 (g_ireturn dX13_part_38 rfl ⟨_, rfl, ((h13.2 q11).2 q12)⟩))))))))))))))))))))))))))))))))))))
theorem bX13_part_45 {d : Nat}  {v1 : Int32} {v2 : Int32} {v4 : Int32} {v5 : Int32} {I : Ii} {J : Jj} {K : KI}
    (h : CalI wM d mX13_factMany [.ref (0)] I J (fun x3 I1 J2 => ((((1 <<< (x3 &&& 31)) ≤ v5) → (K (v4) I1 J2)) ∧ ((¬ (1 <<< (x3 &&& 31)) ≤ v5) → (((v4 = ((-1))) → (CalI wM d mX13_areParted [.ref (0), .int (v1), .int (v2), .int (v5)] I1 J2 (fun x8 I6 J7 => (((x8 = 0) → (GoI wM (d + 1) mX13_part 45 [(0, .ref (0)), (1, .int (v1)), (2, .int (v2)), (4, .int (v4)), (5, .int (v5 + 1))] [] I6 J7 K)) ∧ ((¬ x8 = 0) → (GoI wM (d + 1) mX13_part 45 [(0, .ref (0)), (1, .int (v1)), (2, .int (v2)), (4, .int (v5)), (5, .int (v5 + 1))] [] I6 J7 K)))))) ∧ ((¬ v4 = ((-1))) → (CalI wM d mX13_bits [.int (v5)] I1 J2 (fun x13 I11 J12 => (CalI wM d mX13_bits [.int (v4)] I11 J12 (fun x16 I14 J15 => (((x16 ≤ x13) → (GoI wM (d + 1) mX13_part 45 [(0, .ref (0)), (1, .int (v1)), (2, .int (v2)), (4, .int (v4)), (5, .int (v5 + 1))] [] I14 J15 K)) ∧ ((¬ x16 ≤ x13) → (CalI wM d mX13_areParted [.ref (0), .int (v1), .int (v2), .int (v5)] I14 J15 (fun x20 I18 J19 => (((x20 = 0) → (GoI wM (d + 1) mX13_part 45 [(0, .ref (0)), (1, .int (v1)), (2, .int (v2)), (4, .int (v4)), (5, .int (v5 + 1))] [] I18 J19 K)) ∧ ((¬ x20 = 0) → (GoI wM (d + 1) mX13_part 45 [(0, .ref (0)), (1, .int (v1)), (2, .int (v2)), (4, .int (v5)), (5, .int (v5 + 1))] [] I18 J19 K))))))))))))))))) :
    GoI wM (d + 1) mX13_part 45 [(0, .ref (0)), (1, .int (v1)), (2, .int (v2)), (4, .int (v4)), (5, .int (v5))] [] I J K :=
  (g_iload dX13_part_45 4 rfl (g_iconst dX13_part_47 kc_1 (g_aload_n dX13_part_48 0 0 rfl rfl (g_callvI dX13_part_49 ml_X13_398 md_X13_factMany mv_X13_factMany obM_0 rfl rfl rfl (Nat.le_of_ble_eq_true rfl) (CalI.mono h (fun x3 I1 J2 h25 => (g_ishl dX13_part_52 (g_icmp_ge dX13_part_53 rfl (fun q4 => (g_iload dX13_part_96 3 rfl (g_ireturn dX13_part_98 rfl ⟨_, rfl, (h25.1 q4)⟩))) (fun q4 => (g_iload dX13_part_56 3 rfl (g_iconst dX13_part_58 kc_n1 (g_icmp_eq dX13_part_59 rfl (fun q5 => (g_aload_n dX13_part_75 0 0 rfl rfl (g_iload_n dX13_part_76 1 1 rfl rfl (g_iload_n dX13_part_77 2 2 rfl rfl (g_iload dX13_part_78 4 rfl (g_callvI dX13_part_80 ml_X13_541 md_X13_areParted mv_X13_areParted obM_0 rfl rfl rfl (Nat.le_of_ble_eq_true rfl) (CalI.mono ((h25.2 q4).1 q5) (fun x8 I6 J7 h10 => (g_if_eq dX13_part_83 rfl (fun q9 => (g_iinc dX13_part_90 4 rfl rfl (by decide) rfl (g_goto dX13_part_93 rfl (g_sub [1, 2, 3, 4, 0] rfl (h10.1 q9))))) (fun q9 => (g_iload dX13_part_86 4 rfl (g_istore dX13_part_88 (by decide) rfl (g_iinc dX13_part_90 4 rfl rfl (by decide) rfl (g_goto dX13_part_93 rfl (g_sub [2, 3, 4, 1, 0] rfl (h10.2 q9)))))))))))))))) (fun q5 => (g_iload dX13_part_62 4 rfl (g_callsI dX13_part_64 ml_X13_483 md_X13_bits ms_X13_bits rfl rfl (Nat.le_of_ble_eq_true rfl) (CalI.mono ((h25.2 q4).2 q5) (fun x13 I11 J12 h24 => (g_iload dX13_part_67 3 rfl (g_callsI dX13_part_69 ml_X13_483 md_X13_bits ms_X13_bits rfl rfl (Nat.le_of_ble_eq_true rfl) (CalI.mono h24 (fun x16 I14 J15 h23 => (g_icmp_ge dX13_part_72 rfl (fun q17 => (g_iinc dX13_part_90 4 rfl rfl (by decide) rfl (g_goto dX13_part_93 rfl (g_sub [1, 2, 3, 4, 0] rfl (h23.1 q17))))) (fun q17 => (g_aload_n dX13_part_75 0 0 rfl rfl (g_iload_n dX13_part_76 1 1 rfl rfl (g_iload_n dX13_part_77 2 2 rfl rfl (g_iload dX13_part_78 4 rfl (g_callvI dX13_part_80 ml_X13_541 md_X13_areParted mv_X13_areParted obM_0 rfl rfl rfl (Nat.le_of_ble_eq_true rfl) (CalI.mono (h23.2 q17) (fun x20 I18 J19 h22 => (g_if_eq dX13_part_83 rfl (fun q21 => (g_iinc dX13_part_90 4 rfl rfl (by decide) rfl (g_goto dX13_part_93 rfl (g_sub [1, 2, 3, 4, 0] rfl (h22.1 q21))))) (fun q21 => (g_iload dX13_part_86 4 rfl (g_istore dX13_part_88 (by decide) rfl (g_iinc dX13_part_90 4 rfl rfl (by decide) rfl (g_goto dX13_part_93 rfl (g_sub [2, 3, 4, 1, 0] rfl (h22.2 q21))))))))))))))))))))))))))))))))))))))
theorem dX13_areParted_0 : decode cX13_areParted 0 = .ok (.iconst 0, 1) := by decide +kernel
theorem dX13_areParted_1 : decode cX13_areParted 1 = .ok (.istore 4, 2) := by decide +kernel
theorem dX13_areParted_3 : decode cX13_areParted 3 = .ok (.iload 4, 2) := by decide +kernel
theorem dX13_areParted_5 : decode cX13_areParted 5 = .ok (.aload_n 0, 1) := by decide +kernel
theorem dX13_areParted_6 : decode cX13_areParted 6 = .ok (.invokevirtual 401, 3) := by decide +kernel
theorem dX13_areParted_9 : decode cX13_areParted 9 = .ok (.if_icmp .ge 74, 3) := by decide +kernel
theorem dX13_areParted_12 : decode cX13_areParted 12 = .ok (.iconst 0, 1) := by decide +kernel
theorem dX13_areParted_13 : decode cX13_areParted 13 = .ok (.istore 5, 2) := by decide +kernel
theorem dX13_areParted_15 : decode cX13_areParted 15 = .ok (.iload 5, 2) := by decide +kernel
theorem dX13_areParted_17 : decode cX13_areParted 17 = .ok (.aload_n 0, 1) := by decide +kernel
theorem dX13_areParted_18 : decode cX13_areParted 18 = .ok (.invokevirtual 401, 3) := by decide +kernel
theorem dX13_areParted_21 : decode cX13_areParted 21 = .ok (.if_icmp .ge 56, 3) := by decide +kernel
theorem dX13_areParted_24 : decode cX13_areParted 24 = .ok (.iload_n 1, 1) := by decide +kernel
theorem dX13_areParted_25 : decode cX13_areParted 25 = .ok (.iload 4, 2) := by decide +kernel
theorem dX13_areParted_27 : decode cX13_areParted 27 = .ok (.ishr, 1) := by decide +kernel
theorem dX13_areParted_28 : decode cX13_areParted 28 = .ok (.iconst 1, 1) := by decide +kernel
theorem dX13_areParted_29 : decode cX13_areParted 29 = .ok (.iand, 1) := by decide +kernel
theorem dX13_areParted_30 : decode cX13_areParted 30 = .ok (.iconst 1, 1) := by decide +kernel
theorem dX13_areParted_31 : decode cX13_areParted 31 = .ok (.if_icmp .ne 40, 3) := by decide +kernel
theorem dX13_areParted_34 : decode cX13_areParted 34 = .ok (.iload_n 2, 1) := by decide +kernel
theorem dX13_areParted_35 : decode cX13_areParted 35 = .ok (.iload 5, 2) := by decide +kernel
theorem dX13_areParted_37 : decode cX13_areParted 37 = .ok (.ishr, 1) := by decide +kernel
theorem dX13_areParted_38 : decode cX13_areParted 38 = .ok (.iconst 1, 1) := by decide +kernel
theorem dX13_areParted_39 : decode cX13_areParted 39 = .ok (.iand, 1) := by decide +kernel
theorem dX13_areParted_40 : decode cX13_areParted 40 = .ok (.iconst 1, 1) := by decide +kernel
theorem dX13_areParted_41 : decode cX13_areParted 41 = .ok (.if_icmp .ne 30, 3) := by decide +kernel
theorem dX13_areParted_44 : decode cX13_areParted 44 = .ok (.aload_n 0, 1) := by decide +kernel
theorem dX13_areParted_45 : decode cX13_areParted 45 = .ok (.iload 4, 2) := by decide +kernel
theorem dX13_areParted_47 : decode cX13_areParted 47 = .ok (.invokevirtual 404, 3) := by decide +kernel
theorem dX13_areParted_50 : decode cX13_areParted 50 = .ok (.iload_n 3, 1) := by decide +kernel
theorem dX13_areParted_51 : decode cX13_areParted 51 = .ok (.iand, 1) := by decide +kernel
theorem dX13_areParted_52 : decode cX13_areParted 52 = .ok (.invokestatic 483, 3) := by decide +kernel
theorem dX13_areParted_55 : decode cX13_areParted 55 = .ok (.aload_n 0, 1) := by decide +kernel
theorem dX13_areParted_56 : decode cX13_areParted 56 = .ok (.iload 5, 2) := by decide +kernel
theorem dX13_areParted_58 : decode cX13_areParted 58 = .ok (.invokevirtual 404, 3) := by decide +kernel
theorem dX13_areParted_61 : decode cX13_areParted 61 = .ok (.iload_n 3, 1) := by decide +kernel
theorem dX13_areParted_62 : decode cX13_areParted 62 = .ok (.iand, 1) := by decide +kernel
theorem dX13_areParted_63 : decode cX13_areParted 63 = .ok (.invokestatic 483, 3) := by decide +kernel
theorem dX13_areParted_66 : decode cX13_areParted 66 = .ok (.if_icmp .gt 5, 3) := by decide +kernel
theorem dX13_areParted_69 : decode cX13_areParted 69 = .ok (.iconst 0, 1) := by decide +kernel
theorem dX13_areParted_70 : decode cX13_areParted 70 = .ok (.ireturn, 1) := by decide +kernel
theorem dX13_areParted_71 : decode cX13_areParted 71 = .ok (.iinc 5 1, 3) := by decide +kernel
theorem dX13_areParted_74 : decode cX13_areParted 74 = .ok (.goto (-59), 3) := by decide +kernel
theorem dX13_areParted_77 : decode cX13_areParted 77 = .ok (.iinc 4 1, 3) := by decide +kernel
theorem dX13_areParted_80 : decode cX13_areParted 80 = .ok (.goto (-77), 3) := by decide +kernel
theorem dX13_areParted_83 : decode cX13_areParted 83 = .ok (.iconst 1, 1) := by decide +kernel
theorem dX13_areParted_84 : decode cX13_areParted 84 = .ok (.ireturn, 1) := by decide +kernel
theorem bX13_areParted_0 {d : Nat}  {v1 : Int32} {v2 : Int32} {v3 : Int32} {I : Ii} {J : Jj} {K : KI}
    (h : GoI wM (d + 1) mX13_areParted 3 [(0, .ref (0)), (1, .int (v1)), (2, .int (v2)), (3, .int (v3)), (4, .int (0))] [] I J K) :
    GoI wM (d + 1) mX13_areParted 0 [(0, .ref (0)), (1, .int (v1)), (2, .int (v2)), (3, .int (v3))] [] I J K :=
  (g_iconst dX13_areParted_0 kc_0 (g_istore dX13_areParted_1 (by decide) rfl (g_sub [1, 2, 3, 4, 0] rfl h)))
theorem bX13_areParted_3 {d : Nat}  {v1 : Int32} {v2 : Int32} {v3 : Int32} {v4 : Int32} {I : Ii} {J : Jj} {K : KI}
    (h : CalI wM d mX13_personMany [.ref (0)] I J (fun x3 I1 J2 => (((x3 ≤ v4) → (K (1) I1 J2)) ∧ ((¬ x3 ≤ v4) → (GoI wM (d + 1) mX13_areParted 15 [(0, .ref (0)), (1, .int (v1)), (2, .int (v2)), (3, .int (v3)), (4, .int (v4)), (5, .int (0))] [] I1 J2 K))))) :
    GoI wM (d + 1) mX13_areParted 3 [(0, .ref (0)), (1, .int (v1)), (2, .int (v2)), (3, .int (v3)), (4, .int (v4))] [] I J K :=
  (g_iload dX13_areParted_3 4 rfl (g_aload_n dX13_areParted_5 0 0 rfl rfl (g_callvI dX13_areParted_6 ml_X13_401 md_X13_personMany mv_X13_personMany obM_0 rfl rfl rfl (Nat.le_of_ble_eq_true rfl) (CalI.mono h (fun x3 I1 J2 h5 => (g_icmp_ge dX13_areParted_9 rfl (fun q4 => (g_iconst dX13_areParted_83 kc_1 (g_zreturn dX13_areParted_84 rfl (narZ (by decide)) ⟨_, rfl, (h5.1 q4)⟩))) (fun q4 => (g_iconst dX13_areParted_12 kc_0 (g_istore dX13_areParted_13 (by decide) rfl (g_sub [1, 2, 3, 4, 5, 0] rfl (h5.2 q4)))))))))))
theorem bX13_areParted_15 {d : Nat}  {v1 : Int32} {v2 : Int32} {v3 : Int32} {v4 : Int32} {v5 : Int32} {I : Ii} {J : Jj} {K : KI}
    (h : CalI wM d mX13_personMany [.ref (0)] I J (fun x3 I1 J2 => (((x3 ≤ v5) → (GoI wM (d + 1) mX13_areParted 3 [(0, .ref (0)), (1, .int (v1)), (2, .int (v2)), (3, .int (v3)), (4, .int (v4 + 1))] [] I1 J2 K)) ∧ ((¬ x3 ≤ v5) → (((¬ ((v1 >>> (v4 &&& 31)) &&& 1) = 1) → (GoI wM (d + 1) mX13_areParted 15 [(0, .ref (0)), (1, .int (v1)), (2, .int (v2)), (3, .int (v3)), (4, .int (v4)), (5, .int (v5 + 1))] [] I1 J2 K)) ∧ ((((v1 >>> (v4 &&& 31)) &&& 1) = 1) → (((¬ ((v2 >>> (v5 &&& 31)) &&& 1) = 1) → (GoI wM (d + 1) mX13_areParted 15 [(0, .ref (0)), (1, .int (v1)), (2, .int (v2)), (3, .int (v3)), (4, .int (v4)), (5, .int (v5 + 1))] [] I1 J2 K)) ∧ ((((v2 >>> (v5 &&& 31)) &&& 1) = 1) → (CalI wM d mX13_rightOf [.ref (0), .int (v4)] I1 J2 (fun x9 I7 J8 => (CalI wM d mX13_bits [.int (x9 &&& v3)] I7 J8 (fun x12 I10 J11 => (CalI wM d mX13_rightOf [.ref (0), .int (v5)] I10 J11 (fun x15 I13 J14 => (CalI wM d mX13_bits [.int (x15 &&& v3)] I13 J14 (fun x18 I16 J17 => (((x18 < x12) → (GoI wM (d + 1) mX13_areParted 15 [(0, .ref (0)), (1, .int (v1)), (2, .int (v2)), (3, .int (v3)), (4, .int (v4)), (5, .int (v5 + 1))] [] I16 J17 K)) ∧ ((¬ x18 < x12) → (K (0) I16 J17))))))))))))))))))) :
    GoI wM (d + 1) mX13_areParted 15 [(0, .ref (0)), (1, .int (v1)), (2, .int (v2)), (3, .int (v3)), (4, .int (v4)), (5, .int (v5))] [] I J K :=
  (g_iload dX13_areParted_15 5 rfl (g_aload_n dX13_areParted_17 0 0 rfl rfl (g_callvI dX13_areParted_18 ml_X13_401 md_X13_personMany mv_X13_personMany obM_0 rfl rfl rfl (Nat.le_of_ble_eq_true rfl) (CalI.mono h (fun x3 I1 J2 h24 => (g_icmp_ge dX13_areParted_21 rfl (fun q4 => (g_iinc dX13_areParted_77 4 rfl rfl (by decide) rfl (g_goto dX13_areParted_80 rfl (g_sub [1, 2, 3, 4, 0] rfl (h24.1 q4))))) (fun q4 => (g_iload_n dX13_areParted_24 1 1 rfl rfl (g_iload dX13_areParted_25 4 rfl (g_ishr dX13_areParted_27 (g_iconst dX13_areParted_28 kc_1 (g_iand dX13_areParted_29 (g_iconst dX13_areParted_30 kc_1 (g_icmp_ne dX13_areParted_31 rfl (fun q5 => (g_iinc dX13_areParted_71 5 rfl rfl (by decide) rfl (g_goto dX13_areParted_74 rfl (g_sub [1, 2, 3, 4, 5, 0] rfl ((h24.2 q4).1 q5))))) (fun q5 => (g_iload_n dX13_areParted_34 2 2 rfl rfl (g_iload dX13_areParted_35 5 rfl (g_ishr dX13_areParted_37 (g_iconst dX13_areParted_38 kc_1 (g_iand dX13_areParted_39 (g_iconst dX13_areParted_40 kc_1 (g_icmp_ne dX13_areParted_41 rfl (fun q6 => (g_iinc dX13_areParted_71 5 rfl rfl (by decide) rfl (g_goto dX13_areParted_74 rfl (g_sub [1, 2, 3, 4, 5, 0] rfl (((h24.2 q4).2 q5).1 q6))))) (fun q6 => (g_aload_n dX13_areParted_44 0 0 rfl rfl (g_iload dX13_areParted_45 4 rfl (g_callvI dX13_areParted_47 ml_X13_404 md_X13_rightOf mv_X13_rightOf obM_0 rfl rfl rfl (Nat.le_of_ble_eq_true rfl) (CalI.mono (((h24.2 q4).2 q5).2 q6) (fun x9 I7 J8 h23 => (g_iload_n dX13_areParted_50 3 3 rfl rfl (g_iand dX13_areParted_51 (g_callsI dX13_areParted_52 ml_X13_483 md_X13_bits ms_X13_bits rfl rfl (Nat.le_of_ble_eq_true rfl) (CalI.mono h23 (fun x12 I10 J11 h22 => (g_aload_n dX13_areParted_55 0 0 rfl rfl (g_iload dX13_areParted_56 5 rfl (g_callvI dX13_areParted_58 ml_X13_404 md_X13_rightOf mv_X13_rightOf obM_0 rfl rfl rfl (Nat.le_of_ble_eq_true rfl) (CalI.mono h22 (fun x15 I13 J14 h21 => (g_iload_n dX13_areParted_61 3 3 rfl rfl (g_iand dX13_areParted_62 (g_callsI dX13_areParted_63 ml_X13_483 md_X13_bits ms_X13_bits rfl rfl (Nat.le_of_ble_eq_true rfl) (CalI.mono h21 (fun x18 I16 J17 h20 => (g_icmp_gt dX13_areParted_66 rfl (fun q19 => (g_iinc dX13_areParted_71 5 rfl rfl (by decide) rfl (g_goto dX13_areParted_74 rfl (g_sub [1, 2, 3, 4, 5, 0] rfl (h20.1 q19))))) (fun q19 => (g_iconst dX13_areParted_69 kc_0 (g_zreturn dX13_areParted_70 rfl (narZ (by decide)) ⟨_, rfl, (h20.2 q19)⟩)))))))))))))))))))))))))))))))))))))))))))))))
theorem dX13_undo_0 : decode cX13_undo 0 = .ok (.aload_n 0, 1) := by decide +kernel
theorem dX13_undo_1 : decode cX13_undo 1 = .ok (.getfield 392, 3) := by decide +kernel
theorem dX13_undo_4 : decode cX13_undo 4 = .ok (.ifCond .ne 15, 3) := by decide +kernel
theorem dX13_undo_7 : decode cX13_undo 7 = .ok (.aload_n 0, 1) := by decide +kernel
theorem dX13_undo_8 : decode cX13_undo 8 = .ok (.getfield 17, 3) := by decide +kernel
theorem dX13_undo_11 : decode cX13_undo 11 = .ok (.iconst 4, 1) := by decide +kernel
theorem dX13_undo_12 : decode cX13_undo 12 = .ok (.dup2, 1) := by decide +kernel
theorem dX13_undo_13 : decode cX13_undo 13 = .ok (.iaload, 1) := by decide +kernel
theorem dX13_undo_14 : decode cX13_undo 14 = .ok (.iconst 1, 1) := by decide +kernel
theorem dX13_undo_15 : decode cX13_undo 15 = .ok (.iadd, 1) := by decide +kernel
theorem dX13_undo_16 : decode cX13_undo 16 = .ok (.iastore, 1) := by decide +kernel
theorem dX13_undo_17 : decode cX13_undo 17 = .ok (.iconst 0, 1) := by decide +kernel
theorem dX13_undo_18 : decode cX13_undo 18 = .ok (.ireturn, 1) := by decide +kernel
theorem dX13_undo_19 : decode cX13_undo 19 = .ok (.iconst 0, 1) := by decide +kernel
theorem dX13_undo_20 : decode cX13_undo 20 = .ok (.istore_n 1, 1) := by decide +kernel
theorem dX13_undo_21 : decode cX13_undo 21 = .ok (.iload_n 1, 1) := by decide +kernel
theorem dX13_undo_22 : decode cX13_undo 22 = .ok (.sipush 132, 3) := by decide +kernel
theorem dX13_undo_25 : decode cX13_undo 25 = .ok (.if_icmp .ge 30, 3) := by decide +kernel
theorem dX13_undo_28 : decode cX13_undo 28 = .ok (.aload_n 0, 1) := by decide +kernel
theorem dX13_undo_29 : decode cX13_undo 29 = .ok (.getfield 139, 3) := by decide +kernel
theorem dX13_undo_32 : decode cX13_undo 32 = .ok (.iload_n 1, 1) := by decide +kernel
theorem dX13_undo_33 : decode cX13_undo 33 = .ok (.aload_n 0, 1) := by decide +kernel
theorem dX13_undo_34 : decode cX13_undo 34 = .ok (.getfield 160, 3) := by decide +kernel
theorem dX13_undo_37 : decode cX13_undo 37 = .ok (.sipush 132, 3) := by decide +kernel
theorem dX13_undo_40 : decode cX13_undo 40 = .ok (.aload_n 0, 1) := by decide +kernel
theorem dX13_undo_41 : decode cX13_undo 41 = .ok (.getfield 544, 3) := by decide +kernel
theorem dX13_undo_44 : decode cX13_undo 44 = .ok (.imul, 1) := by decide +kernel
theorem dX13_undo_45 : decode cX13_undo 45 = .ok (.iload_n 1, 1) := by decide +kernel
theorem dX13_undo_46 : decode cX13_undo 46 = .ok (.iadd, 1) := by decide +kernel
theorem dX13_undo_47 : decode cX13_undo 47 = .ok (.iaload, 1) := by decide +kernel
theorem dX13_undo_48 : decode cX13_undo 48 = .ok (.iastore, 1) := by decide +kernel
theorem dX13_undo_49 : decode cX13_undo 49 = .ok (.iinc 1 1, 3) := by decide +kernel
theorem dX13_undo_52 : decode cX13_undo 52 = .ok (.goto (-31), 3) := by decide +kernel
theorem dX13_undo_55 : decode cX13_undo 55 = .ok (.aload_n 0, 1) := by decide +kernel
theorem dX13_undo_56 : decode cX13_undo 56 = .ok (.aload_n 0, 1) := by decide +kernel
theorem dX13_undo_57 : decode cX13_undo 57 = .ok (.getfield 544, 3) := by decide +kernel
theorem dX13_undo_60 : decode cX13_undo 60 = .ok (.bipush 20, 2) := by decide +kernel
theorem dX13_undo_62 : decode cX13_undo 62 = .ok (.iadd, 1) := by decide +kernel
theorem dX13_undo_63 : decode cX13_undo 63 = .ok (.iconst 1, 1) := by decide +kernel
theorem dX13_undo_64 : decode cX13_undo 64 = .ok (.isub, 1) := by decide +kernel
theorem dX13_undo_65 : decode cX13_undo 65 = .ok (.bipush 20, 2) := by decide +kernel
theorem dX13_undo_67 : decode cX13_undo 67 = .ok (.irem, 1) := by decide +kernel
theorem dX13_undo_68 : decode cX13_undo 68 = .ok (.putfield 544, 3) := by decide +kernel
theorem dX13_undo_71 : decode cX13_undo 71 = .ok (.aload_n 0, 1) := by decide +kernel
theorem dX13_undo_72 : decode cX13_undo 72 = .ok (.dup, 1) := by decide +kernel
theorem dX13_undo_73 : decode cX13_undo 73 = .ok (.getfield 392, 3) := by decide +kernel
theorem dX13_undo_76 : decode cX13_undo 76 = .ok (.iconst 1, 1) := by decide +kernel
theorem dX13_undo_77 : decode cX13_undo 77 = .ok (.isub, 1) := by decide +kernel
theorem dX13_undo_78 : decode cX13_undo 78 = .ok (.putfield 392, 3) := by decide +kernel
theorem dX13_undo_81 : decode cX13_undo 81 = .ok (.iconst 1, 1) := by decide +kernel
theorem dX13_undo_82 : decode cX13_undo 82 = .ok (.ireturn, 1) := by decide +kernel
theorem bX13_undo_0 {d : Nat}   {I : Ii} {J : Jj} {K : KI}
    (h : ((¬ (I 0 65) = 0) → (GoI wM d mX13_undo 21 [(0, .ref (0)), (1, .int (0))] [] I J K)) ∧ (((I 0 65) = 0) → (K (0) (u2 I 2 (4 : Int32).toNatClampNeg ((I 2 (4 : Int32).toNatClampNeg) + 1)) J))) :
    GoI wM d mX13_undo 0 [(0, .ref (0))] [] I J K :=
  (g_aload_n dX13_undo_0 0 0 rfl rfl (g_getI dX13_undo_1 fl_X13_392 rfl obM_0 (g_if_ne dX13_undo_4 rfl (fun q1 => (g_iconst dX13_undo_19 kc_0 (g_istore_n dX13_undo_20 rfl (by decide) rfl (g_sub [1, 0] rfl (h.1 q1))))) (fun q1 => (g_aload_n dX13_undo_7 0 0 rfl rfl (g_getP dX13_undo_8 fl_X13_17 rfl obM_0 rfl (g_iconst dX13_undo_11 kc_4 (g_dup2_11 dX13_undo_12 rfl rfl (g_iald dX13_undo_13 arM_2 (by unfold vp_in; decide) (g_iconst dX13_undo_14 kc_1 (g_iadd dX13_undo_15 (g_iast dX13_undo_16 arM_2 (by unfold vp_in; decide) (g_iconst dX13_undo_17 kc_0 (g_zreturn dX13_undo_18 rfl (narZ (by decide)) ⟨_, rfl, (h.2 q1)⟩))))))))))))))
theorem bX13_undo_21 {d : Nat}  {v1 : Int32} {I : Ii} {J : Jj} {K : KI}
    (h : ((132 ≤ v1) → (∀ I2 : Ii, I2 = u2 I 0 66 ((((I 0 66) + 20) - 1) - (((I 0 66) + 20) - 1) / 20 * 20) → (K (1) (u2 I2 0 65 ((I2 0 65) - 1)) J))) ∧ ((¬ 132 ≤ v1) → (vp_in ((132 * (I 0 66)) + v1) 2640 ∧ (vp_in (v1) 132 ∧ (GoI wM d mX13_undo 21 [(0, .ref (0)), (1, .int (v1 + 1))] [] (u2 I 42 v1.toNatClampNeg (I 49 ((132 * (I 0 66)) + v1).toNatClampNeg)) J K))))) :
    GoI wM d mX13_undo 21 [(0, .ref (0)), (1, .int (v1))] [] I J K :=
  (g_iload_n dX13_undo_21 1 1 rfl rfl (g_sipush dX13_undo_22 ks_132 (g_icmp_ge dX13_undo_25 rfl (fun q1 => (g_aload_n dX13_undo_55 0 0 rfl rfl (g_aload_n dX13_undo_56 0 0 rfl rfl (g_getI dX13_undo_57 fl_X13_544 rfl obM_0 (g_bipush dX13_undo_60 kb_20 (g_iadd dX13_undo_62 (g_iconst dX13_undo_63 kc_1 (g_isub dX13_undo_64 (g_bipush dX13_undo_65 kb_20 (g_irem dX13_undo_67 (by decide) (g_putI dX13_undo_68 fl_X13_544 rfl rfl obM_0 (g_aload_n dX13_undo_71 0 0 rfl rfl (g_dup dX13_undo_72 rfl (g_getI dX13_undo_73 fl_X13_392 rfl obM_0 (g_iconst dX13_undo_76 kc_1 (g_isub dX13_undo_77 (g_putI dX13_undo_78 fl_X13_392 rfl rfl obM_0 (g_iconst dX13_undo_81 kc_1 (g_zreturn dX13_undo_82 rfl (narZ (by decide)) ⟨_, rfl, ((h.1 q1) _ rfl)⟩))))))))))))))))))) (fun q1 => (g_aload_n dX13_undo_28 0 0 rfl rfl (g_getP dX13_undo_29 fl_X13_139 rfl obM_0 rfl (g_iload_n dX13_undo_32 1 1 rfl rfl (g_aload_n dX13_undo_33 0 0 rfl rfl (g_getP dX13_undo_34 fl_X13_160 rfl obM_0 rfl (g_sipush dX13_undo_37 ks_132 (g_aload_n dX13_undo_40 0 0 rfl rfl (g_getI dX13_undo_41 fl_X13_544 rfl obM_0 (g_imul dX13_undo_44 (g_iload_n dX13_undo_45 1 1 rfl rfl (g_iadd dX13_undo_46 (have b4 := (h.2 q1).1; g_iald dX13_undo_47 arM_49 b4 (have b5 := (h.2 q1).2.1; g_iast dX13_undo_48 arM_42 b5 (g_iinc dX13_undo_49 1 rfl rfl (by decide) rfl (g_goto dX13_undo_52 rfl (g_sub [1, 0] rfl (h.2 q1).2.2))))))))))))))))))))
theorem dX13_teach_0 : decode cX13_teach 0 = .ok (.aload_n 0, 1) := by decide +kernel
theorem dX13_teach_1 : decode cX13_teach 1 = .ok (.iload_n 1, 1) := by decide +kernel
theorem dX13_teach_2 : decode cX13_teach 2 = .ok (.invokevirtual 504, 3) := by decide +kernel
theorem dX13_teach_5 : decode cX13_teach 5 = .ok (.ifCond .eq 34, 3) := by decide +kernel
theorem dX13_teach_8 : decode cX13_teach 8 = .ok (.iload_n 2, 1) := by decide +kernel
theorem dX13_teach_9 : decode cX13_teach 9 = .ok (.iconst (-1), 1) := by decide +kernel
theorem dX13_teach_10 : decode cX13_teach 10 = .ok (.if_icmp .eq 20, 3) := by decide +kernel
theorem dX13_teach_13 : decode cX13_teach 13 = .ok (.aload_n 0, 1) := by decide +kernel
theorem dX13_teach_14 : decode cX13_teach 14 = .ok (.iload_n 2, 1) := by decide +kernel
theorem dX13_teach_15 : decode cX13_teach 15 = .ok (.invokevirtual 504, 3) := by decide +kernel
theorem dX13_teach_18 : decode cX13_teach 18 = .ok (.ifCond .eq 21, 3) := by decide +kernel
theorem dX13_teach_21 : decode cX13_teach 21 = .ok (.aload_n 0, 1) := by decide +kernel
theorem dX13_teach_22 : decode cX13_teach 22 = .ok (.iload_n 2, 1) := by decide +kernel
theorem dX13_teach_23 : decode cX13_teach 23 = .ok (.iload_n 1, 1) := by decide +kernel
theorem dX13_teach_24 : decode cX13_teach 24 = .ok (.invokevirtual 528, 3) := by decide +kernel
theorem dX13_teach_27 : decode cX13_teach 27 = .ok (.ifCond .ne 12, 3) := by decide +kernel
theorem dX13_teach_30 : decode cX13_teach 30 = .ok (.aload_n 0, 1) := by decide +kernel
theorem dX13_teach_31 : decode cX13_teach 31 = .ok (.iload_n 1, 1) := by decide +kernel
theorem dX13_teach_32 : decode cX13_teach 32 = .ok (.invokevirtual 410, 3) := by decide +kernel
theorem dX13_teach_35 : decode cX13_teach 35 = .ok (.iload_n 2, 1) := by decide +kernel
theorem dX13_teach_36 : decode cX13_teach 36 = .ok (.if_icmp .ne 15, 3) := by decide +kernel
theorem dX13_teach_39 : decode cX13_teach 39 = .ok (.aload_n 0, 1) := by decide +kernel
theorem dX13_teach_40 : decode cX13_teach 40 = .ok (.getfield 17, 3) := by decide +kernel
theorem dX13_teach_43 : decode cX13_teach 43 = .ok (.iconst 2, 1) := by decide +kernel
theorem dX13_teach_44 : decode cX13_teach 44 = .ok (.dup2, 1) := by decide +kernel
theorem dX13_teach_45 : decode cX13_teach 45 = .ok (.iaload, 1) := by decide +kernel
theorem dX13_teach_46 : decode cX13_teach 46 = .ok (.iconst 1, 1) := by decide +kernel
theorem dX13_teach_47 : decode cX13_teach 47 = .ok (.iadd, 1) := by decide +kernel
theorem dX13_teach_48 : decode cX13_teach 48 = .ok (.iastore, 1) := by decide +kernel
theorem dX13_teach_49 : decode cX13_teach 49 = .ok (.iconst 0, 1) := by decide +kernel
theorem dX13_teach_50 : decode cX13_teach 50 = .ok (.ireturn, 1) := by decide +kernel
theorem dX13_teach_51 : decode cX13_teach 51 = .ok (.aload_n 0, 1) := by decide +kernel
theorem dX13_teach_52 : decode cX13_teach 52 = .ok (.invokevirtual 547, 3) := by decide +kernel
theorem dX13_teach_55 : decode cX13_teach 55 = .ok (.aload_n 0, 1) := by decide +kernel
theorem dX13_teach_56 : decode cX13_teach 56 = .ok (.getfield 139, 3) := by decide +kernel
theorem dX13_teach_59 : decode cX13_teach 59 = .ok (.iconst 1, 1) := by decide +kernel
theorem dX13_teach_60 : decode cX13_teach 60 = .ok (.iconst 5, 1) := by decide +kernel
theorem dX13_teach_61 : decode cX13_teach 61 = .ok (.iload_n 1, 1) := by decide +kernel
theorem dX13_teach_62 : decode cX13_teach 62 = .ok (.imul, 1) := by decide +kernel
theorem dX13_teach_63 : decode cX13_teach 63 = .ok (.iadd, 1) := by decide +kernel
theorem dX13_teach_64 : decode cX13_teach 64 = .ok (.iload_n 2, 1) := by decide +kernel
theorem dX13_teach_65 : decode cX13_teach 65 = .ok (.iastore, 1) := by decide +kernel
theorem dX13_teach_66 : decode cX13_teach 66 = .ok (.iconst 1, 1) := by decide +kernel
theorem dX13_teach_67 : decode cX13_teach 67 = .ok (.ireturn, 1) := by decide +kernel
theorem bX13_teach_0 {d : Nat}  {v1 : Int32} {v2 : Int32} {I : Ii} {J : Jj} {K : KI}
    (h : CalI wM d mX13_isPerson [.ref (0), .int (v1)] I J (fun x3 I1 J2 => (((x3 = 0) → (K (0) (u2 I1 2 (2 : Int32).toNatClampNeg ((I1 2 (2 : Int32).toNatClampNeg) + 1)) J2)) ∧ ((¬ x3 = 0) → (((v2 = ((-1))) → (CalI wM d mX13_masterOf [.ref (0), .int (v1)] I1 J2 (fun x10 I8 J9 => (((¬ x10 = v2) → (CalV wM d mX13_keeps [.ref (0)] I8 J9 (fun I12 J13 => (vp_in (1 + (5 * v1)) 132 ∧ (K (1) (u2 I12 42 (1 + (5 * v1)).toNatClampNeg v2) J13))))) ∧ ((x10 = v2) → (K (0) (u2 I8 2 (2 : Int32).toNatClampNeg ((I8 2 (2 : Int32).toNatClampNeg) + 1)) J9)))))) ∧ ((¬ v2 = ((-1))) → (CalI wM d mX13_isPerson [.ref (0), .int (v2)] I1 J2 (fun x22 I20 J21 => (((x22 = 0) → (K (0) (u2 I20 2 (2 : Int32).toNatClampNeg ((I20 2 (2 : Int32).toNatClampNeg) + 1)) J21)) ∧ ((¬ x22 = 0) → (CalI wM d mX13_isTaughtBy [.ref (0), .int (v2), .int (v1)] I20 J21 (fun x28 I26 J27 => (((¬ x28 = 0) → (K (0) (u2 I26 2 (2 : Int32).toNatClampNeg ((I26 2 (2 : Int32).toNatClampNeg) + 1)) J27)) ∧ ((x28 = 0) → (CalI wM d mX13_masterOf [.ref (0), .int (v1)] I26 J27 (fun x34 I32 J33 => (((¬ x34 = v2) → (CalV wM d mX13_keeps [.ref (0)] I32 J33 (fun I36 J37 => (vp_in (1 + (5 * v1)) 132 ∧ (K (1) (u2 I36 42 (1 + (5 * v1)).toNatClampNeg v2) J37))))) ∧ ((x34 = v2) → (K (0) (u2 I32 2 (2 : Int32).toNatClampNeg ((I32 2 (2 : Int32).toNatClampNeg) + 1)) J33))))))))))))))))))) :
    GoI wM (d + 1) mX13_teach 0 [(0, .ref (0)), (1, .int (v1)), (2, .int (v2))] [] I J K :=
  (g_aload_n dX13_teach_0 0 0 rfl rfl (g_iload_n dX13_teach_1 1 1 rfl rfl (g_callvI dX13_teach_2 ml_X13_504 md_X13_isPerson mv_X13_isPerson obM_0 rfl rfl rfl (Nat.le_of_ble_eq_true rfl) (CalI.mono h (fun x3 I1 J2 h46 => (g_if_eq dX13_teach_5 rfl (fun q4 => (g_aload_n dX13_teach_39 0 0 rfl rfl (g_getP dX13_teach_40 fl_X13_17 rfl obM_0 rfl (g_iconst dX13_teach_43 kc_2 (g_dup2_11 dX13_teach_44 rfl rfl (g_iald dX13_teach_45 arM_2 (by unfold vp_in; decide) (g_iconst dX13_teach_46 kc_1 (g_iadd dX13_teach_47 (g_iast dX13_teach_48 arM_2 (by unfold vp_in; decide) (g_iconst dX13_teach_49 kc_0 (g_zreturn dX13_teach_50 rfl (narZ (by decide)) ⟨_, rfl, (h46.1 q4)⟩))))))))))) (fun q4 => (g_iload_n dX13_teach_8 2 2 rfl rfl (g_iconst dX13_teach_9 kc_n1 (g_icmp_eq dX13_teach_10 rfl (fun q7 => (g_aload_n dX13_teach_30 0 0 rfl rfl (g_iload_n dX13_teach_31 1 1 rfl rfl (g_callvI dX13_teach_32 ml_X13_410 md_X13_masterOf mv_X13_masterOf obM_0 rfl rfl rfl (Nat.le_of_ble_eq_true rfl) (CalI.mono ((h46.2 q4).1 q7) (fun x10 I8 J9 h19 => (g_iload_n dX13_teach_35 2 2 rfl rfl (g_icmp_ne dX13_teach_36 rfl (fun q11 => (g_aload_n dX13_teach_51 0 0 rfl rfl (g_callvV dX13_teach_52 ml_X13_547 md_X13_keeps mv_X13_keeps obM_0 rfl rfl rfl (Nat.le_of_ble_eq_true rfl) (CalV.mono (h19.1 q11) (fun I12 J13 h16 => (g_aload_n dX13_teach_55 0 0 rfl rfl (g_getP dX13_teach_56 fl_X13_139 rfl obM_0 rfl (g_iconst dX13_teach_59 kc_1 (g_iconst dX13_teach_60 kc_5 (g_iload_n dX13_teach_61 1 1 rfl rfl (g_imul dX13_teach_62 (g_iadd dX13_teach_63 (g_iload_n dX13_teach_64 2 2 rfl rfl (have b14 := h16.1; g_iast dX13_teach_65 arM_42 b14 (g_iconst dX13_teach_66 kc_1 (g_zreturn dX13_teach_67 rfl (narZ (by decide)) ⟨_, rfl, h16.2⟩)))))))))))))))) (fun q11 => (g_aload_n dX13_teach_39 0 0 rfl rfl (g_getP dX13_teach_40 fl_X13_17 rfl obM_0 rfl (g_iconst dX13_teach_43 kc_2 (g_dup2_11 dX13_teach_44 rfl rfl (g_iald dX13_teach_45 arM_2 (by unfold vp_in; decide) (g_iconst dX13_teach_46 kc_1 (g_iadd dX13_teach_47 (g_iast dX13_teach_48 arM_2 (by unfold vp_in; decide) (g_iconst dX13_teach_49 kc_0 (g_zreturn dX13_teach_50 rfl (narZ (by decide)) ⟨_, rfl, (h19.2 q11)⟩))))))))))))))))))) (fun q7 => (g_aload_n dX13_teach_13 0 0 rfl rfl (g_iload_n dX13_teach_14 2 2 rfl rfl (g_callvI dX13_teach_15 ml_X13_504 md_X13_isPerson mv_X13_isPerson obM_0 rfl rfl rfl (Nat.le_of_ble_eq_true rfl) (CalI.mono ((h46.2 q4).2 q7) (fun x22 I20 J21 h45 => (g_if_eq dX13_teach_18 rfl (fun q23 => (g_aload_n dX13_teach_39 0 0 rfl rfl (g_getP dX13_teach_40 fl_X13_17 rfl obM_0 rfl (g_iconst dX13_teach_43 kc_2 (g_dup2_11 dX13_teach_44 rfl rfl (g_iald dX13_teach_45 arM_2 (by unfold vp_in; decide) (g_iconst dX13_teach_46 kc_1 (g_iadd dX13_teach_47 (g_iast dX13_teach_48 arM_2 (by unfold vp_in; decide) (g_iconst dX13_teach_49 kc_0 (g_zreturn dX13_teach_50 rfl (narZ (by decide)) ⟨_, rfl, (h45.1 q23)⟩))))))))))) (fun q23 => (g_aload_n dX13_teach_21 0 0 rfl rfl (g_iload_n dX13_teach_22 2 2 rfl rfl (g_iload_n dX13_teach_23 1 1 rfl rfl (g_callvI dX13_teach_24 ml_X13_528 md_X13_isTaughtBy mv_X13_isTaughtBy obM_0 rfl rfl rfl (Nat.le_of_ble_eq_true rfl) (CalI.mono (h45.2 q23) (fun x28 I26 J27 h44 => (g_if_ne dX13_teach_27 rfl (fun q29 => (g_aload_n dX13_teach_39 0 0 rfl rfl (g_getP dX13_teach_40 fl_X13_17 rfl obM_0 rfl (g_iconst dX13_teach_43 kc_2 (g_dup2_11 dX13_teach_44 rfl rfl (g_iald dX13_teach_45 arM_2 (by unfold vp_in; decide) (g_iconst dX13_teach_46 kc_1 (g_iadd dX13_teach_47 (g_iast dX13_teach_48 arM_2 (by unfold vp_in; decide) (g_iconst dX13_teach_49 kc_0 (g_zreturn dX13_teach_50 rfl (narZ (by decide)) ⟨_, rfl, (h44.1 q29)⟩))))))))))) (fun q29 => (g_aload_n dX13_teach_30 0 0 rfl rfl (g_iload_n dX13_teach_31 1 1 rfl rfl (g_callvI dX13_teach_32 ml_X13_410 md_X13_masterOf mv_X13_masterOf obM_0 rfl rfl rfl (Nat.le_of_ble_eq_true rfl) (CalI.mono (h44.2 q29) (fun x34 I32 J33 h43 => (g_iload_n dX13_teach_35 2 2 rfl rfl (g_icmp_ne dX13_teach_36 rfl (fun q35 => (g_aload_n dX13_teach_51 0 0 rfl rfl (g_callvV dX13_teach_52 ml_X13_547 md_X13_keeps mv_X13_keeps obM_0 rfl rfl rfl (Nat.le_of_ble_eq_true rfl) (CalV.mono (h43.1 q35) (fun I36 J37 h40 => (g_aload_n dX13_teach_55 0 0 rfl rfl (g_getP dX13_teach_56 fl_X13_139 rfl obM_0 rfl (g_iconst dX13_teach_59 kc_1 (g_iconst dX13_teach_60 kc_5 (g_iload_n dX13_teach_61 1 1 rfl rfl (g_imul dX13_teach_62 (g_iadd dX13_teach_63 (g_iload_n dX13_teach_64 2 2 rfl rfl (have b38 := h40.1; g_iast dX13_teach_65 arM_42 b38 (g_iconst dX13_teach_66 kc_1 (g_zreturn dX13_teach_67 rfl (narZ (by decide)) ⟨_, rfl, h40.2⟩)))))))))))))))) (fun q35 => (g_aload_n dX13_teach_39 0 0 rfl rfl (g_getP dX13_teach_40 fl_X13_17 rfl obM_0 rfl (g_iconst dX13_teach_43 kc_2 (g_dup2_11 dX13_teach_44 rfl rfl (g_iald dX13_teach_45 arM_2 (by unfold vp_in; decide) (g_iconst dX13_teach_46 kc_1 (g_iadd dX13_teach_47 (g_iast dX13_teach_48 arM_2 (by unfold vp_in; decide) (g_iconst dX13_teach_49 kc_0 (g_zreturn dX13_teach_50 rfl (narZ (by decide)) ⟨_, rfl, (h43.2 q35)⟩))))))))))))))))))))))))))))))))))))))))))))
theorem dX13_keeps_0 : decode cX13_keeps 0 = .ok (.aload_n 0, 1) := by decide +kernel
theorem dX13_keeps_1 : decode cX13_keeps 1 = .ok (.aload_n 0, 1) := by decide +kernel
theorem dX13_keeps_2 : decode cX13_keeps 2 = .ok (.getfield 544, 3) := by decide +kernel
theorem dX13_keeps_5 : decode cX13_keeps 5 = .ok (.iconst 1, 1) := by decide +kernel
theorem dX13_keeps_6 : decode cX13_keeps 6 = .ok (.iadd, 1) := by decide +kernel
theorem dX13_keeps_7 : decode cX13_keeps 7 = .ok (.bipush 20, 2) := by decide +kernel
theorem dX13_keeps_9 : decode cX13_keeps 9 = .ok (.irem, 1) := by decide +kernel
theorem dX13_keeps_10 : decode cX13_keeps 10 = .ok (.putfield 544, 3) := by decide +kernel
theorem dX13_keeps_13 : decode cX13_keeps 13 = .ok (.iconst 0, 1) := by decide +kernel
theorem dX13_keeps_14 : decode cX13_keeps 14 = .ok (.istore_n 1, 1) := by decide +kernel
theorem dX13_keeps_15 : decode cX13_keeps 15 = .ok (.iload_n 1, 1) := by decide +kernel
theorem dX13_keeps_16 : decode cX13_keeps 16 = .ok (.sipush 132, 3) := by decide +kernel
theorem dX13_keeps_19 : decode cX13_keeps 19 = .ok (.if_icmp .ge 30, 3) := by decide +kernel
theorem dX13_keeps_22 : decode cX13_keeps 22 = .ok (.aload_n 0, 1) := by decide +kernel
theorem dX13_keeps_23 : decode cX13_keeps 23 = .ok (.getfield 160, 3) := by decide +kernel
theorem dX13_keeps_26 : decode cX13_keeps 26 = .ok (.sipush 132, 3) := by decide +kernel
theorem dX13_keeps_29 : decode cX13_keeps 29 = .ok (.aload_n 0, 1) := by decide +kernel
theorem dX13_keeps_30 : decode cX13_keeps 30 = .ok (.getfield 544, 3) := by decide +kernel
theorem dX13_keeps_33 : decode cX13_keeps 33 = .ok (.imul, 1) := by decide +kernel
theorem dX13_keeps_34 : decode cX13_keeps 34 = .ok (.iload_n 1, 1) := by decide +kernel
theorem dX13_keeps_35 : decode cX13_keeps 35 = .ok (.iadd, 1) := by decide +kernel
theorem dX13_keeps_36 : decode cX13_keeps 36 = .ok (.aload_n 0, 1) := by decide +kernel
theorem dX13_keeps_37 : decode cX13_keeps 37 = .ok (.getfield 139, 3) := by decide +kernel
theorem dX13_keeps_40 : decode cX13_keeps 40 = .ok (.iload_n 1, 1) := by decide +kernel
theorem dX13_keeps_41 : decode cX13_keeps 41 = .ok (.iaload, 1) := by decide +kernel
theorem dX13_keeps_42 : decode cX13_keeps 42 = .ok (.iastore, 1) := by decide +kernel
theorem dX13_keeps_43 : decode cX13_keeps 43 = .ok (.iinc 1 1, 3) := by decide +kernel
theorem dX13_keeps_46 : decode cX13_keeps 46 = .ok (.goto (-31), 3) := by decide +kernel
theorem dX13_keeps_49 : decode cX13_keeps 49 = .ok (.aload_n 0, 1) := by decide +kernel
theorem dX13_keeps_50 : decode cX13_keeps 50 = .ok (.getfield 392, 3) := by decide +kernel
theorem dX13_keeps_53 : decode cX13_keeps 53 = .ok (.bipush 20, 2) := by decide +kernel
theorem dX13_keeps_55 : decode cX13_keeps 55 = .ok (.if_icmp .ge 13, 3) := by decide +kernel
theorem dX13_keeps_58 : decode cX13_keeps 58 = .ok (.aload_n 0, 1) := by decide +kernel
theorem dX13_keeps_59 : decode cX13_keeps 59 = .ok (.dup, 1) := by decide +kernel
theorem dX13_keeps_60 : decode cX13_keeps 60 = .ok (.getfield 392, 3) := by decide +kernel
theorem dX13_keeps_63 : decode cX13_keeps 63 = .ok (.iconst 1, 1) := by decide +kernel
theorem dX13_keeps_64 : decode cX13_keeps 64 = .ok (.iadd, 1) := by decide +kernel
theorem dX13_keeps_65 : decode cX13_keeps 65 = .ok (.putfield 392, 3) := by decide +kernel
theorem dX13_keeps_68 : decode cX13_keeps 68 = .ok (.return_, 1) := by decide +kernel
theorem bX13_keeps_0 {d : Nat}   {I : Ii} {J : Jj} {K : KV}
    (h : GoV wM d mX13_keeps 15 [(0, .ref (0)), (1, .int (0))] [] (u2 I 0 66 (((I 0 66) + 1) - ((I 0 66) + 1) / 20 * 20)) J K) :
    GoV wM d mX13_keeps 0 [(0, .ref (0))] [] I J K :=
  (g_aload_n dX13_keeps_0 0 0 rfl rfl (g_aload_n dX13_keeps_1 0 0 rfl rfl (g_getI dX13_keeps_2 fl_X13_544 rfl obM_0 (g_iconst dX13_keeps_5 kc_1 (g_iadd dX13_keeps_6 (g_bipush dX13_keeps_7 kb_20 (g_irem dX13_keeps_9 (by decide) (g_putI dX13_keeps_10 fl_X13_544 rfl rfl obM_0 (g_iconst dX13_keeps_13 kc_0 (g_istore_n dX13_keeps_14 rfl (by decide) rfl (g_sub [1, 0] rfl h)))))))))))
theorem bX13_keeps_15 {d : Nat}  {v1 : Int32} {I : Ii} {J : Jj} {K : KV}
    (h : ((132 ≤ v1) → (((20 ≤ (I 0 65)) → (K I J)) ∧ ((¬ 20 ≤ (I 0 65)) → (K (u2 I 0 65 ((I 0 65) + 1)) J)))) ∧ ((¬ 132 ≤ v1) → (vp_in (v1) 132 ∧ (vp_in ((132 * (I 0 66)) + v1) 2640 ∧ (GoV wM d mX13_keeps 15 [(0, .ref (0)), (1, .int (v1 + 1))] [] (u2 I 49 ((132 * (I 0 66)) + v1).toNatClampNeg (I 42 v1.toNatClampNeg)) J K))))) :
    GoV wM d mX13_keeps 15 [(0, .ref (0)), (1, .int (v1))] [] I J K :=
  (g_iload_n dX13_keeps_15 1 1 rfl rfl (g_sipush dX13_keeps_16 ks_132 (g_icmp_ge dX13_keeps_19 rfl (fun q1 => (g_aload_n dX13_keeps_49 0 0 rfl rfl (g_getI dX13_keeps_50 fl_X13_392 rfl obM_0 (g_bipush dX13_keeps_53 kb_20 (g_icmp_ge dX13_keeps_55 rfl (fun q2 => (g_return dX13_keeps_68 rfl ⟨rfl, ((h.1 q1).1 q2)⟩)) (fun q2 => (g_aload_n dX13_keeps_58 0 0 rfl rfl (g_dup dX13_keeps_59 rfl (g_getI dX13_keeps_60 fl_X13_392 rfl obM_0 (g_iconst dX13_keeps_63 kc_1 (g_iadd dX13_keeps_64 (g_putI dX13_keeps_65 fl_X13_392 rfl rfl obM_0 (g_return dX13_keeps_68 rfl ⟨rfl, ((h.1 q1).2 q2)⟩))))))))))))) (fun q1 => (g_aload_n dX13_keeps_22 0 0 rfl rfl (g_getP dX13_keeps_23 fl_X13_160 rfl obM_0 rfl (g_sipush dX13_keeps_26 ks_132 (g_aload_n dX13_keeps_29 0 0 rfl rfl (g_getI dX13_keeps_30 fl_X13_544 rfl obM_0 (g_imul dX13_keeps_33 (g_iload_n dX13_keeps_34 1 1 rfl rfl (g_iadd dX13_keeps_35 (g_aload_n dX13_keeps_36 0 0 rfl rfl (g_getP dX13_keeps_37 fl_X13_139 rfl obM_0 rfl (g_iload_n dX13_keeps_40 1 1 rfl rfl (have b4 := (h.2 q1).1; g_iald dX13_keeps_41 arM_42 b4 (have b5 := (h.2 q1).2.1; g_iast dX13_keeps_42 arM_49 b5 (g_iinc dX13_keeps_43 1 rfl rfl (by decide) rfl (g_goto dX13_keeps_46 rfl (g_sub [1, 0] rfl (h.2 q1).2.2))))))))))))))))))))
theorem dX13_tell_0 : decode cX13_tell 0 = .ok (.aload_n 0, 1) := by decide +kernel
theorem dX13_tell_1 : decode cX13_tell 1 = .ok (.iload_n 1, 1) := by decide +kernel
theorem dX13_tell_2 : decode cX13_tell 2 = .ok (.invokevirtual 504, 3) := by decide +kernel
theorem dX13_tell_5 : decode cX13_tell 5 = .ok (.ifCond .eq 21, 3) := by decide +kernel
theorem dX13_tell_8 : decode cX13_tell 8 = .ok (.aload_n 0, 1) := by decide +kernel
theorem dX13_tell_9 : decode cX13_tell 9 = .ok (.iload_n 2, 1) := by decide +kernel
theorem dX13_tell_10 : decode cX13_tell 10 = .ok (.invokevirtual 495, 3) := by decide +kernel
theorem dX13_tell_13 : decode cX13_tell 13 = .ok (.ifCond .eq 13, 3) := by decide +kernel
theorem dX13_tell_16 : decode cX13_tell 16 = .ok (.aload_n 0, 1) := by decide +kernel
theorem dX13_tell_17 : decode cX13_tell 17 = .ok (.iload_n 1, 1) := by decide +kernel
theorem dX13_tell_18 : decode cX13_tell 18 = .ok (.iload_n 2, 1) := by decide +kernel
theorem dX13_tell_19 : decode cX13_tell 19 = .ok (.invokevirtual 430, 3) := by decide +kernel
theorem dX13_tell_22 : decode cX13_tell 22 = .ok (.iconst 1, 1) := by decide +kernel
theorem dX13_tell_23 : decode cX13_tell 23 = .ok (.if_icmp .ne 15, 3) := by decide +kernel
theorem dX13_tell_26 : decode cX13_tell 26 = .ok (.aload_n 0, 1) := by decide +kernel
theorem dX13_tell_27 : decode cX13_tell 27 = .ok (.getfield 17, 3) := by decide +kernel
theorem dX13_tell_30 : decode cX13_tell 30 = .ok (.iconst 2, 1) := by decide +kernel
theorem dX13_tell_31 : decode cX13_tell 31 = .ok (.dup2, 1) := by decide +kernel
theorem dX13_tell_32 : decode cX13_tell 32 = .ok (.iaload, 1) := by decide +kernel
theorem dX13_tell_33 : decode cX13_tell 33 = .ok (.iconst 1, 1) := by decide +kernel
theorem dX13_tell_34 : decode cX13_tell 34 = .ok (.iadd, 1) := by decide +kernel
theorem dX13_tell_35 : decode cX13_tell 35 = .ok (.iastore, 1) := by decide +kernel
theorem dX13_tell_36 : decode cX13_tell 36 = .ok (.iconst 0, 1) := by decide +kernel
theorem dX13_tell_37 : decode cX13_tell 37 = .ok (.ireturn, 1) := by decide +kernel
theorem dX13_tell_38 : decode cX13_tell 38 = .ok (.aload_n 0, 1) := by decide +kernel
theorem dX13_tell_39 : decode cX13_tell 39 = .ok (.invokevirtual 547, 3) := by decide +kernel
theorem dX13_tell_42 : decode cX13_tell 42 = .ok (.aload_n 0, 1) := by decide +kernel
theorem dX13_tell_43 : decode cX13_tell 43 = .ok (.iload_n 1, 1) := by decide +kernel
theorem dX13_tell_44 : decode cX13_tell 44 = .ok (.iload_n 2, 1) := by decide +kernel
theorem dX13_tell_45 : decode cX13_tell 45 = .ok (.iconst 1, 1) := by decide +kernel
theorem dX13_tell_46 : decode cX13_tell 46 = .ok (.invokevirtual 439, 3) := by decide +kernel
theorem dX13_tell_49 : decode cX13_tell 49 = .ok (.iconst 1, 1) := by decide +kernel
theorem dX13_tell_50 : decode cX13_tell 50 = .ok (.ireturn, 1) := by decide +kernel
theorem bX13_tell_0 {d : Nat}  {v1 : Int32} {v2 : Int32} {I : Ii} {J : Jj} {K : KI}
    (h : CalI wM d mX13_isPerson [.ref (0), .int (v1)] I J (fun x3 I1 J2 => (((x3 = 0) → (K (0) (u2 I1 2 (2 : Int32).toNatClampNeg ((I1 2 (2 : Int32).toNatClampNeg) + 1)) J2)) ∧ ((¬ x3 = 0) → (CalI wM d mX13_isFact [.ref (0), .int (v2)] I1 J2 (fun x9 I7 J8 => (((x9 = 0) → (K (0) (u2 I7 2 (2 : Int32).toNatClampNeg ((I7 2 (2 : Int32).toNatClampNeg) + 1)) J8)) ∧ ((¬ x9 = 0) → (CalI wM d mX13_isOf [.ref (0), .int (v1), .int (v2)] I7 J8 (fun x15 I13 J14 => (((¬ x15 = 1) → (CalV wM d mX13_keeps [.ref (0)] I13 J14 (fun I17 J18 => (CalV wM d mX13_makes [.ref (0), .int (v1), .int (v2), .int (1)] I17 J18 (fun I19 J20 => (K (1) I19 J20)))))) ∧ ((x15 = 1) → (K (0) (u2 I13 2 (2 : Int32).toNatClampNeg ((I13 2 (2 : Int32).toNatClampNeg) + 1)) J14))))))))))))) :
    GoI wM (d + 1) mX13_tell 0 [(0, .ref (0)), (1, .int (v1)), (2, .int (v2))] [] I J K :=
  (g_aload_n dX13_tell_0 0 0 rfl rfl (g_iload_n dX13_tell_1 1 1 rfl rfl (g_callvI dX13_tell_2 ml_X13_504 md_X13_isPerson mv_X13_isPerson obM_0 rfl rfl rfl (Nat.le_of_ble_eq_true rfl) (CalI.mono h (fun x3 I1 J2 h27 => (g_if_eq dX13_tell_5 rfl (fun q4 => (g_aload_n dX13_tell_26 0 0 rfl rfl (g_getP dX13_tell_27 fl_X13_17 rfl obM_0 rfl (g_iconst dX13_tell_30 kc_2 (g_dup2_11 dX13_tell_31 rfl rfl (g_iald dX13_tell_32 arM_2 (by unfold vp_in; decide) (g_iconst dX13_tell_33 kc_1 (g_iadd dX13_tell_34 (g_iast dX13_tell_35 arM_2 (by unfold vp_in; decide) (g_iconst dX13_tell_36 kc_0 (g_zreturn dX13_tell_37 rfl (narZ (by decide)) ⟨_, rfl, (h27.1 q4)⟩))))))))))) (fun q4 => (g_aload_n dX13_tell_8 0 0 rfl rfl (g_iload_n dX13_tell_9 2 2 rfl rfl (g_callvI dX13_tell_10 ml_X13_495 md_X13_isFact mv_X13_isFact obM_0 rfl rfl rfl (Nat.le_of_ble_eq_true rfl) (CalI.mono (h27.2 q4) (fun x9 I7 J8 h26 => (g_if_eq dX13_tell_13 rfl (fun q10 => (g_aload_n dX13_tell_26 0 0 rfl rfl (g_getP dX13_tell_27 fl_X13_17 rfl obM_0 rfl (g_iconst dX13_tell_30 kc_2 (g_dup2_11 dX13_tell_31 rfl rfl (g_iald dX13_tell_32 arM_2 (by unfold vp_in; decide) (g_iconst dX13_tell_33 kc_1 (g_iadd dX13_tell_34 (g_iast dX13_tell_35 arM_2 (by unfold vp_in; decide) (g_iconst dX13_tell_36 kc_0 (g_zreturn dX13_tell_37 rfl (narZ (by decide)) ⟨_, rfl, (h26.1 q10)⟩))))))))))) (fun q10 => (g_aload_n dX13_tell_16 0 0 rfl rfl (g_iload_n dX13_tell_17 1 1 rfl rfl (g_iload_n dX13_tell_18 2 2 rfl rfl (g_callvI dX13_tell_19 ml_X13_430 md_X13_isOf mv_X13_isOf obM_0 rfl rfl rfl (Nat.le_of_ble_eq_true rfl) (CalI.mono (h26.2 q10) (fun x15 I13 J14 h25 => (g_iconst dX13_tell_22 kc_1 (g_icmp_ne dX13_tell_23 rfl (fun q16 => (g_aload_n dX13_tell_38 0 0 rfl rfl (g_callvV dX13_tell_39 ml_X13_547 md_X13_keeps mv_X13_keeps obM_0 rfl rfl rfl (Nat.le_of_ble_eq_true rfl) (CalV.mono (h25.1 q16) (fun I17 J18 h22 => (g_aload_n dX13_tell_42 0 0 rfl rfl (g_iload_n dX13_tell_43 1 1 rfl rfl (g_iload_n dX13_tell_44 2 2 rfl rfl (g_iconst dX13_tell_45 kc_1 (g_callvV dX13_tell_46 ml_X13_439 md_X13_makes mv_X13_makes obM_0 rfl rfl rfl (Nat.le_of_ble_eq_true rfl) (CalV.mono h22 (fun I19 J20 h21 => (g_iconst dX13_tell_49 kc_1 (g_zreturn dX13_tell_50 rfl (narZ (by decide)) ⟨_, rfl, h21⟩)))))))))))))) (fun q16 => (g_aload_n dX13_tell_26 0 0 rfl rfl (g_getP dX13_tell_27 fl_X13_17 rfl obM_0 rfl (g_iconst dX13_tell_30 kc_2 (g_dup2_11 dX13_tell_31 rfl rfl (g_iald dX13_tell_32 arM_2 (by unfold vp_in; decide) (g_iconst dX13_tell_33 kc_1 (g_iadd dX13_tell_34 (g_iast dX13_tell_35 arM_2 (by unfold vp_in; decide) (g_iconst dX13_tell_36 kc_0 (g_zreturn dX13_tell_37 rfl (narZ (by decide)) ⟨_, rfl, (h25.2 q16)⟩)))))))))))))))))))))))))))))))))
theorem dX13_years_0 : decode cX13_years 0 = .ok (.aload_n 0, 1) := by decide +kernel
theorem dX13_years_1 : decode cX13_years 1 = .ok (.iload_n 1, 1) := by decide +kernel
theorem dX13_years_2 : decode cX13_years 2 = .ok (.iconst 1, 1) := by decide +kernel
theorem dX13_years_3 : decode cX13_years 3 = .ok (.bipush 100, 2) := by decide +kernel
theorem dX13_years_5 : decode cX13_years 5 = .ok (.invokevirtual 514, 3) := by decide +kernel
theorem dX13_years_8 : decode cX13_years 8 = .ok (.ifCond .ne 15, 3) := by decide +kernel
theorem dX13_years_11 : decode cX13_years 11 = .ok (.aload_n 0, 1) := by decide +kernel
theorem dX13_years_12 : decode cX13_years 12 = .ok (.getfield 17, 3) := by decide +kernel
theorem dX13_years_15 : decode cX13_years 15 = .ok (.iconst 3, 1) := by decide +kernel
theorem dX13_years_16 : decode cX13_years 16 = .ok (.dup2, 1) := by decide +kernel
theorem dX13_years_17 : decode cX13_years 17 = .ok (.iaload, 1) := by decide +kernel
theorem dX13_years_18 : decode cX13_years 18 = .ok (.iconst 1, 1) := by decide +kernel
theorem dX13_years_19 : decode cX13_years 19 = .ok (.iadd, 1) := by decide +kernel
theorem dX13_years_20 : decode cX13_years 20 = .ok (.iastore, 1) := by decide +kernel
theorem dX13_years_21 : decode cX13_years 21 = .ok (.iconst (-1), 1) := by decide +kernel
theorem dX13_years_22 : decode cX13_years 22 = .ok (.ireturn, 1) := by decide +kernel
theorem dX13_years_23 : decode cX13_years 23 = .ok (.aload_n 0, 1) := by decide +kernel
theorem dX13_years_24 : decode cX13_years 24 = .ok (.invokevirtual 547, 3) := by decide +kernel
theorem dX13_years_27 : decode cX13_years 27 = .ok (.aload_n 0, 1) := by decide +kernel
theorem dX13_years_28 : decode cX13_years 28 = .ok (.iconst 0, 1) := by decide +kernel
theorem dX13_years_29 : decode cX13_years 29 = .ok (.putfield 459, 3) := by decide +kernel
theorem dX13_years_32 : decode cX13_years 32 = .ok (.aload_n 0, 1) := by decide +kernel
theorem dX13_years_33 : decode cX13_years 33 = .ok (.iload_n 1, 1) := by decide +kernel
theorem dX13_years_34 : decode cX13_years 34 = .ok (.invokevirtual 522, 3) := by decide +kernel
theorem dX13_years_37 : decode cX13_years 37 = .ok (.aload_n 0, 1) := by decide +kernel
theorem dX13_years_38 : decode cX13_years 38 = .ok (.getfield 459, 3) := by decide +kernel
theorem dX13_years_41 : decode cX13_years 41 = .ok (.ireturn, 1) := by decide +kernel
theorem bX13_years_0 {d : Nat}  {v1 : Int32} {I : Ii} {J : Jj} {K : KI}
    (h : CalI wM d mX13_isAhead [.ref (0), .int (v1), .int (1), .int (100)] I J (fun x3 I1 J2 => (((¬ x3 = 0) → (CalV wM d mX13_keeps [.ref (0)] I1 J2 (fun I5 J6 => (CalV wM d mX13_yearsGo [.ref (0), .int (v1)] (u2 I5 0 59 0) J6 (fun I8 J9 => (K (I8 0 59) I8 J9)))))) ∧ ((x3 = 0) → (K ((-1)) (u2 I1 2 (3 : Int32).toNatClampNeg ((I1 2 (3 : Int32).toNatClampNeg) + 1)) J2))))) :
    GoI wM (d + 1) mX13_years 0 [(0, .ref (0)), (1, .int (v1))] [] I J K :=
  (g_aload_n dX13_years_0 0 0 rfl rfl (g_iload_n dX13_years_1 1 1 rfl rfl (g_iconst dX13_years_2 kc_1 (g_bipush dX13_years_3 kb_100 (g_callvI dX13_years_5 ml_X13_514 md_X13_isAhead mv_X13_isAhead obM_0 rfl rfl rfl (Nat.le_of_ble_eq_true rfl) (CalI.mono h (fun x3 I1 J2 h14 => (g_if_ne dX13_years_8 rfl (fun q4 => (g_aload_n dX13_years_23 0 0 rfl rfl (g_callvV dX13_years_24 ml_X13_547 md_X13_keeps mv_X13_keeps obM_0 rfl rfl rfl (Nat.le_of_ble_eq_true rfl) (CalV.mono (h14.1 q4) (fun I5 J6 h11 => (g_aload_n dX13_years_27 0 0 rfl rfl (g_iconst dX13_years_28 kc_0 (g_putI dX13_years_29 fl_X13_459 rfl rfl obM_0 (g_aload_n dX13_years_32 0 0 rfl rfl (g_iload_n dX13_years_33 1 1 rfl rfl (g_callvV dX13_years_34 ml_X13_522 md_X13_yearsGo mv_X13_yearsGo obM_0 rfl rfl rfl (Nat.le_of_ble_eq_true rfl) (CalV.mono h11 (fun I8 J9 h10 => (g_aload_n dX13_years_37 0 0 rfl rfl (g_getI dX13_years_38 fl_X13_459 rfl obM_0 (g_ireturn dX13_years_41 rfl ⟨_, rfl, h10⟩)))))))))))))))) (fun q4 => (g_aload_n dX13_years_11 0 0 rfl rfl (g_getP dX13_years_12 fl_X13_17 rfl obM_0 rfl (g_iconst dX13_years_15 kc_3 (g_dup2_11 dX13_years_16 rfl rfl (g_iald dX13_years_17 arM_2 (by unfold vp_in; decide) (g_iconst dX13_years_18 kc_1 (g_iadd dX13_years_19 (g_iast dX13_years_20 arM_2 (by unfold vp_in; decide) (g_iconst dX13_years_21 kc_n1 (g_ireturn dX13_years_22 rfl ⟨_, rfl, (h14.2 q4)⟩)))))))))))))))))))
theorem dX13_seed_0 : decode cX13_seed 0 = .ok (.iload_n 1, 1) := by decide +kernel
theorem dX13_seed_1 : decode cX13_seed 1 = .ok (.ifCond .ge 15, 3) := by decide +kernel
theorem dX13_seed_4 : decode cX13_seed 4 = .ok (.aload_n 0, 1) := by decide +kernel
theorem dX13_seed_5 : decode cX13_seed 5 = .ok (.getfield 17, 3) := by decide +kernel
theorem dX13_seed_8 : decode cX13_seed 8 = .ok (.iconst 5, 1) := by decide +kernel
theorem dX13_seed_9 : decode cX13_seed 9 = .ok (.dup2, 1) := by decide +kernel
theorem dX13_seed_10 : decode cX13_seed 10 = .ok (.iaload, 1) := by decide +kernel
theorem dX13_seed_11 : decode cX13_seed 11 = .ok (.iconst 1, 1) := by decide +kernel
theorem dX13_seed_12 : decode cX13_seed 12 = .ok (.iadd, 1) := by decide +kernel
theorem dX13_seed_13 : decode cX13_seed 13 = .ok (.iastore, 1) := by decide +kernel
theorem dX13_seed_14 : decode cX13_seed 14 = .ok (.iconst 0, 1) := by decide +kernel
theorem dX13_seed_15 : decode cX13_seed 15 = .ok (.ireturn, 1) := by decide +kernel
theorem dX13_seed_16 : decode cX13_seed 16 = .ok (.aload_n 0, 1) := by decide +kernel
theorem dX13_seed_17 : decode cX13_seed 17 = .ok (.iload_n 1, 1) := by decide +kernel
theorem dX13_seed_18 : decode cX13_seed 18 = .ok (.i2l, 1) := by decide +kernel
theorem dX13_seed_19 : decode cX13_seed 19 = .ok (.putfield 163, 3) := by decide +kernel
theorem dX13_seed_22 : decode cX13_seed 22 = .ok (.iconst 1, 1) := by decide +kernel
theorem dX13_seed_23 : decode cX13_seed 23 = .ok (.ireturn, 1) := by decide +kernel
theorem bX13_seed_0 {d : Nat}  {v1 : Int32} {I : Ii} {J : Jj} {K : KI}
    (h : ((0 ≤ v1) → (K (1) I (w2 J 0 67 v1.toInt64))) ∧ ((¬ 0 ≤ v1) → (K (0) (u2 I 2 (5 : Int32).toNatClampNeg ((I 2 (5 : Int32).toNatClampNeg) + 1)) J))) :
    GoI wM d mX13_seed 0 [(0, .ref (0)), (1, .int (v1))] [] I J K :=
  (g_iload_n dX13_seed_0 1 1 rfl rfl (g_if_ge dX13_seed_1 rfl (fun q1 => (g_aload_n dX13_seed_16 0 0 rfl rfl (g_iload_n dX13_seed_17 1 1 rfl rfl (g_i2l dX13_seed_18 (g_putJ dX13_seed_19 fl_X13_163 rfl rfl obM_0 (g_iconst dX13_seed_22 kc_1 (g_zreturn dX13_seed_23 rfl (narZ (by decide)) ⟨_, rfl, (h.1 q1)⟩))))))) (fun q1 => (g_aload_n dX13_seed_4 0 0 rfl rfl (g_getP dX13_seed_5 fl_X13_17 rfl obM_0 rfl (g_iconst dX13_seed_8 kc_5 (g_dup2_11 dX13_seed_9 rfl rfl (g_iald dX13_seed_10 arM_2 (by unfold vp_in; decide) (g_iconst dX13_seed_11 kc_1 (g_iadd dX13_seed_12 (g_iast dX13_seed_13 arM_2 (by unfold vp_in; decide) (g_iconst dX13_seed_14 kc_0 (g_zreturn dX13_seed_15 rfl (narZ (by decide)) ⟨_, rfl, (h.2 q1)⟩)))))))))))))
theorem dX13_chance_0 : decode cX13_chance 0 = .ok (.aload_n 0, 1) := by decide +kernel
theorem dX13_chance_1 : decode cX13_chance 1 = .ok (.iload_n 1, 1) := by decide +kernel
theorem dX13_chance_2 : decode cX13_chance 2 = .ok (.iconst 1, 1) := by decide +kernel
theorem dX13_chance_3 : decode cX13_chance 3 = .ok (.bipush 100, 2) := by decide +kernel
theorem dX13_chance_5 : decode cX13_chance 5 = .ok (.invokevirtual 514, 3) := by decide +kernel
theorem dX13_chance_8 : decode cX13_chance 8 = .ok (.ifCond .ne 15, 3) := by decide +kernel
theorem dX13_chance_11 : decode cX13_chance 11 = .ok (.aload_n 0, 1) := by decide +kernel
theorem dX13_chance_12 : decode cX13_chance 12 = .ok (.getfield 17, 3) := by decide +kernel
theorem dX13_chance_15 : decode cX13_chance 15 = .ok (.iconst 3, 1) := by decide +kernel
theorem dX13_chance_16 : decode cX13_chance 16 = .ok (.dup2, 1) := by decide +kernel
theorem dX13_chance_17 : decode cX13_chance 17 = .ok (.iaload, 1) := by decide +kernel
theorem dX13_chance_18 : decode cX13_chance 18 = .ok (.iconst 1, 1) := by decide +kernel
theorem dX13_chance_19 : decode cX13_chance 19 = .ok (.iadd, 1) := by decide +kernel
theorem dX13_chance_20 : decode cX13_chance 20 = .ok (.iastore, 1) := by decide +kernel
theorem dX13_chance_21 : decode cX13_chance 21 = .ok (.iconst (-1), 1) := by decide +kernel
theorem dX13_chance_22 : decode cX13_chance 22 = .ok (.ireturn, 1) := by decide +kernel
theorem dX13_chance_23 : decode cX13_chance 23 = .ok (.aload_n 0, 1) := by decide +kernel
theorem dX13_chance_24 : decode cX13_chance 24 = .ok (.invokevirtual 547, 3) := by decide +kernel
theorem dX13_chance_27 : decode cX13_chance 27 = .ok (.iconst 0, 1) := by decide +kernel
theorem dX13_chance_28 : decode cX13_chance 28 = .ok (.istore_n 2, 1) := by decide +kernel
theorem dX13_chance_29 : decode cX13_chance 29 = .ok (.iconst 0, 1) := by decide +kernel
theorem dX13_chance_30 : decode cX13_chance 30 = .ok (.istore_n 3, 1) := by decide +kernel
theorem dX13_chance_31 : decode cX13_chance 31 = .ok (.iload_n 3, 1) := by decide +kernel
theorem dX13_chance_32 : decode cX13_chance 32 = .ok (.iload_n 1, 1) := by decide +kernel
theorem dX13_chance_33 : decode cX13_chance 33 = .ok (.if_icmp .ge 68, 3) := by decide +kernel
theorem dX13_chance_36 : decode cX13_chance 36 = .ok (.iconst 0, 1) := by decide +kernel
theorem dX13_chance_37 : decode cX13_chance 37 = .ok (.istore 4, 2) := by decide +kernel
theorem dX13_chance_39 : decode cX13_chance 39 = .ok (.iconst 0, 1) := by decide +kernel
theorem dX13_chance_40 : decode cX13_chance 40 = .ok (.istore 5, 2) := by decide +kernel
theorem dX13_chance_42 : decode cX13_chance 42 = .ok (.iload 5, 2) := by decide +kernel
theorem dX13_chance_44 : decode cX13_chance 44 = .ok (.aload_n 0, 1) := by decide +kernel
theorem dX13_chance_45 : decode cX13_chance 45 = .ok (.invokevirtual 401, 3) := by decide +kernel
theorem dX13_chance_48 : decode cX13_chance 48 = .ok (.if_icmp .ge 33, 3) := by decide +kernel
theorem dX13_chance_51 : decode cX13_chance 51 = .ok (.aload_n 0, 1) := by decide +kernel
theorem dX13_chance_52 : decode cX13_chance 52 = .ok (.bipush 100, 2) := by decide +kernel
theorem dX13_chance_54 : decode cX13_chance 54 = .ok (.invokevirtual 558, 3) := by decide +kernel
theorem dX13_chance_57 : decode cX13_chance 57 = .ok (.aload_n 0, 1) := by decide +kernel
theorem dX13_chance_58 : decode cX13_chance 58 = .ok (.getfield 127, 3) := by decide +kernel
theorem dX13_chance_61 : decode cX13_chance 61 = .ok (.iconst 5, 1) := by decide +kernel
theorem dX13_chance_62 : decode cX13_chance 62 = .ok (.iaload, 1) := by decide +kernel
theorem dX13_chance_63 : decode cX13_chance 63 = .ok (.if_icmp .ge 12, 3) := by decide +kernel
theorem dX13_chance_66 : decode cX13_chance 66 = .ok (.iload 4, 2) := by decide +kernel
theorem dX13_chance_68 : decode cX13_chance 68 = .ok (.iconst 1, 1) := by decide +kernel
theorem dX13_chance_69 : decode cX13_chance 69 = .ok (.iload 5, 2) := by decide +kernel
theorem dX13_chance_71 : decode cX13_chance 71 = .ok (.ishl, 1) := by decide +kernel
theorem dX13_chance_72 : decode cX13_chance 72 = .ok (.ior, 1) := by decide +kernel
theorem dX13_chance_73 : decode cX13_chance 73 = .ok (.istore 4, 2) := by decide +kernel
theorem dX13_chance_75 : decode cX13_chance 75 = .ok (.iinc 5 1, 3) := by decide +kernel
theorem dX13_chance_78 : decode cX13_chance 78 = .ok (.goto (-36), 3) := by decide +kernel
theorem dX13_chance_81 : decode cX13_chance 81 = .ok (.iload_n 2, 1) := by decide +kernel
theorem dX13_chance_82 : decode cX13_chance 82 = .ok (.iload 4, 2) := by decide +kernel
theorem dX13_chance_84 : decode cX13_chance 84 = .ok (.invokestatic 483, 3) := by decide +kernel
theorem dX13_chance_87 : decode cX13_chance 87 = .ok (.iadd, 1) := by decide +kernel
theorem dX13_chance_88 : decode cX13_chance 88 = .ok (.istore_n 2, 1) := by decide +kernel
theorem dX13_chance_89 : decode cX13_chance 89 = .ok (.aload_n 0, 1) := by decide +kernel
theorem dX13_chance_90 : decode cX13_chance 90 = .ok (.iload 4, 2) := by decide +kernel
theorem dX13_chance_92 : decode cX13_chance 92 = .ok (.invokevirtual 477, 3) := by decide +kernel
theorem dX13_chance_95 : decode cX13_chance 95 = .ok (.iinc 3 1, 3) := by decide +kernel
theorem dX13_chance_98 : decode cX13_chance 98 = .ok (.goto (-67), 3) := by decide +kernel
theorem dX13_chance_101 : decode cX13_chance 101 = .ok (.iload_n 2, 1) := by decide +kernel
theorem dX13_chance_102 : decode cX13_chance 102 = .ok (.ireturn, 1) := by decide +kernel
theorem bX13_chance_0 {d : Nat}  {v1 : Int32} {I : Ii} {J : Jj} {K : KI}
    (h : CalI wM d mX13_isAhead [.ref (0), .int (v1), .int (1), .int (100)] I J (fun x3 I1 J2 => (((¬ x3 = 0) → (CalV wM d mX13_keeps [.ref (0)] I1 J2 (fun I5 J6 => (GoI wM (d + 1) mX13_chance 31 [(0, .ref (0)), (1, .int (v1)), (2, .int (0)), (3, .int (0))] [] I5 J6 K)))) ∧ ((x3 = 0) → (K ((-1)) (u2 I1 2 (3 : Int32).toNatClampNeg ((I1 2 (3 : Int32).toNatClampNeg) + 1)) J2))))) :
    GoI wM (d + 1) mX13_chance 0 [(0, .ref (0)), (1, .int (v1))] [] I J K :=
  (g_aload_n dX13_chance_0 0 0 rfl rfl (g_iload_n dX13_chance_1 1 1 rfl rfl (g_iconst dX13_chance_2 kc_1 (g_bipush dX13_chance_3 kb_100 (g_callvI dX13_chance_5 ml_X13_514 md_X13_isAhead mv_X13_isAhead obM_0 rfl rfl rfl (Nat.le_of_ble_eq_true rfl) (CalI.mono h (fun x3 I1 J2 h10 => (g_if_ne dX13_chance_8 rfl (fun q4 => (g_aload_n dX13_chance_23 0 0 rfl rfl (g_callvV dX13_chance_24 ml_X13_547 md_X13_keeps mv_X13_keeps obM_0 rfl rfl rfl (Nat.le_of_ble_eq_true rfl) (CalV.mono (h10.1 q4) (fun I5 J6 h7 => (g_iconst dX13_chance_27 kc_0 (g_istore_n dX13_chance_28 rfl (by decide) rfl (g_iconst dX13_chance_29 kc_0 (g_istore_n dX13_chance_30 rfl (by decide) rfl (g_sub [2, 3, 1, 0] rfl h7)))))))))) (fun q4 => (g_aload_n dX13_chance_11 0 0 rfl rfl (g_getP dX13_chance_12 fl_X13_17 rfl obM_0 rfl (g_iconst dX13_chance_15 kc_3 (g_dup2_11 dX13_chance_16 rfl rfl (g_iald dX13_chance_17 arM_2 (by unfold vp_in; decide) (g_iconst dX13_chance_18 kc_1 (g_iadd dX13_chance_19 (g_iast dX13_chance_20 arM_2 (by unfold vp_in; decide) (g_iconst dX13_chance_21 kc_n1 (g_ireturn dX13_chance_22 rfl ⟨_, rfl, (h10.2 q4)⟩)))))))))))))))))))
theorem bX13_chance_31 {d : Nat}  {v1 : Int32} {v2 : Int32} {v3 : Int32} {I : Ii} {J : Jj} {K : KI}
    (h : ((v1 ≤ v3) → (K (v2) I J)) ∧ ((¬ v1 ≤ v3) → (GoI wM (d + 1) mX13_chance 42 [(0, .ref (0)), (1, .int (v1)), (2, .int (v2)), (3, .int (v3)), (4, .int (0)), (5, .int (0))] [] I J K))) :
    GoI wM (d + 1) mX13_chance 31 [(0, .ref (0)), (1, .int (v1)), (2, .int (v2)), (3, .int (v3))] [] I J K :=
  (g_iload_n dX13_chance_31 3 3 rfl rfl (g_iload_n dX13_chance_32 1 1 rfl rfl (g_icmp_ge dX13_chance_33 rfl (fun q1 => (g_iload_n dX13_chance_101 2 2 rfl rfl (g_ireturn dX13_chance_102 rfl ⟨_, rfl, (h.1 q1)⟩))) (fun q1 => (g_iconst dX13_chance_36 kc_0 (g_istore dX13_chance_37 (by decide) rfl (g_iconst dX13_chance_39 kc_0 (g_istore dX13_chance_40 (by decide) rfl (g_sub [2, 3, 4, 5, 1, 0] rfl (h.2 q1))))))))))
theorem bX13_chance_42 {d : Nat}  {v1 : Int32} {v2 : Int32} {v3 : Int32} {v4 : Int32} {v5 : Int32} {I : Ii} {J : Jj} {K : KI}
    (h : CalI wM d mX13_personMany [.ref (0)] I J (fun x3 I1 J2 => (((x3 ≤ v5) → (CalI wM d mX13_bits [.int (v4)] I1 J2 (fun x7 I5 J6 => (CalV wM d mX13_yearGoes [.ref (0), .int (v4)] I5 J6 (fun I8 J9 => (GoI wM (d + 1) mX13_chance 31 [(0, .ref (0)), (1, .int (v1)), (2, .int (v2 + x7)), (3, .int (v3 + 1))] [] I8 J9 K)))))) ∧ ((¬ x3 ≤ v5) → (CalI wM d mX13_drawOf [.ref (0), .int (100)] I1 J2 (fun x14 I12 J13 => ((((I12 38 (5 : Int32).toNatClampNeg) ≤ x14) → (GoI wM (d + 1) mX13_chance 42 [(0, .ref (0)), (1, .int (v1)), (2, .int (v2)), (3, .int (v3)), (4, .int (v4)), (5, .int (v5 + 1))] [] I12 J13 K)) ∧ ((¬ (I12 38 (5 : Int32).toNatClampNeg) ≤ x14) → (GoI wM (d + 1) mX13_chance 42 [(0, .ref (0)), (1, .int (v1)), (2, .int (v2)), (3, .int (v3)), (4, .int (v4 ||| (1 <<< (v5 &&& 31)))), (5, .int (v5 + 1))] [] I12 J13 K))))))))) :
    GoI wM (d + 1) mX13_chance 42 [(0, .ref (0)), (1, .int (v1)), (2, .int (v2)), (3, .int (v3)), (4, .int (v4)), (5, .int (v5))] [] I J K :=
  (g_iload dX13_chance_42 5 rfl (g_aload_n dX13_chance_44 0 0 rfl rfl (g_callvI dX13_chance_45 ml_X13_401 md_X13_personMany mv_X13_personMany obM_0 rfl rfl rfl (Nat.le_of_ble_eq_true rfl) (CalI.mono h (fun x3 I1 J2 h18 => (g_icmp_ge dX13_chance_48 rfl (fun q4 => (g_iload_n dX13_chance_81 2 2 rfl rfl (g_iload dX13_chance_82 4 rfl (g_callsI dX13_chance_84 ml_X13_483 md_X13_bits ms_X13_bits rfl rfl (Nat.le_of_ble_eq_true rfl) (CalI.mono (h18.1 q4) (fun x7 I5 J6 h11 => (g_iadd dX13_chance_87 (g_istore_n dX13_chance_88 rfl (by decide) rfl (g_aload_n dX13_chance_89 1 0 rfl rfl (g_iload dX13_chance_90 4 rfl (g_callvV dX13_chance_92 ml_X13_477 md_X13_yearGoes mv_X13_yearGoes obM_0 rfl rfl rfl (Nat.le_of_ble_eq_true rfl) (CalV.mono h11 (fun I8 J9 h10 => (g_iinc dX13_chance_95 3 rfl rfl (by decide) rfl (g_goto dX13_chance_98 rfl (g_sub [2, 3, 1, 0] rfl h10)))))))))))))))) (fun q4 => (g_aload_n dX13_chance_51 0 0 rfl rfl (g_bipush dX13_chance_52 kb_100 (g_callvI dX13_chance_54 ml_X13_558 md_X13_drawOf mv_X13_drawOf obM_0 rfl rfl rfl (Nat.le_of_ble_eq_true rfl) (CalI.mono (h18.2 q4) (fun x14 I12 J13 h17 => (g_aload_n dX13_chance_57 0 0 rfl rfl (g_getP dX13_chance_58 fl_X13_127 rfl obM_0 rfl (g_iconst dX13_chance_61 kc_5 (g_iald dX13_chance_62 arM_38 (by unfold vp_in; decide) (g_icmp_ge dX13_chance_63 rfl (fun q16 => (g_iinc dX13_chance_75 5 rfl rfl (by decide) rfl (g_goto dX13_chance_78 rfl (g_sub [1, 2, 3, 4, 5, 0] rfl (h17.1 q16))))) (fun q16 => (g_iload dX13_chance_66 4 rfl (g_iconst dX13_chance_68 kc_1 (g_iload dX13_chance_69 5 rfl (g_ishl dX13_chance_71 (g_ior dX13_chance_72 (g_istore dX13_chance_73 (by decide) rfl (g_iinc dX13_chance_75 5 rfl rfl (by decide) rfl (g_goto dX13_chance_78 rfl (g_sub [2, 3, 4, 5, 1, 0] rfl (h17.2 q16))))))))))))))))))))))))))))
theorem dX13_drawOf_0 : decode cX13_drawOf 0 = .ok (.aload_n 0, 1) := by decide +kernel
theorem dX13_drawOf_1 : decode cX13_drawOf 1 = .ok (.ldc2_w 550, 3) := by decide +kernel
theorem dX13_drawOf_4 : decode cX13_drawOf 4 = .ok (.aload_n 0, 1) := by decide +kernel
theorem dX13_drawOf_5 : decode cX13_drawOf 5 = .ok (.getfield 163, 3) := by decide +kernel
theorem dX13_drawOf_8 : decode cX13_drawOf 8 = .ok (.lmul, 1) := by decide +kernel
theorem dX13_drawOf_9 : decode cX13_drawOf 9 = .ok (.ldc2_w 552, 3) := by decide +kernel
theorem dX13_drawOf_12 : decode cX13_drawOf 12 = .ok (.ladd, 1) := by decide +kernel
theorem dX13_drawOf_13 : decode cX13_drawOf 13 = .ok (.ldc2_w 554, 3) := by decide +kernel
theorem dX13_drawOf_16 : decode cX13_drawOf 16 = .ok (.lrem, 1) := by decide +kernel
theorem dX13_drawOf_17 : decode cX13_drawOf 17 = .ok (.putfield 163, 3) := by decide +kernel
theorem dX13_drawOf_20 : decode cX13_drawOf 20 = .ok (.aload_n 0, 1) := by decide +kernel
theorem dX13_drawOf_21 : decode cX13_drawOf 21 = .ok (.getfield 163, 3) := by decide +kernel
theorem dX13_drawOf_24 : decode cX13_drawOf 24 = .ok (.ldc2_w 556, 3) := by decide +kernel
theorem dX13_drawOf_27 : decode cX13_drawOf 27 = .ok (.ldiv, 1) := by decide +kernel
theorem dX13_drawOf_28 : decode cX13_drawOf 28 = .ok (.iload_n 1, 1) := by decide +kernel
theorem dX13_drawOf_29 : decode cX13_drawOf 29 = .ok (.i2l, 1) := by decide +kernel
theorem dX13_drawOf_30 : decode cX13_drawOf 30 = .ok (.lrem, 1) := by decide +kernel
theorem dX13_drawOf_31 : decode cX13_drawOf 31 = .ok (.l2i, 1) := by decide +kernel
theorem dX13_drawOf_32 : decode cX13_drawOf 32 = .ok (.ireturn, 1) := by decide +kernel
theorem bX13_drawOf_0 {d : Nat}  {v1 : Int32} {I : Ii} {J : Jj} {K : KI}
    (h : ∀ J1 : Jj, J1 = w2 J 0 67 (((1103515245 * (J 0 67)) + 12345) - ((1103515245 * (J 0 67)) + 12345) / 2147483648 * 2147483648) → ((¬ v1.toInt64 = 0) ∧ (K ((((J1 0 67) / 64) - ((J1 0 67) / 64) / v1.toInt64 * v1.toInt64).toInt32) I J1))) :
    GoI wM d mX13_drawOf 0 [(0, .ref (0)), (1, .int (v1))] [] I J K :=
  (g_aload_n dX13_drawOf_0 0 0 rfl rfl (g_ldc2 dX13_drawOf_1 kl_X13_550 (g_aload_n dX13_drawOf_4 0 0 rfl rfl (g_getJ dX13_drawOf_5 fl_X13_163 rfl obM_0 (g_lmul dX13_drawOf_8 (g_ldc2 dX13_drawOf_9 kl_X13_552 (g_ladd dX13_drawOf_12 (g_ldc2 dX13_drawOf_13 kl_X13_554 (g_lrem dX13_drawOf_16 (by decide) (g_putJ dX13_drawOf_17 fl_X13_163 rfl rfl obM_0 (g_aload_n dX13_drawOf_20 0 0 rfl rfl (g_getJ dX13_drawOf_21 fl_X13_163 rfl obM_0 (g_ldc2 dX13_drawOf_24 kl_X13_556 (g_ldiv dX13_drawOf_27 (by decide) (g_iload_n dX13_drawOf_28 1 1 rfl rfl (g_i2l dX13_drawOf_29 (g_lrem dX13_drawOf_30 (h _ rfl).1 (g_l2i dX13_drawOf_31 (g_ireturn dX13_drawOf_32 rfl ⟨_, rfl, (h _ rfl).2⟩)))))))))))))))))))
theorem dX13_ask_0 : decode cX13_ask 0 = .ok (.aload_n 0, 1) := by decide +kernel
theorem dX13_ask_1 : decode cX13_ask 1 = .ok (.iload_n 1, 1) := by decide +kernel
theorem dX13_ask_2 : decode cX13_ask 2 = .ok (.invokevirtual 504, 3) := by decide +kernel
theorem dX13_ask_5 : decode cX13_ask 5 = .ok (.ifCond .ne 12, 3) := by decide +kernel
theorem dX13_ask_8 : decode cX13_ask 8 = .ok (.aload_n 0, 1) := by decide +kernel
theorem dX13_ask_9 : decode cX13_ask 9 = .ok (.iconst 0, 1) := by decide +kernel
theorem dX13_ask_10 : decode cX13_ask 10 = .ok (.putfield 254, 3) := by decide +kernel
theorem dX13_ask_13 : decode cX13_ask 13 = .ok (.ldc2_w 510, 3) := by decide +kernel
theorem dX13_ask_16 : decode cX13_ask 16 = .ok (.lreturn, 1) := by decide +kernel
theorem dX13_ask_17 : decode cX13_ask 17 = .ok (.aload_n 0, 1) := by decide +kernel
theorem dX13_ask_18 : decode cX13_ask 18 = .ok (.aload_n 0, 1) := by decide +kernel
theorem dX13_ask_19 : decode cX13_ask 19 = .ok (.getfield 254, 3) := by decide +kernel
theorem dX13_ask_22 : decode cX13_ask 22 = .ok (.putfield 266, 3) := by decide +kernel
theorem dX13_ask_25 : decode cX13_ask 25 = .ok (.aload_n 0, 1) := by decide +kernel
theorem dX13_ask_26 : decode cX13_ask 26 = .ok (.iconst 0, 1) := by decide +kernel
theorem dX13_ask_27 : decode cX13_ask 27 = .ok (.putfield 254, 3) := by decide +kernel
theorem dX13_ask_30 : decode cX13_ask 30 = .ok (.aload_n 0, 1) := by decide +kernel
theorem dX13_ask_31 : decode cX13_ask 31 = .ok (.iconst 0, 1) := by decide +kernel
theorem dX13_ask_32 : decode cX13_ask 32 = .ok (.putfield 263, 3) := by decide +kernel
theorem dX13_ask_35 : decode cX13_ask 35 = .ok (.aload_n 0, 1) := by decide +kernel
theorem dX13_ask_36 : decode cX13_ask 36 = .ok (.iconst (-1), 1) := by decide +kernel
theorem dX13_ask_37 : decode cX13_ask 37 = .ok (.putfield 277, 3) := by decide +kernel
theorem dX13_ask_40 : decode cX13_ask 40 = .ok (.aload_n 0, 1) := by decide +kernel
theorem dX13_ask_41 : decode cX13_ask 41 = .ok (.iconst 0, 1) := by decide +kernel
theorem dX13_ask_42 : decode cX13_ask 42 = .ok (.putfield 257, 3) := by decide +kernel
theorem dX13_ask_45 : decode cX13_ask 45 = .ok (.aload_n 0, 1) := by decide +kernel
theorem dX13_ask_46 : decode cX13_ask 46 = .ok (.iconst (-1), 1) := by decide +kernel
theorem dX13_ask_47 : decode cX13_ask 47 = .ok (.putfield 260, 3) := by decide +kernel
theorem dX13_ask_50 : decode cX13_ask 50 = .ok (.aload_n 0, 1) := by decide +kernel
theorem dX13_ask_51 : decode cX13_ask 51 = .ok (.iconst 2, 1) := by decide +kernel
theorem dX13_ask_52 : decode cX13_ask 52 = .ok (.putfield 312, 3) := by decide +kernel
theorem dX13_ask_55 : decode cX13_ask 55 = .ok (.aload_n 0, 1) := by decide +kernel
theorem dX13_ask_56 : decode cX13_ask 56 = .ok (.iconst 0, 1) := by decide +kernel
theorem dX13_ask_57 : decode cX13_ask 57 = .ok (.putfield 342, 3) := by decide +kernel
theorem dX13_ask_60 : decode cX13_ask 60 = .ok (.aload_n 0, 1) := by decide +kernel
theorem dX13_ask_61 : decode cX13_ask 61 = .ok (.iconst 0, 1) := by decide +kernel
theorem dX13_ask_62 : decode cX13_ask 62 = .ok (.putfield 345, 3) := by decide +kernel
theorem dX13_ask_65 : decode cX13_ask 65 = .ok (.aload_n 0, 1) := by decide +kernel
theorem dX13_ask_66 : decode cX13_ask 66 = .ok (.iconst 0, 1) := by decide +kernel
theorem dX13_ask_67 : decode cX13_ask 67 = .ok (.putfield 348, 3) := by decide +kernel
theorem dX13_ask_70 : decode cX13_ask 70 = .ok (.aload_n 0, 1) := by decide +kernel
theorem dX13_ask_71 : decode cX13_ask 71 = .ok (.iconst 0, 1) := by decide +kernel
theorem dX13_ask_72 : decode cX13_ask 72 = .ok (.putfield 351, 3) := by decide +kernel
theorem dX13_ask_75 : decode cX13_ask 75 = .ok (.aload_n 0, 1) := by decide +kernel
theorem dX13_ask_76 : decode cX13_ask 76 = .ok (.invokevirtual 642, 3) := by decide +kernel
theorem dX13_ask_79 : decode cX13_ask 79 = .ok (.istore_n 2, 1) := by decide +kernel
theorem dX13_ask_80 : decode cX13_ask 80 = .ok (.aload_n 0, 1) := by decide +kernel
theorem dX13_ask_81 : decode cX13_ask 81 = .ok (.getfield 257, 3) := by decide +kernel
theorem dX13_ask_84 : decode cX13_ask 84 = .ok (.ifCond .ne 15, 3) := by decide +kernel
theorem dX13_ask_87 : decode cX13_ask 87 = .ok (.iload_n 2, 1) := by decide +kernel
theorem dX13_ask_88 : decode cX13_ask 88 = .ok (.iconst 3, 1) := by decide +kernel
theorem dX13_ask_89 : decode cX13_ask 89 = .ok (.if_icmp .ge 10, 3) := by decide +kernel
theorem dX13_ask_92 : decode cX13_ask 92 = .ok (.aload_n 0, 1) := by decide +kernel
theorem dX13_ask_93 : decode cX13_ask 93 = .ok (.invokevirtual 354, 3) := by decide +kernel
theorem dX13_ask_96 : decode cX13_ask 96 = .ok (.goto 14, 3) := by decide +kernel
theorem dX13_ask_99 : decode cX13_ask 99 = .ok (.aload_n 0, 1) := by decide +kernel
theorem dX13_ask_100 : decode cX13_ask 100 = .ok (.getfield 257, 3) := by decide +kernel
theorem dX13_ask_103 : decode cX13_ask 103 = .ok (.ifCond .ne 7, 3) := by decide +kernel
theorem dX13_ask_106 : decode cX13_ask 106 = .ok (.aload_n 0, 1) := by decide +kernel
theorem dX13_ask_107 : decode cX13_ask 107 = .ok (.invokevirtual 603, 3) := by decide +kernel
theorem dX13_ask_110 : decode cX13_ask 110 = .ok (.aload_n 0, 1) := by decide +kernel
theorem dX13_ask_111 : decode cX13_ask 111 = .ok (.getfield 257, 3) := by decide +kernel
theorem dX13_ask_114 : decode cX13_ask 114 = .ok (.ifCond .ne 20, 3) := by decide +kernel
theorem dX13_ask_117 : decode cX13_ask 117 = .ok (.aload_n 0, 1) := by decide +kernel
theorem dX13_ask_118 : decode cX13_ask 118 = .ok (.invokevirtual 269, 3) := by decide +kernel
theorem dX13_ask_121 : decode cX13_ask 121 = .ok (.iconst (-1), 1) := by decide +kernel
theorem dX13_ask_122 : decode cX13_ask 122 = .ok (.if_icmp .eq 12, 3) := by decide +kernel
theorem dX13_ask_125 : decode cX13_ask 125 = .ok (.aload_n 0, 1) := by decide +kernel
theorem dX13_ask_126 : decode cX13_ask 126 = .ok (.iconst 1, 1) := by decide +kernel
theorem dX13_ask_127 : decode cX13_ask 127 = .ok (.aload_n 0, 1) := by decide +kernel
theorem dX13_ask_128 : decode cX13_ask 128 = .ok (.getfield 263, 3) := by decide +kernel
theorem dX13_ask_131 : decode cX13_ask 131 = .ok (.invokevirtual 287, 3) := by decide +kernel
theorem dX13_ask_134 : decode cX13_ask 134 = .ok (.aload_n 0, 1) := by decide +kernel
theorem dX13_ask_135 : decode cX13_ask 135 = .ok (.aload_n 0, 1) := by decide +kernel
theorem dX13_ask_136 : decode cX13_ask 136 = .ok (.getfield 257, 3) := by decide +kernel
theorem dX13_ask_139 : decode cX13_ask 139 = .ok (.putfield 386, 3) := by decide +kernel
theorem dX13_ask_142 : decode cX13_ask 142 = .ok (.aload_n 0, 1) := by decide +kernel
theorem dX13_ask_143 : decode cX13_ask 143 = .ok (.aload_n 0, 1) := by decide +kernel
theorem dX13_ask_144 : decode cX13_ask 144 = .ok (.getfield 260, 3) := by decide +kernel
theorem dX13_ask_147 : decode cX13_ask 147 = .ok (.putfield 13, 3) := by decide +kernel
theorem dX13_ask_150 : decode cX13_ask 150 = .ok (.aload_n 0, 1) := by decide +kernel
theorem dX13_ask_151 : decode cX13_ask 151 = .ok (.getfield 257, 3) := by decide +kernel
theorem dX13_ask_154 : decode cX13_ask 154 = .ok (.ifCond .eq 7, 3) := by decide +kernel
theorem dX13_ask_157 : decode cX13_ask 157 = .ok (.ldc2_w 510, 3) := by decide +kernel
theorem dX13_ask_160 : decode cX13_ask 160 = .ok (.lreturn, 1) := by decide +kernel
theorem dX13_ask_161 : decode cX13_ask 161 = .ok (.aload_n 0, 1) := by decide +kernel
theorem dX13_ask_162 : decode cX13_ask 162 = .ok (.iload_n 2, 1) := by decide +kernel
theorem dX13_ask_163 : decode cX13_ask 163 = .ok (.iconst 2, 1) := by decide +kernel
theorem dX13_ask_164 : decode cX13_ask 164 = .ok (.if_icmp .ge 9, 3) := by decide +kernel
theorem dX13_ask_167 : decode cX13_ask 167 = .ok (.ldc2_w 637, 3) := by decide +kernel
theorem dX13_ask_170 : decode cX13_ask 170 = .ok (.goto 4, 3) := by decide +kernel
theorem dX13_ask_173 : decode cX13_ask 173 = .ok (.lconst 0, 1) := by decide +kernel
theorem dX13_ask_174 : decode cX13_ask 174 = .ok (.putfield 634, 3) := by decide +kernel
theorem dX13_ask_177 : decode cX13_ask 177 = .ok (.aload_n 0, 1) := by decide +kernel
theorem dX13_ask_178 : decode cX13_ask 178 = .ok (.iconst 1, 1) := by decide +kernel
theorem dX13_ask_179 : decode cX13_ask 179 = .ok (.putfield 639, 3) := by decide +kernel
theorem dX13_ask_182 : decode cX13_ask 182 = .ok (.aload_n 0, 1) := by decide +kernel
theorem dX13_ask_183 : decode cX13_ask 183 = .ok (.iload_n 1, 1) := by decide +kernel
theorem dX13_ask_184 : decode cX13_ask 184 = .ok (.putfield 413, 3) := by decide +kernel
theorem dX13_ask_187 : decode cX13_ask 187 = .ok (.iconst 0, 1) := by decide +kernel
theorem dX13_ask_188 : decode cX13_ask 188 = .ok (.istore_n 3, 1) := by decide +kernel
theorem dX13_ask_189 : decode cX13_ask 189 = .ok (.iload_n 3, 1) := by decide +kernel
theorem dX13_ask_190 : decode cX13_ask 190 = .ok (.aload_n 0, 1) := by decide +kernel
theorem dX13_ask_191 : decode cX13_ask 191 = .ok (.invokevirtual 398, 3) := by decide +kernel
theorem dX13_ask_194 : decode cX13_ask 194 = .ok (.if_icmp .ge 20, 3) := by decide +kernel
theorem dX13_ask_197 : decode cX13_ask 197 = .ok (.aload_n 0, 1) := by decide +kernel
theorem dX13_ask_198 : decode cX13_ask 198 = .ok (.iload_n 2, 1) := by decide +kernel
theorem dX13_ask_199 : decode cX13_ask 199 = .ok (.aload_n 0, 1) := by decide +kernel
theorem dX13_ask_200 : decode cX13_ask 200 = .ok (.iload_n 3, 1) := by decide +kernel
theorem dX13_ask_201 : decode cX13_ask 201 = .ok (.invokevirtual 645, 3) := by decide +kernel
theorem dX13_ask_204 : decode cX13_ask 204 = .ok (.iload_n 3, 1) := by decide +kernel
theorem dX13_ask_205 : decode cX13_ask 205 = .ok (.invokevirtual 649, 3) := by decide +kernel
theorem dX13_ask_208 : decode cX13_ask 208 = .ok (.iinc 3 1, 3) := by decide +kernel
theorem dX13_ask_211 : decode cX13_ask 211 = .ok (.goto (-22), 3) := by decide +kernel
theorem dX13_ask_214 : decode cX13_ask 214 = .ok (.aload_n 0, 1) := by decide +kernel
theorem dX13_ask_215 : decode cX13_ask 215 = .ok (.getfield 634, 3) := by decide +kernel
theorem dX13_ask_218 : decode cX13_ask 218 = .ok (.lreturn, 1) := by decide +kernel
theorem bX13_ask_0 {d : Nat}  {v1 : Int32} {I : Ii} {J : Jj} {K : KL}
    (h : CalI wM d mX13_isPerson [.ref (0), .int (v1)] I J (fun x3 I1 J2 => (((¬ x3 = 0) → (∀ I5 : Ii, I5 = u2 I1 0 3 (I1 0 1) → (∀ I6 : Ii, I6 = u2 I5 0 1 0 → (∀ I7 : Ii, I7 = u2 I6 0 2 0 → (∀ I8 : Ii, I8 = u2 I7 0 4 ((-1)) → (∀ I9 : Ii, I9 = u2 I8 0 5 0 → (∀ I10 : Ii, I10 = u2 I9 0 6 ((-1)) → (CalI wM d mX13_qKind [.ref (0)] (u2 (u2 (u2 (u2 (u2 I10 0 52 2) 0 94 0) 0 96 0) 0 97 0) 0 98 0) J2 (fun x18 I16 J17 => (((¬ (I16 0 5) = 0) → (∀ I20 : Ii, I20 = u2 I16 0 7 (I16 0 5) → (∀ I21 : Ii, I21 = u2 I20 0 8 (I20 0 6) → ((((I21 0 5) = 0) → (((2 ≤ x18) → (GoL wM (d + 1) mX13_ask 189 [(0, .ref (0)), (2, .int (x18)), (3, .int (0))] [] (u2 (u2 I21 0 102 1) 0 55 v1) (w2 J17 0 101 0) K)) ∧ ((¬ 2 ≤ x18) → (GoL wM (d + 1) mX13_ask 189 [(0, .ref (0)), (2, .int (x18)), (3, .int (0))] [] (u2 (u2 I21 0 102 1) 0 55 v1) (w2 J17 0 101 ((-1))) K)))) ∧ ((¬ (I21 0 5) = 0) → (K ((-1000000000000000)) I21 J17)))))) ∧ (((I16 0 5) = 0) → (((3 ≤ x18) → (CalV wM d mX13_qSums [.ref (0)] I16 J17 (fun I31 J32 => (((¬ (I31 0 5) = 0) → (∀ I34 : Ii, I34 = u2 I31 0 7 (I31 0 5) → (∀ I35 : Ii, I35 = u2 I34 0 8 (I34 0 6) → ((((I35 0 5) = 0) → (((2 ≤ x18) → (GoL wM (d + 1) mX13_ask 189 [(0, .ref (0)), (2, .int (x18)), (3, .int (0))] [] (u2 (u2 I35 0 102 1) 0 55 v1) (w2 J32 0 101 0) K)) ∧ ((¬ 2 ≤ x18) → (GoL wM (d + 1) mX13_ask 189 [(0, .ref (0)), (2, .int (x18)), (3, .int (0))] [] (u2 (u2 I35 0 102 1) 0 55 v1) (w2 J32 0 101 ((-1))) K)))) ∧ ((¬ (I35 0 5) = 0) → (K ((-1000000000000000)) I35 J32)))))) ∧ (((I31 0 5) = 0) → (CalI wM d mX13_look [.ref (0)] I31 J32 (fun x46 I44 J45 => (((x46 = ((-1))) → (∀ I48 : Ii, I48 = u2 I44 0 7 (I44 0 5) → (∀ I49 : Ii, I49 = u2 I48 0 8 (I48 0 6) → ((((I49 0 5) = 0) → (((2 ≤ x18) → (GoL wM (d + 1) mX13_ask 189 [(0, .ref (0)), (2, .int (x18)), (3, .int (0))] [] (u2 (u2 I49 0 102 1) 0 55 v1) (w2 J45 0 101 0) K)) ∧ ((¬ 2 ≤ x18) → (GoL wM (d + 1) mX13_ask 189 [(0, .ref (0)), (2, .int (x18)), (3, .int (0))] [] (u2 (u2 I49 0 102 1) 0 55 v1) (w2 J45 0 101 ((-1))) K)))) ∧ ((¬ (I49 0 5) = 0) → (K ((-1000000000000000)) I49 J45)))))) ∧ ((¬ x46 = ((-1))) → (CalV wM d mX13_fail [.ref (0), .int (1), .int (I44 0 2)] I44 J45 (fun I58 J59 => (∀ I60 : Ii, I60 = u2 I58 0 7 (I58 0 5) → (∀ I61 : Ii, I61 = u2 I60 0 8 (I60 0 6) → ((((I61 0 5) = 0) → (((2 ≤ x18) → (GoL wM (d + 1) mX13_ask 189 [(0, .ref (0)), (2, .int (x18)), (3, .int (0))] [] (u2 (u2 I61 0 102 1) 0 55 v1) (w2 J59 0 101 0) K)) ∧ ((¬ 2 ≤ x18) → (GoL wM (d + 1) mX13_ask 189 [(0, .ref (0)), (2, .int (x18)), (3, .int (0))] [] (u2 (u2 I61 0 102 1) 0 55 v1) (w2 J59 0 101 ((-1))) K)))) ∧ ((¬ (I61 0 5) = 0) → (K ((-1000000000000000)) I61 J59)))))))))))))))) ∧ ((¬ 3 ≤ x18) → (CalV wM d mX13_qTest [.ref (0)] I16 J17 (fun I73 J74 => (((¬ (I73 0 5) = 0) → (∀ I76 : Ii, I76 = u2 I73 0 7 (I73 0 5) → (∀ I77 : Ii, I77 = u2 I76 0 8 (I76 0 6) → ((((I77 0 5) = 0) → (((2 ≤ x18) → (GoL wM (d + 1) mX13_ask 189 [(0, .ref (0)), (2, .int (x18)), (3, .int (0))] [] (u2 (u2 I77 0 102 1) 0 55 v1) (w2 J74 0 101 0) K)) ∧ ((¬ 2 ≤ x18) → (GoL wM (d + 1) mX13_ask 189 [(0, .ref (0)), (2, .int (x18)), (3, .int (0))] [] (u2 (u2 I77 0 102 1) 0 55 v1) (w2 J74 0 101 ((-1))) K)))) ∧ ((¬ (I77 0 5) = 0) → (K ((-1000000000000000)) I77 J74)))))) ∧ (((I73 0 5) = 0) → (CalI wM d mX13_look [.ref (0)] I73 J74 (fun x88 I86 J87 => (((x88 = ((-1))) → (∀ I90 : Ii, I90 = u2 I86 0 7 (I86 0 5) → (∀ I91 : Ii, I91 = u2 I90 0 8 (I90 0 6) → ((((I91 0 5) = 0) → (((2 ≤ x18) → (GoL wM (d + 1) mX13_ask 189 [(0, .ref (0)), (2, .int (x18)), (3, .int (0))] [] (u2 (u2 I91 0 102 1) 0 55 v1) (w2 J87 0 101 0) K)) ∧ ((¬ 2 ≤ x18) → (GoL wM (d + 1) mX13_ask 189 [(0, .ref (0)), (2, .int (x18)), (3, .int (0))] [] (u2 (u2 I91 0 102 1) 0 55 v1) (w2 J87 0 101 ((-1))) K)))) ∧ ((¬ (I91 0 5) = 0) → (K ((-1000000000000000)) I91 J87)))))) ∧ ((¬ x88 = ((-1))) → (CalV wM d mX13_fail [.ref (0), .int (1), .int (I86 0 2)] I86 J87 (fun I100 J101 => (∀ I102 : Ii, I102 = u2 I100 0 7 (I100 0 5) → (∀ I103 : Ii, I103 = u2 I102 0 8 (I102 0 6) → ((((I103 0 5) = 0) → (((2 ≤ x18) → (GoL wM (d + 1) mX13_ask 189 [(0, .ref (0)), (2, .int (x18)), (3, .int (0))] [] (u2 (u2 I103 0 102 1) 0 55 v1) (w2 J101 0 101 0) K)) ∧ ((¬ 2 ≤ x18) → (GoL wM (d + 1) mX13_ask 189 [(0, .ref (0)), (2, .int (x18)), (3, .int (0))] [] (u2 (u2 I103 0 102 1) 0 55 v1) (w2 J101 0 101 ((-1))) K)))) ∧ ((¬ (I103 0 5) = 0) → (K ((-1000000000000000)) I103 J101)))))))))))))))))))))))))))) ∧ ((x3 = 0) → (K ((-1000000000000000)) (u2 I1 0 1 0) J2))))) :
    GoL wM (d + 1) mX13_ask 0 [(0, .ref (0)), (1, .int (v1))] [] I J K :=
  (g_aload_n dX13_ask_0 0 0 rfl rfl (g_iload_n dX13_ask_1 1 1 rfl rfl (g_callvI dX13_ask_2 ml_X13_504 md_X13_isPerson mv_X13_isPerson obM_0 rfl rfl rfl (Nat.le_of_ble_eq_true rfl) (CalI.mono h (fun x3 I1 J2 h117 => (g_if_ne dX13_ask_5 rfl (fun q4 => (g_aload_n dX13_ask_17 0 0 rfl rfl (g_aload_n dX13_ask_18 0 0 rfl rfl (g_getI dX13_ask_19 fl_X13_254 rfl obM_0 (g_putI dX13_ask_22 fl_X13_266 rfl rfl obM_0 (g_aload_n dX13_ask_25 0 0 rfl rfl (g_iconst dX13_ask_26 kc_0 (g_putI dX13_ask_27 fl_X13_254 rfl rfl obM_0 (g_aload_n dX13_ask_30 0 0 rfl rfl (g_iconst dX13_ask_31 kc_0 (g_putI dX13_ask_32 fl_X13_263 rfl rfl obM_0 (g_aload_n dX13_ask_35 0 0 rfl rfl (g_iconst dX13_ask_36 kc_n1 (g_putI dX13_ask_37 fl_X13_277 rfl rfl obM_0 (g_aload_n dX13_ask_40 0 0 rfl rfl (g_iconst dX13_ask_41 kc_0 (g_putI dX13_ask_42 fl_X13_257 rfl rfl obM_0 (g_aload_n dX13_ask_45 0 0 rfl rfl (g_iconst dX13_ask_46 kc_n1 (g_putI dX13_ask_47 fl_X13_260 rfl rfl obM_0 (g_aload_n dX13_ask_50 0 0 rfl rfl (g_iconst dX13_ask_51 kc_2 (g_putI dX13_ask_52 fl_X13_312 rfl rfl obM_0 (g_aload_n dX13_ask_55 0 0 rfl rfl (g_iconst dX13_ask_56 kc_0 (g_putI dX13_ask_57 fl_X13_342 rfl rfl obM_0 (g_aload_n dX13_ask_60 0 0 rfl rfl (g_iconst dX13_ask_61 kc_0 (g_putI dX13_ask_62 fl_X13_345 rfl rfl obM_0 (g_aload_n dX13_ask_65 0 0 rfl rfl (g_iconst dX13_ask_66 kc_0 (g_putI dX13_ask_67 fl_X13_348 rfl rfl obM_0 (g_aload_n dX13_ask_70 0 0 rfl rfl (g_iconst dX13_ask_71 kc_0 (g_putI dX13_ask_72 fl_X13_351 rfl rfl obM_0 (g_aload_n dX13_ask_75 0 0 rfl rfl (g_callvI dX13_ask_76 ml_X13_642 md_X13_qKind mv_X13_qKind obM_0 rfl rfl rfl (Nat.le_of_ble_eq_true rfl) (CalI.mono (((((((h117.1 q4) _ rfl) _ rfl) _ rfl) _ rfl) _ rfl) _ rfl) (fun x18 I16 J17 h115 => (g_istore_n dX13_ask_79 rfl (by decide) rfl (g_aload_n dX13_ask_80 1 0 rfl rfl (g_getI dX13_ask_81 fl_X13_257 rfl obM_0 (g_if_ne dX13_ask_84 rfl (fun q19 => (g_aload_n dX13_ask_99 1 0 rfl rfl (g_getI dX13_ask_100 fl_X13_257 rfl obM_0 (g_if_ne dX13_ask_103 rfl (fun _ => (g_aload_n dX13_ask_110 1 0 rfl rfl (g_getI dX13_ask_111 fl_X13_257 rfl obM_0 (g_if_ne dX13_ask_114 rfl (fun _ => (g_aload_n dX13_ask_134 1 0 rfl rfl (g_aload_n dX13_ask_135 1 0 rfl rfl (g_getI dX13_ask_136 fl_X13_257 rfl obM_0 (g_putI dX13_ask_139 fl_X13_386 rfl rfl obM_0 (g_aload_n dX13_ask_142 1 0 rfl rfl (g_aload_n dX13_ask_143 1 0 rfl rfl (g_getI dX13_ask_144 fl_X13_260 rfl obM_0 (g_putI dX13_ask_147 fl_X13_13 rfl rfl obM_0 (g_aload_n dX13_ask_150 1 0 rfl rfl (g_getI dX13_ask_151 fl_X13_257 rfl obM_0 (g_if_eq dX13_ask_154 rfl (fun q22 => (g_aload_n dX13_ask_161 1 0 rfl rfl (g_iload_n dX13_ask_162 0 2 rfl rfl (g_iconst dX13_ask_163 kc_2 (g_icmp_ge dX13_ask_164 rfl (fun q23 => (g_lconst dX13_ask_173 kq_0 (g_putJ dX13_ask_174 fl_X13_634 rfl rfl obM_0 (g_aload_n dX13_ask_177 1 0 rfl rfl (g_iconst dX13_ask_178 kc_1 (g_putZ dX13_ask_179 fl_X13_639 rfl rfl (by decide) obM_0 (g_aload_n dX13_ask_182 1 0 rfl rfl (g_iload_n dX13_ask_183 2 1 rfl rfl (g_putI dX13_ask_184 fl_X13_413 rfl rfl obM_0 (g_iconst dX13_ask_187 kc_0 (g_istore_n dX13_ask_188 rfl (by decide) rfl (g_sub [2, 1, 0] rfl (((((h115.1 q19) _ rfl) _ rfl).1 q22).1 q23))))))))))))) (fun q23 => (g_ldc2 dX13_ask_167 kl_X13_637 (g_goto dX13_ask_170 rfl (g_putJ dX13_ask_174 fl_X13_634 rfl rfl obM_0 (g_aload_n dX13_ask_177 1 0 rfl rfl (g_iconst dX13_ask_178 kc_1 (g_putZ dX13_ask_179 fl_X13_639 rfl rfl (by decide) obM_0 (g_aload_n dX13_ask_182 1 0 rfl rfl (g_iload_n dX13_ask_183 2 1 rfl rfl (g_putI dX13_ask_184 fl_X13_413 rfl rfl obM_0 (g_iconst dX13_ask_187 kc_0 (g_istore_n dX13_ask_188 rfl (by decide) rfl (g_sub [2, 1, 0] rfl (((((h115.1 q19) _ rfl) _ rfl).1 q22).2 q23))))))))))))))))))) (fun q22 => (g_ldc2 dX13_ask_157 kl_X13_510 (g_lreturn dX13_ask_160 rfl ⟨_, rfl, ((((h115.1 q19) _ rfl) _ rfl).2 q22)⟩))))))))))))))) (fun q => absurd q q19))))) (fun q => absurd q q19))))) (fun q19 => (g_iload_n dX13_ask_87 0 2 rfl rfl (g_iconst dX13_ask_88 kc_3 (g_icmp_ge dX13_ask_89 rfl (fun q30 => (g_aload_n dX13_ask_99 1 0 rfl rfl (g_getI dX13_ask_100 fl_X13_257 rfl obM_0 (g_if_ne dX13_ask_103 rfl (fun q => absurd q19 q) (fun _ => (g_aload_n dX13_ask_106 1 0 rfl rfl (g_callvV dX13_ask_107 ml_X13_603 md_X13_qSums mv_X13_qSums obM_0 rfl rfl rfl (Nat.le_of_ble_eq_true rfl) (CalV.mono ((h115.2 q19).1 q30) (fun I31 J32 h72 => (g_aload_n dX13_ask_110 1 0 rfl rfl (g_getI dX13_ask_111 fl_X13_257 rfl obM_0 (g_if_ne dX13_ask_114 rfl (fun q33 => (g_aload_n dX13_ask_134 1 0 rfl rfl (g_aload_n dX13_ask_135 1 0 rfl rfl (g_getI dX13_ask_136 fl_X13_257 rfl obM_0 (g_putI dX13_ask_139 fl_X13_386 rfl rfl obM_0 (g_aload_n dX13_ask_142 1 0 rfl rfl (g_aload_n dX13_ask_143 1 0 rfl rfl (g_getI dX13_ask_144 fl_X13_260 rfl obM_0 (g_putI dX13_ask_147 fl_X13_13 rfl rfl obM_0 (g_aload_n dX13_ask_150 1 0 rfl rfl (g_getI dX13_ask_151 fl_X13_257 rfl obM_0 (g_if_eq dX13_ask_154 rfl (fun q36 => (g_aload_n dX13_ask_161 1 0 rfl rfl (g_iload_n dX13_ask_162 0 2 rfl rfl (g_iconst dX13_ask_163 kc_2 (g_icmp_ge dX13_ask_164 rfl (fun q37 => (g_lconst dX13_ask_173 kq_0 (g_putJ dX13_ask_174 fl_X13_634 rfl rfl obM_0 (g_aload_n dX13_ask_177 1 0 rfl rfl (g_iconst dX13_ask_178 kc_1 (g_putZ dX13_ask_179 fl_X13_639 rfl rfl (by decide) obM_0 (g_aload_n dX13_ask_182 1 0 rfl rfl (g_iload_n dX13_ask_183 2 1 rfl rfl (g_putI dX13_ask_184 fl_X13_413 rfl rfl obM_0 (g_iconst dX13_ask_187 kc_0 (g_istore_n dX13_ask_188 rfl (by decide) rfl (g_sub [2, 1, 0] rfl (((((h72.1 q33) _ rfl) _ rfl).1 q36).1 q37))))))))))))) (fun q37 => (g_ldc2 dX13_ask_167 kl_X13_637 (g_goto dX13_ask_170 rfl (g_putJ dX13_ask_174 fl_X13_634 rfl rfl obM_0 (g_aload_n dX13_ask_177 1 0 rfl rfl (g_iconst dX13_ask_178 kc_1 (g_putZ dX13_ask_179 fl_X13_639 rfl rfl (by decide) obM_0 (g_aload_n dX13_ask_182 1 0 rfl rfl (g_iload_n dX13_ask_183 2 1 rfl rfl (g_putI dX13_ask_184 fl_X13_413 rfl rfl obM_0 (g_iconst dX13_ask_187 kc_0 (g_istore_n dX13_ask_188 rfl (by decide) rfl (g_sub [2, 1, 0] rfl (((((h72.1 q33) _ rfl) _ rfl).1 q36).2 q37))))))))))))))))))) (fun q36 => (g_ldc2 dX13_ask_157 kl_X13_510 (g_lreturn dX13_ask_160 rfl ⟨_, rfl, ((((h72.1 q33) _ rfl) _ rfl).2 q36)⟩))))))))))))))) (fun q33 => (g_aload_n dX13_ask_117 1 0 rfl rfl (g_callvI dX13_ask_118 ml_X13_269 md_X13_look mv_X13_look obM_0 rfl rfl rfl (Nat.le_of_ble_eq_true rfl) (CalI.mono (h72.2 q33) (fun x46 I44 J45 h71 => (g_iconst dX13_ask_121 kc_n1 (g_icmp_eq dX13_ask_122 rfl (fun q47 => (g_aload_n dX13_ask_134 1 0 rfl rfl (g_aload_n dX13_ask_135 1 0 rfl rfl (g_getI dX13_ask_136 fl_X13_257 rfl obM_0 (g_putI dX13_ask_139 fl_X13_386 rfl rfl obM_0 (g_aload_n dX13_ask_142 1 0 rfl rfl (g_aload_n dX13_ask_143 1 0 rfl rfl (g_getI dX13_ask_144 fl_X13_260 rfl obM_0 (g_putI dX13_ask_147 fl_X13_13 rfl rfl obM_0 (g_aload_n dX13_ask_150 1 0 rfl rfl (g_getI dX13_ask_151 fl_X13_257 rfl obM_0 (g_if_eq dX13_ask_154 rfl (fun q50 => (g_aload_n dX13_ask_161 1 0 rfl rfl (g_iload_n dX13_ask_162 0 2 rfl rfl (g_iconst dX13_ask_163 kc_2 (g_icmp_ge dX13_ask_164 rfl (fun q51 => (g_lconst dX13_ask_173 kq_0 (g_putJ dX13_ask_174 fl_X13_634 rfl rfl obM_0 (g_aload_n dX13_ask_177 1 0 rfl rfl (g_iconst dX13_ask_178 kc_1 (g_putZ dX13_ask_179 fl_X13_639 rfl rfl (by decide) obM_0 (g_aload_n dX13_ask_182 1 0 rfl rfl (g_iload_n dX13_ask_183 2 1 rfl rfl (g_putI dX13_ask_184 fl_X13_413 rfl rfl obM_0 (g_iconst dX13_ask_187 kc_0 (g_istore_n dX13_ask_188 rfl (by decide) rfl (g_sub [2, 1, 0] rfl (((((h71.1 q47) _ rfl) _ rfl).1 q50).1 q51))))))))))))) (fun q51 => (g_ldc2 dX13_ask_167 kl_X13_637 (g_goto dX13_ask_170 rfl (g_putJ dX13_ask_174 fl_X13_634 rfl rfl obM_0 (g_aload_n dX13_ask_177 1 0 rfl rfl (g_iconst dX13_ask_178 kc_1 (g_putZ dX13_ask_179 fl_X13_639 rfl rfl (by decide) obM_0 (g_aload_n dX13_ask_182 1 0 rfl rfl (g_iload_n dX13_ask_183 2 1 rfl rfl (g_putI dX13_ask_184 fl_X13_413 rfl rfl obM_0 (g_iconst dX13_ask_187 kc_0 (g_istore_n dX13_ask_188 rfl (by decide) rfl (g_sub [2, 1, 0] rfl (((((h71.1 q47) _ rfl) _ rfl).1 q50).2 q51))))))))))))))))))) (fun q50 => (g_ldc2 dX13_ask_157 kl_X13_510 (g_lreturn dX13_ask_160 rfl ⟨_, rfl, ((((h71.1 q47) _ rfl) _ rfl).2 q50)⟩))))))))))))))) (fun q47 => (g_aload_n dX13_ask_125 1 0 rfl rfl (g_iconst dX13_ask_126 kc_1 (g_aload_n dX13_ask_127 1 0 rfl rfl (g_getI dX13_ask_128 fl_X13_263 rfl obM_0 (g_callvV dX13_ask_131 ml_X13_287 md_X13_fail mv_X13_fail obM_0 rfl rfl rfl (Nat.le_of_ble_eq_true rfl) (CalV.mono (h71.2 q47) (fun I58 J59 h70 => (g_aload_n dX13_ask_134 1 0 rfl rfl (g_aload_n dX13_ask_135 1 0 rfl rfl (g_getI dX13_ask_136 fl_X13_257 rfl obM_0 (g_putI dX13_ask_139 fl_X13_386 rfl rfl obM_0 (g_aload_n dX13_ask_142 1 0 rfl rfl (g_aload_n dX13_ask_143 1 0 rfl rfl (g_getI dX13_ask_144 fl_X13_260 rfl obM_0 (g_putI dX13_ask_147 fl_X13_13 rfl rfl obM_0 (g_aload_n dX13_ask_150 1 0 rfl rfl (g_getI dX13_ask_151 fl_X13_257 rfl obM_0 (g_if_eq dX13_ask_154 rfl (fun q62 => (g_aload_n dX13_ask_161 1 0 rfl rfl (g_iload_n dX13_ask_162 0 2 rfl rfl (g_iconst dX13_ask_163 kc_2 (g_icmp_ge dX13_ask_164 rfl (fun q63 => (g_lconst dX13_ask_173 kq_0 (g_putJ dX13_ask_174 fl_X13_634 rfl rfl obM_0 (g_aload_n dX13_ask_177 1 0 rfl rfl (g_iconst dX13_ask_178 kc_1 (g_putZ dX13_ask_179 fl_X13_639 rfl rfl (by decide) obM_0 (g_aload_n dX13_ask_182 1 0 rfl rfl (g_iload_n dX13_ask_183 2 1 rfl rfl (g_putI dX13_ask_184 fl_X13_413 rfl rfl obM_0 (g_iconst dX13_ask_187 kc_0 (g_istore_n dX13_ask_188 rfl (by decide) rfl (g_sub [2, 1, 0] rfl ((((h70 _ rfl) _ rfl).1 q62).1 q63))))))))))))) (fun q63 => (g_ldc2 dX13_ask_167 kl_X13_637 (g_goto dX13_ask_170 rfl (g_putJ dX13_ask_174 fl_X13_634 rfl rfl obM_0 (g_aload_n dX13_ask_177 1 0 rfl rfl (g_iconst dX13_ask_178 kc_1 (g_putZ dX13_ask_179 fl_X13_639 rfl rfl (by decide) obM_0 (g_aload_n dX13_ask_182 1 0 rfl rfl (g_iload_n dX13_ask_183 2 1 rfl rfl (g_putI dX13_ask_184 fl_X13_413 rfl rfl obM_0 (g_iconst dX13_ask_187 kc_0 (g_istore_n dX13_ask_188 rfl (by decide) rfl (g_sub [2, 1, 0] rfl ((((h70 _ rfl) _ rfl).1 q62).2 q63))))))))))))))))))) (fun q62 => (g_ldc2 dX13_ask_157 kl_X13_510 (g_lreturn dX13_ask_160 rfl ⟨_, rfl, (((h70 _ rfl) _ rfl).2 q62)⟩))))))))))))))))))))))))))))))))))))))))) (fun q30 => (g_aload_n dX13_ask_92 1 0 rfl rfl (g_callvV dX13_ask_93 ml_X13_354 md_X13_qTest mv_X13_qTest obM_0 rfl rfl rfl (Nat.le_of_ble_eq_true rfl) (CalV.mono ((h115.2 q19).2 q30) (fun I73 J74 h114 => (g_goto dX13_ask_96 rfl (g_aload_n dX13_ask_110 1 0 rfl rfl (g_getI dX13_ask_111 fl_X13_257 rfl obM_0 (g_if_ne dX13_ask_114 rfl (fun q75 => (g_aload_n dX13_ask_134 1 0 rfl rfl (g_aload_n dX13_ask_135 1 0 rfl rfl (g_getI dX13_ask_136 fl_X13_257 rfl obM_0 (g_putI dX13_ask_139 fl_X13_386 rfl rfl obM_0 (g_aload_n dX13_ask_142 1 0 rfl rfl (g_aload_n dX13_ask_143 1 0 rfl rfl (g_getI dX13_ask_144 fl_X13_260 rfl obM_0 (g_putI dX13_ask_147 fl_X13_13 rfl rfl obM_0 (g_aload_n dX13_ask_150 1 0 rfl rfl (g_getI dX13_ask_151 fl_X13_257 rfl obM_0 (g_if_eq dX13_ask_154 rfl (fun q78 => (g_aload_n dX13_ask_161 1 0 rfl rfl (g_iload_n dX13_ask_162 0 2 rfl rfl (g_iconst dX13_ask_163 kc_2 (g_icmp_ge dX13_ask_164 rfl (fun q79 => (g_lconst dX13_ask_173 kq_0 (g_putJ dX13_ask_174 fl_X13_634 rfl rfl obM_0 (g_aload_n dX13_ask_177 1 0 rfl rfl (g_iconst dX13_ask_178 kc_1 (g_putZ dX13_ask_179 fl_X13_639 rfl rfl (by decide) obM_0 (g_aload_n dX13_ask_182 1 0 rfl rfl (g_iload_n dX13_ask_183 2 1 rfl rfl (g_putI dX13_ask_184 fl_X13_413 rfl rfl obM_0 (g_iconst dX13_ask_187 kc_0 (g_istore_n dX13_ask_188 rfl (by decide) rfl (g_sub [2, 1, 0] rfl (((((h114.1 q75) _ rfl) _ rfl).1 q78).1 q79))))))))))))) (fun q79 => (g_ldc2 dX13_ask_167 kl_X13_637 (g_goto dX13_ask_170 rfl (g_putJ dX13_ask_174 fl_X13_634 rfl rfl obM_0 (g_aload_n dX13_ask_177 1 0 rfl rfl (g_iconst dX13_ask_178 kc_1 (g_putZ dX13_ask_179 fl_X13_639 rfl rfl (by decide) obM_0 (g_aload_n dX13_ask_182 1 0 rfl rfl (g_iload_n dX13_ask_183 2 1 rfl rfl (g_putI dX13_ask_184 fl_X13_413 rfl rfl obM_0 (g_iconst dX13_ask_187 kc_0 (g_istore_n dX13_ask_188 rfl (by decide) rfl (g_sub [2, 1, 0] rfl (((((h114.1 q75) _ rfl) _ rfl).1 q78).2 q79))))))))))))))))))) (fun q78 => (g_ldc2 dX13_ask_157 kl_X13_510 (g_lreturn dX13_ask_160 rfl ⟨_, rfl, ((((h114.1 q75) _ rfl) _ rfl).2 q78)⟩))))))))))))))) (fun q75 => (g_aload_n dX13_ask_117 1 0 rfl rfl (g_callvI dX13_ask_118 ml_X13_269 md_X13_look mv_X13_look obM_0 rfl rfl rfl (Nat.le_of_ble_eq_true rfl) (CalI.mono (h114.2 q75) (fun x88 I86 J87 h113 => (g_iconst dX13_ask_121 kc_n1 (g_icmp_eq dX13_ask_122 rfl (fun q89 => (g_aload_n dX13_ask_134 1 0 rfl rfl (g_aload_n dX13_ask_135 1 0 rfl rfl (g_getI dX13_ask_136 fl_X13_257 rfl obM_0 (g_putI dX13_ask_139 fl_X13_386 rfl rfl obM_0 (g_aload_n dX13_ask_142 1 0 rfl rfl (g_aload_n dX13_ask_143 1 0 rfl rfl (g_getI dX13_ask_144 fl_X13_260 rfl obM_0 (g_putI dX13_ask_147 fl_X13_13 rfl rfl obM_0 (g_aload_n dX13_ask_150 1 0 rfl rfl (g_getI dX13_ask_151 fl_X13_257 rfl obM_0 (g_if_eq dX13_ask_154 rfl (fun q92 => (g_aload_n dX13_ask_161 1 0 rfl rfl (g_iload_n dX13_ask_162 0 2 rfl rfl (g_iconst dX13_ask_163 kc_2 (g_icmp_ge dX13_ask_164 rfl (fun q93 => (g_lconst dX13_ask_173 kq_0 (g_putJ dX13_ask_174 fl_X13_634 rfl rfl obM_0 (g_aload_n dX13_ask_177 1 0 rfl rfl (g_iconst dX13_ask_178 kc_1 (g_putZ dX13_ask_179 fl_X13_639 rfl rfl (by decide) obM_0 (g_aload_n dX13_ask_182 1 0 rfl rfl (g_iload_n dX13_ask_183 2 1 rfl rfl (g_putI dX13_ask_184 fl_X13_413 rfl rfl obM_0 (g_iconst dX13_ask_187 kc_0 (g_istore_n dX13_ask_188 rfl (by decide) rfl (g_sub [2, 1, 0] rfl (((((h113.1 q89) _ rfl) _ rfl).1 q92).1 q93))))))))))))) (fun q93 => (g_ldc2 dX13_ask_167 kl_X13_637 (g_goto dX13_ask_170 rfl (g_putJ dX13_ask_174 fl_X13_634 rfl rfl obM_0 (g_aload_n dX13_ask_177 1 0 rfl rfl (g_iconst dX13_ask_178 kc_1 (g_putZ dX13_ask_179 fl_X13_639 rfl rfl (by decide) obM_0 (g_aload_n dX13_ask_182 1 0 rfl rfl (g_iload_n dX13_ask_183 2 1 rfl rfl (g_putI dX13_ask_184 fl_X13_413 rfl rfl obM_0 (g_iconst dX13_ask_187 kc_0 (g_istore_n dX13_ask_188 rfl (by decide) rfl (g_sub [2, 1, 0] rfl (((((h113.1 q89) _ rfl) _ rfl).1 q92).2 q93))))))))))))))))))) (fun q92 => (g_ldc2 dX13_ask_157 kl_X13_510 (g_lreturn dX13_ask_160 rfl ⟨_, rfl, ((((h113.1 q89) _ rfl) _ rfl).2 q92)⟩))))))))))))))) (fun q89 => (g_aload_n dX13_ask_125 1 0 rfl rfl (g_iconst dX13_ask_126 kc_1 (g_aload_n dX13_ask_127 1 0 rfl rfl (g_getI dX13_ask_128 fl_X13_263 rfl obM_0 (g_callvV dX13_ask_131 ml_X13_287 md_X13_fail mv_X13_fail obM_0 rfl rfl rfl (Nat.le_of_ble_eq_true rfl) (CalV.mono (h113.2 q89) (fun I100 J101 h112 => (g_aload_n dX13_ask_134 1 0 rfl rfl (g_aload_n dX13_ask_135 1 0 rfl rfl (g_getI dX13_ask_136 fl_X13_257 rfl obM_0 (g_putI dX13_ask_139 fl_X13_386 rfl rfl obM_0 (g_aload_n dX13_ask_142 1 0 rfl rfl (g_aload_n dX13_ask_143 1 0 rfl rfl (g_getI dX13_ask_144 fl_X13_260 rfl obM_0 (g_putI dX13_ask_147 fl_X13_13 rfl rfl obM_0 (g_aload_n dX13_ask_150 1 0 rfl rfl (g_getI dX13_ask_151 fl_X13_257 rfl obM_0 (g_if_eq dX13_ask_154 rfl (fun q104 => (g_aload_n dX13_ask_161 1 0 rfl rfl (g_iload_n dX13_ask_162 0 2 rfl rfl (g_iconst dX13_ask_163 kc_2 (g_icmp_ge dX13_ask_164 rfl (fun q105 => (g_lconst dX13_ask_173 kq_0 (g_putJ dX13_ask_174 fl_X13_634 rfl rfl obM_0 (g_aload_n dX13_ask_177 1 0 rfl rfl (g_iconst dX13_ask_178 kc_1 (g_putZ dX13_ask_179 fl_X13_639 rfl rfl (by decide) obM_0 (g_aload_n dX13_ask_182 1 0 rfl rfl (g_iload_n dX13_ask_183 2 1 rfl rfl (g_putI dX13_ask_184 fl_X13_413 rfl rfl obM_0 (g_iconst dX13_ask_187 kc_0 (g_istore_n dX13_ask_188 rfl (by decide) rfl (g_sub [2, 1, 0] rfl ((((h112 _ rfl) _ rfl).1 q104).1 q105))))))))))))) (fun q105 => (g_ldc2 dX13_ask_167 kl_X13_637 (g_goto dX13_ask_170 rfl (g_putJ dX13_ask_174 fl_X13_634 rfl rfl obM_0 (g_aload_n dX13_ask_177 1 0 rfl rfl (g_iconst dX13_ask_178 kc_1 (g_putZ dX13_ask_179 fl_X13_639 rfl rfl (by decide) obM_0 (g_aload_n dX13_ask_182 1 0 rfl rfl (g_iload_n dX13_ask_183 2 1 rfl rfl (g_putI dX13_ask_184 fl_X13_413 rfl rfl obM_0 (g_iconst dX13_ask_187 kc_0 (g_istore_n dX13_ask_188 rfl (by decide) rfl (g_sub [2, 1, 0] rfl ((((h112 _ rfl) _ rfl).1 q104).2 q105))))))))))))))))))) (fun q104 => (g_ldc2 dX13_ask_157 kl_X13_510 (g_lreturn dX13_ask_160 rfl ⟨_, rfl, (((h112 _ rfl) _ rfl).2 q104)⟩))))))))))))))))))))))))))))))))))))))))))))))))))))))))))))))))))))))))))))))))))))) (fun q4 => (g_aload_n dX13_ask_8 0 0 rfl rfl (g_iconst dX13_ask_9 kc_0 (g_putI dX13_ask_10 fl_X13_254 rfl rfl obM_0 (g_ldc2 dX13_ask_13 kl_X13_510 (g_lreturn dX13_ask_16 rfl ⟨_, rfl, (h117.2 q4)⟩))))))))))))
theorem bX13_ask_189 {d : Nat}  {v2 : Int32} {v3 : Int32} {I : Ii} {J : Jj} {K : KL}
    (h : CalI wM d mX13_factMany [.ref (0)] I J (fun x3 I1 J2 => (((x3 ≤ v3) → (K (J2 0 101) I1 J2)) ∧ ((¬ x3 ≤ v3) → (CalL wM d mX13_qTold [.ref (0), .int (v3)] I1 J2 (fun x7 I5 J6 => (CalV wM d mX13_qTakes [.ref (0), .int (v2), .long (x7), .int (v3)] I5 J6 (fun I8 J9 => (GoL wM (d + 1) mX13_ask 189 [(0, .ref (0)), (2, .int (v2)), (3, .int (v3 + 1))] [] I8 J9 K))))))))) :
    GoL wM (d + 1) mX13_ask 189 [(0, .ref (0)), (2, .int (v2)), (3, .int (v3))] [] I J K :=
  (g_iload_n dX13_ask_189 2 3 rfl rfl (g_aload_n dX13_ask_190 0 0 rfl rfl (g_callvI dX13_ask_191 ml_X13_398 md_X13_factMany mv_X13_factMany obM_0 rfl rfl rfl (Nat.le_of_ble_eq_true rfl) (CalI.mono h (fun x3 I1 J2 h12 => (g_icmp_ge dX13_ask_194 rfl (fun q4 => (g_aload_n dX13_ask_214 0 0 rfl rfl (g_getJ dX13_ask_215 fl_X13_634 rfl obM_0 (g_lreturn dX13_ask_218 rfl ⟨_, rfl, (h12.1 q4)⟩)))) (fun q4 => (g_aload_n dX13_ask_197 0 0 rfl rfl (g_iload_n dX13_ask_198 1 2 rfl rfl (g_aload_n dX13_ask_199 0 0 rfl rfl (g_iload_n dX13_ask_200 2 3 rfl rfl (g_callvL dX13_ask_201 ml_X13_645 md_X13_qTold mv_X13_qTold obM_0 rfl rfl rfl (Nat.le_of_ble_eq_true rfl) (CalL.mono (h12.2 q4) (fun x7 I5 J6 h11 => (g_iload_n dX13_ask_204 2 3 rfl rfl (g_callvV dX13_ask_205 ml_X13_649 md_X13_qTakes mv_X13_qTakes obM_0 rfl rfl rfl (Nat.le_of_ble_eq_true rfl) (CalV.mono h11 (fun I8 J9 h10 => (g_iinc dX13_ask_208 2 rfl rfl (by decide) rfl (g_goto dX13_ask_211 rfl (g_sub [1, 2, 0] rfl h10)))))))))))))))))))))
theorem dX13_qKind_0 : decode cX13_qKind 0 = .ok (.aload_n 0, 1) := by decide +kernel
theorem dX13_qKind_1 : decode cX13_qKind 1 = .ok (.aload_n 0, 1) := by decide +kernel
theorem dX13_qKind_2 : decode cX13_qKind 2 = .ok (.getfield 167, 3) := by decide +kernel
theorem dX13_qKind_5 : decode cX13_qKind 5 = .ok (.invokevirtual 284, 3) := by decide +kernel
theorem dX13_qKind_8 : decode cX13_qKind 8 = .ok (.ifCond .eq 7, 3) := by decide +kernel
theorem dX13_qKind_11 : decode cX13_qKind 11 = .ok (.iconst 0, 1) := by decide +kernel
theorem dX13_qKind_12 : decode cX13_qKind 12 = .ok (.goto 64, 3) := by decide +kernel
theorem dX13_qKind_15 : decode cX13_qKind 15 = .ok (.aload_n 0, 1) := by decide +kernel
theorem dX13_qKind_16 : decode cX13_qKind 16 = .ok (.aload_n 0, 1) := by decide +kernel
theorem dX13_qKind_17 : decode cX13_qKind 17 = .ok (.getfield 170, 3) := by decide +kernel
theorem dX13_qKind_20 : decode cX13_qKind 20 = .ok (.invokevirtual 284, 3) := by decide +kernel
theorem dX13_qKind_23 : decode cX13_qKind 23 = .ok (.ifCond .eq 7, 3) := by decide +kernel
theorem dX13_qKind_26 : decode cX13_qKind 26 = .ok (.iconst 1, 1) := by decide +kernel
theorem dX13_qKind_27 : decode cX13_qKind 27 = .ok (.goto 49, 3) := by decide +kernel
theorem dX13_qKind_30 : decode cX13_qKind 30 = .ok (.aload_n 0, 1) := by decide +kernel
theorem dX13_qKind_31 : decode cX13_qKind 31 = .ok (.aload_n 0, 1) := by decide +kernel
theorem dX13_qKind_32 : decode cX13_qKind 32 = .ok (.getfield 173, 3) := by decide +kernel
theorem dX13_qKind_35 : decode cX13_qKind 35 = .ok (.invokevirtual 284, 3) := by decide +kernel
theorem dX13_qKind_38 : decode cX13_qKind 38 = .ok (.ifCond .eq 7, 3) := by decide +kernel
theorem dX13_qKind_41 : decode cX13_qKind 41 = .ok (.iconst 2, 1) := by decide +kernel
theorem dX13_qKind_42 : decode cX13_qKind 42 = .ok (.goto 34, 3) := by decide +kernel
theorem dX13_qKind_45 : decode cX13_qKind 45 = .ok (.aload_n 0, 1) := by decide +kernel
theorem dX13_qKind_46 : decode cX13_qKind 46 = .ok (.aload_n 0, 1) := by decide +kernel
theorem dX13_qKind_47 : decode cX13_qKind 47 = .ok (.getfield 176, 3) := by decide +kernel
theorem dX13_qKind_50 : decode cX13_qKind 50 = .ok (.invokevirtual 284, 3) := by decide +kernel
theorem dX13_qKind_53 : decode cX13_qKind 53 = .ok (.ifCond .eq 7, 3) := by decide +kernel
theorem dX13_qKind_56 : decode cX13_qKind 56 = .ok (.iconst 3, 1) := by decide +kernel
theorem dX13_qKind_57 : decode cX13_qKind 57 = .ok (.goto 19, 3) := by decide +kernel
theorem dX13_qKind_60 : decode cX13_qKind 60 = .ok (.aload_n 0, 1) := by decide +kernel
theorem dX13_qKind_61 : decode cX13_qKind 61 = .ok (.aload_n 0, 1) := by decide +kernel
theorem dX13_qKind_62 : decode cX13_qKind 62 = .ok (.getfield 179, 3) := by decide +kernel
theorem dX13_qKind_65 : decode cX13_qKind 65 = .ok (.invokevirtual 284, 3) := by decide +kernel
theorem dX13_qKind_68 : decode cX13_qKind 68 = .ok (.ifCond .eq 7, 3) := by decide +kernel
theorem dX13_qKind_71 : decode cX13_qKind 71 = .ok (.iconst 4, 1) := by decide +kernel
theorem dX13_qKind_72 : decode cX13_qKind 72 = .ok (.goto 4, 3) := by decide +kernel
theorem dX13_qKind_75 : decode cX13_qKind 75 = .ok (.iconst 5, 1) := by decide +kernel
theorem dX13_qKind_76 : decode cX13_qKind 76 = .ok (.istore_n 1, 1) := by decide +kernel
theorem dX13_qKind_77 : decode cX13_qKind 77 = .ok (.iload_n 1, 1) := by decide +kernel
theorem dX13_qKind_78 : decode cX13_qKind 78 = .ok (.iconst 5, 1) := by decide +kernel
theorem dX13_qKind_79 : decode cX13_qKind 79 = .ok (.if_icmp .ne 11, 3) := by decide +kernel
theorem dX13_qKind_82 : decode cX13_qKind 82 = .ok (.aload_n 0, 1) := by decide +kernel
theorem dX13_qKind_83 : decode cX13_qKind 83 = .ok (.aload_n 0, 1) := by decide +kernel
theorem dX13_qKind_84 : decode cX13_qKind 84 = .ok (.getfield 182, 3) := by decide +kernel
theorem dX13_qKind_87 : decode cX13_qKind 87 = .ok (.invokevirtual 330, 3) := by decide +kernel
theorem dX13_qKind_90 : decode cX13_qKind 90 = .ok (.iload_n 1, 1) := by decide +kernel
theorem dX13_qKind_91 : decode cX13_qKind 91 = .ok (.ireturn, 1) := by decide +kernel
theorem bX13_qKind_0 {d : Nat}   {I : Ii} {J : Jj} {K : KI}
    (h : CalI wM d mX13_takes [.ref (0), .ref (50)] I J (fun x3 I1 J2 => (((x3 = 0) → (CalI wM d mX13_takes [.ref (0), .ref (51)] I1 J2 (fun x7 I5 J6 => (((x7 = 0) → (CalI wM d mX13_takes [.ref (0), .ref (52)] I5 J6 (fun x11 I9 J10 => (((x11 = 0) → (CalI wM d mX13_takes [.ref (0), .ref (53)] I9 J10 (fun x15 I13 J14 => (((x15 = 0) → (CalI wM d mX13_takes [.ref (0), .ref (54)] I13 J14 (fun x19 I17 J18 => (((x19 = 0) → (CalV wM d mX13_asks [.ref (0), .ref (55)] I17 J18 (fun I21 J22 => (K (5) I21 J22)))) ∧ ((¬ x19 = 0) → (K (4) I17 J18)))))) ∧ ((¬ x15 = 0) → (K (3) I13 J14)))))) ∧ ((¬ x11 = 0) → (K (2) I9 J10)))))) ∧ ((¬ x7 = 0) → (K (1) I5 J6)))))) ∧ ((¬ x3 = 0) → (K (0) I1 J2))))) :
    GoI wM (d + 1) mX13_qKind 0 [(0, .ref (0))] [] I J K :=
  (g_aload_n dX13_qKind_0 0 0 rfl rfl (g_aload_n dX13_qKind_1 0 0 rfl rfl (g_getP dX13_qKind_2 fl_X13_167 rfl obM_0 rfl (g_callvI dX13_qKind_5 ml_X13_284 md_X13_takes mv_X13_takes obM_0 rfl rfl rfl (Nat.le_of_ble_eq_true rfl) (CalI.mono h (fun x3 I1 J2 h28 => (g_if_eq dX13_qKind_8 rfl (fun q4 => (g_aload_n dX13_qKind_15 0 0 rfl rfl (g_aload_n dX13_qKind_16 0 0 rfl rfl (g_getP dX13_qKind_17 fl_X13_170 rfl obM_0 rfl (g_callvI dX13_qKind_20 ml_X13_284 md_X13_takes mv_X13_takes obM_0 rfl rfl rfl (Nat.le_of_ble_eq_true rfl) (CalI.mono (h28.1 q4) (fun x7 I5 J6 h27 => (g_if_eq dX13_qKind_23 rfl (fun q8 => (g_aload_n dX13_qKind_30 0 0 rfl rfl (g_aload_n dX13_qKind_31 0 0 rfl rfl (g_getP dX13_qKind_32 fl_X13_173 rfl obM_0 rfl (g_callvI dX13_qKind_35 ml_X13_284 md_X13_takes mv_X13_takes obM_0 rfl rfl rfl (Nat.le_of_ble_eq_true rfl) (CalI.mono (h27.1 q8) (fun x11 I9 J10 h26 => (g_if_eq dX13_qKind_38 rfl (fun q12 => (g_aload_n dX13_qKind_45 0 0 rfl rfl (g_aload_n dX13_qKind_46 0 0 rfl rfl (g_getP dX13_qKind_47 fl_X13_176 rfl obM_0 rfl (g_callvI dX13_qKind_50 ml_X13_284 md_X13_takes mv_X13_takes obM_0 rfl rfl rfl (Nat.le_of_ble_eq_true rfl) (CalI.mono (h26.1 q12) (fun x15 I13 J14 h25 => (g_if_eq dX13_qKind_53 rfl (fun q16 => (g_aload_n dX13_qKind_60 0 0 rfl rfl (g_aload_n dX13_qKind_61 0 0 rfl rfl (g_getP dX13_qKind_62 fl_X13_179 rfl obM_0 rfl (g_callvI dX13_qKind_65 ml_X13_284 md_X13_takes mv_X13_takes obM_0 rfl rfl rfl (Nat.le_of_ble_eq_true rfl) (CalI.mono (h25.1 q16) (fun x19 I17 J18 h24 => (g_if_eq dX13_qKind_68 rfl (fun q20 => (g_iconst dX13_qKind_75 kc_5 (g_istore_n dX13_qKind_76 rfl (by decide) rfl (g_iload_n dX13_qKind_77 0 1 rfl rfl (g_iconst dX13_qKind_78 kc_5 (g_icmp_ne dX13_qKind_79 rfl (fun q => absurd q (by decide)) (fun _ => (g_aload_n dX13_qKind_82 1 0 rfl rfl (g_aload_n dX13_qKind_83 1 0 rfl rfl (g_getP dX13_qKind_84 fl_X13_182 rfl obM_0 rfl (g_callvV dX13_qKind_87 ml_X13_330 md_X13_asks mv_X13_asks obM_0 rfl rfl rfl (Nat.le_of_ble_eq_true rfl) (CalV.mono (h24.1 q20) (fun I21 J22 h23 => (g_iload_n dX13_qKind_90 0 1 rfl rfl (g_ireturn dX13_qKind_91 rfl ⟨_, rfl, h23⟩))))))))))))))) (fun q20 => (g_iconst dX13_qKind_71 kc_4 (g_goto dX13_qKind_72 rfl (g_istore_n dX13_qKind_76 rfl (by decide) rfl (g_iload_n dX13_qKind_77 0 1 rfl rfl (g_iconst dX13_qKind_78 kc_5 (g_icmp_ne dX13_qKind_79 rfl (fun _ => (g_iload_n dX13_qKind_90 0 1 rfl rfl (g_ireturn dX13_qKind_91 rfl ⟨_, rfl, (h24.2 q20)⟩))) (fun q => absurd q (by decide))))))))))))))))) (fun q16 => (g_iconst dX13_qKind_56 kc_3 (g_goto dX13_qKind_57 rfl (g_istore_n dX13_qKind_76 rfl (by decide) rfl (g_iload_n dX13_qKind_77 0 1 rfl rfl (g_iconst dX13_qKind_78 kc_5 (g_icmp_ne dX13_qKind_79 rfl (fun _ => (g_iload_n dX13_qKind_90 0 1 rfl rfl (g_ireturn dX13_qKind_91 rfl ⟨_, rfl, (h25.2 q16)⟩))) (fun q => absurd q (by decide))))))))))))))))) (fun q12 => (g_iconst dX13_qKind_41 kc_2 (g_goto dX13_qKind_42 rfl (g_istore_n dX13_qKind_76 rfl (by decide) rfl (g_iload_n dX13_qKind_77 0 1 rfl rfl (g_iconst dX13_qKind_78 kc_5 (g_icmp_ne dX13_qKind_79 rfl (fun _ => (g_iload_n dX13_qKind_90 0 1 rfl rfl (g_ireturn dX13_qKind_91 rfl ⟨_, rfl, (h26.2 q12)⟩))) (fun q => absurd q (by decide))))))))))))))))) (fun q8 => (g_iconst dX13_qKind_26 kc_1 (g_goto dX13_qKind_27 rfl (g_istore_n dX13_qKind_76 rfl (by decide) rfl (g_iload_n dX13_qKind_77 0 1 rfl rfl (g_iconst dX13_qKind_78 kc_5 (g_icmp_ne dX13_qKind_79 rfl (fun _ => (g_iload_n dX13_qKind_90 0 1 rfl rfl (g_ireturn dX13_qKind_91 rfl ⟨_, rfl, (h27.2 q8)⟩))) (fun q => absurd q (by decide))))))))))))))))) (fun q4 => (g_iconst dX13_qKind_11 kc_0 (g_goto dX13_qKind_12 rfl (g_istore_n dX13_qKind_76 rfl (by decide) rfl (g_iload_n dX13_qKind_77 0 1 rfl rfl (g_iconst dX13_qKind_78 kc_5 (g_icmp_ne dX13_qKind_79 rfl (fun _ => (g_iload_n dX13_qKind_90 0 1 rfl rfl (g_ireturn dX13_qKind_91 rfl ⟨_, rfl, (h28.2 q4)⟩))) (fun q => absurd q (by decide))))))))))))))))
theorem dX13_qTold_0 : decode cX13_qTold 0 = .ok (.aload_n 0, 1) := by decide +kernel
theorem dX13_qTold_1 : decode cX13_qTold 1 = .ok (.iconst 0, 1) := by decide +kernel
theorem dX13_qTold_2 : decode cX13_qTold 2 = .ok (.putfield 416, 3) := by decide +kernel
theorem dX13_qTold_5 : decode cX13_qTold 5 = .ok (.iconst 0, 1) := by decide +kernel
theorem dX13_qTold_6 : decode cX13_qTold 6 = .ok (.istore_n 2, 1) := by decide +kernel
theorem dX13_qTold_7 : decode cX13_qTold 7 = .ok (.iload_n 2, 1) := by decide +kernel
theorem dX13_qTold_8 : decode cX13_qTold 8 = .ok (.aload_n 0, 1) := by decide +kernel
theorem dX13_qTold_9 : decode cX13_qTold 9 = .ok (.getfield 342, 3) := by decide +kernel
theorem dX13_qTold_12 : decode cX13_qTold 12 = .ok (.if_icmp .ge 156, 3) := by decide +kernel
theorem dX13_qTold_15 : decode cX13_qTold 15 = .ok (.aload_n 0, 1) := by decide +kernel
theorem dX13_qTold_16 : decode cX13_qTold 16 = .ok (.getfield 242, 3) := by decide +kernel
theorem dX13_qTold_19 : decode cX13_qTold 19 = .ok (.iload_n 2, 1) := by decide +kernel
theorem dX13_qTold_20 : decode cX13_qTold 20 = .ok (.iaload, 1) := by decide +kernel
theorem dX13_qTold_21 : decode cX13_qTold 21 = .ok (.istore_n 3, 1) := by decide +kernel
theorem dX13_qTold_22 : decode cX13_qTold 22 = .ok (.iload_n 3, 1) := by decide +kernel
theorem dX13_qTold_23 : decode cX13_qTold 23 = .ok (.sipush 1000, 3) := by decide +kernel
theorem dX13_qTold_26 : decode cX13_qTold 26 = .ok (.if_icmp .lt 16, 3) := by decide +kernel
theorem dX13_qTold_29 : decode cX13_qTold 29 = .ok (.aload_n 0, 1) := by decide +kernel
theorem dX13_qTold_30 : decode cX13_qTold 30 = .ok (.iload_n 3, 1) := by decide +kernel
theorem dX13_qTold_31 : decode cX13_qTold 31 = .ok (.sipush 1000, 3) := by decide +kernel
theorem dX13_qTold_34 : decode cX13_qTold 34 = .ok (.isub, 1) := by decide +kernel
theorem dX13_qTold_35 : decode cX13_qTold 35 = .ok (.i2l, 1) := by decide +kernel
theorem dX13_qTold_36 : decode cX13_qTold 36 = .ok (.invokevirtual 419, 3) := by decide +kernel
theorem dX13_qTold_39 : decode cX13_qTold 39 = .ok (.goto 123, 3) := by decide +kernel
theorem dX13_qTold_42 : decode cX13_qTold 42 = .ok (.iload_n 3, 1) := by decide +kernel
theorem dX13_qTold_43 : decode cX13_qTold 43 = .ok (.bipush 60, 2) := by decide +kernel
theorem dX13_qTold_45 : decode cX13_qTold 45 = .ok (.if_icmp .lt 40, 3) := by decide +kernel
theorem dX13_qTold_48 : decode cX13_qTold 48 = .ok (.aload_n 0, 1) := by decide +kernel
theorem dX13_qTold_49 : decode cX13_qTold 49 = .ok (.getfield 248, 3) := by decide +kernel
theorem dX13_qTold_52 : decode cX13_qTold 52 = .ok (.aload_n 0, 1) := by decide +kernel
theorem dX13_qTold_53 : decode cX13_qTold 53 = .ok (.getfield 416, 3) := by decide +kernel
theorem dX13_qTold_56 : decode cX13_qTold 56 = .ok (.iconst 1, 1) := by decide +kernel
theorem dX13_qTold_57 : decode cX13_qTold 57 = .ok (.isub, 1) := by decide +kernel
theorem dX13_qTold_58 : decode cX13_qTold 58 = .ok (.aload_n 0, 1) := by decide +kernel
theorem dX13_qTold_59 : decode cX13_qTold 59 = .ok (.iload_n 3, 1) := by decide +kernel
theorem dX13_qTold_60 : decode cX13_qTold 60 = .ok (.bipush 60, 2) := by decide +kernel
theorem dX13_qTold_62 : decode cX13_qTold 62 = .ok (.isub, 1) := by decide +kernel
theorem dX13_qTold_63 : decode cX13_qTold 63 = .ok (.aload_n 0, 1) := by decide +kernel
theorem dX13_qTold_64 : decode cX13_qTold 64 = .ok (.getfield 248, 3) := by decide +kernel
theorem dX13_qTold_67 : decode cX13_qTold 67 = .ok (.aload_n 0, 1) := by decide +kernel
theorem dX13_qTold_68 : decode cX13_qTold 68 = .ok (.getfield 416, 3) := by decide +kernel
theorem dX13_qTold_71 : decode cX13_qTold 71 = .ok (.iconst 1, 1) := by decide +kernel
theorem dX13_qTold_72 : decode cX13_qTold 72 = .ok (.isub, 1) := by decide +kernel
theorem dX13_qTold_73 : decode cX13_qTold 73 = .ok (.laload, 1) := by decide +kernel
theorem dX13_qTold_74 : decode cX13_qTold 74 = .ok (.iload_n 1, 1) := by decide +kernel
theorem dX13_qTold_75 : decode cX13_qTold 75 = .ok (.invokevirtual 630, 3) := by decide +kernel
theorem dX13_qTold_78 : decode cX13_qTold 78 = .ok (.invokestatic 622, 3) := by decide +kernel
theorem dX13_qTold_81 : decode cX13_qTold 81 = .ok (.lastore, 1) := by decide +kernel
theorem dX13_qTold_82 : decode cX13_qTold 82 = .ok (.goto 80, 3) := by decide +kernel
theorem dX13_qTold_85 : decode cX13_qTold 85 = .ok (.iload_n 3, 1) := by decide +kernel
theorem dX13_qTold_86 : decode cX13_qTold 86 = .ok (.bipush 40, 2) := by decide +kernel
theorem dX13_qTold_88 : decode cX13_qTold 88 = .ok (.if_icmp .lt 22, 3) := by decide +kernel
theorem dX13_qTold_91 : decode cX13_qTold 91 = .ok (.aload_n 0, 1) := by decide +kernel
theorem dX13_qTold_92 : decode cX13_qTold 92 = .ok (.aload_n 0, 1) := by decide +kernel
theorem dX13_qTold_93 : decode cX13_qTold 93 = .ok (.iload_n 3, 1) := by decide +kernel
theorem dX13_qTold_94 : decode cX13_qTold 94 = .ok (.bipush 40, 2) := by decide +kernel
theorem dX13_qTold_96 : decode cX13_qTold 96 = .ok (.isub, 1) := by decide +kernel
theorem dX13_qTold_97 : decode cX13_qTold 97 = .ok (.iload_n 1, 1) := by decide +kernel
theorem dX13_qTold_98 : decode cX13_qTold 98 = .ok (.invokevirtual 423, 3) := by decide +kernel
theorem dX13_qTold_101 : decode cX13_qTold 101 = .ok (.invokestatic 622, 3) := by decide +kernel
theorem dX13_qTold_104 : decode cX13_qTold 104 = .ok (.invokevirtual 419, 3) := by decide +kernel
theorem dX13_qTold_107 : decode cX13_qTold 107 = .ok (.goto 55, 3) := by decide +kernel
theorem dX13_qTold_110 : decode cX13_qTold 110 = .ok (.iload_n 3, 1) := by decide +kernel
theorem dX13_qTold_111 : decode cX13_qTold 111 = .ok (.bipush 13, 2) := by decide +kernel
theorem dX13_qTold_113 : decode cX13_qTold 113 = .ok (.if_icmp .ne 11, 3) := by decide +kernel
theorem dX13_qTold_116 : decode cX13_qTold 116 = .ok (.aload_n 0, 1) := by decide +kernel
theorem dX13_qTold_117 : decode cX13_qTold 117 = .ok (.lconst 1, 1) := by decide +kernel
theorem dX13_qTold_118 : decode cX13_qTold 118 = .ok (.invokevirtual 419, 3) := by decide +kernel
theorem dX13_qTold_121 : decode cX13_qTold 121 = .ok (.goto 41, 3) := by decide +kernel
theorem dX13_qTold_124 : decode cX13_qTold 124 = .ok (.iload_n 3, 1) := by decide +kernel
theorem dX13_qTold_125 : decode cX13_qTold 125 = .ok (.bipush 12, 2) := by decide +kernel
theorem dX13_qTold_127 : decode cX13_qTold 127 = .ok (.if_icmp .ne 30, 3) := by decide +kernel
theorem dX13_qTold_130 : decode cX13_qTold 130 = .ok (.aload_n 0, 1) := by decide +kernel
theorem dX13_qTold_131 : decode cX13_qTold 131 = .ok (.getfield 248, 3) := by decide +kernel
theorem dX13_qTold_134 : decode cX13_qTold 134 = .ok (.aload_n 0, 1) := by decide +kernel
theorem dX13_qTold_135 : decode cX13_qTold 135 = .ok (.getfield 416, 3) := by decide +kernel
theorem dX13_qTold_138 : decode cX13_qTold 138 = .ok (.iconst 1, 1) := by decide +kernel
theorem dX13_qTold_139 : decode cX13_qTold 139 = .ok (.isub, 1) := by decide +kernel
theorem dX13_qTold_140 : decode cX13_qTold 140 = .ok (.lconst 1, 1) := by decide +kernel
theorem dX13_qTold_141 : decode cX13_qTold 141 = .ok (.aload_n 0, 1) := by decide +kernel
theorem dX13_qTold_142 : decode cX13_qTold 142 = .ok (.getfield 248, 3) := by decide +kernel
theorem dX13_qTold_145 : decode cX13_qTold 145 = .ok (.aload_n 0, 1) := by decide +kernel
theorem dX13_qTold_146 : decode cX13_qTold 146 = .ok (.getfield 416, 3) := by decide +kernel
theorem dX13_qTold_149 : decode cX13_qTold 149 = .ok (.iconst 1, 1) := by decide +kernel
theorem dX13_qTold_150 : decode cX13_qTold 150 = .ok (.isub, 1) := by decide +kernel
theorem dX13_qTold_151 : decode cX13_qTold 151 = .ok (.laload, 1) := by decide +kernel
theorem dX13_qTold_152 : decode cX13_qTold 152 = .ok (.lsub, 1) := by decide +kernel
theorem dX13_qTold_153 : decode cX13_qTold 153 = .ok (.lastore, 1) := by decide +kernel
theorem dX13_qTold_154 : decode cX13_qTold 154 = .ok (.goto 8, 3) := by decide +kernel
theorem dX13_qTold_157 : decode cX13_qTold 157 = .ok (.aload_n 0, 1) := by decide +kernel
theorem dX13_qTold_158 : decode cX13_qTold 158 = .ok (.iload_n 3, 1) := by decide +kernel
theorem dX13_qTold_159 : decode cX13_qTold 159 = .ok (.invokevirtual 427, 3) := by decide +kernel
theorem dX13_qTold_162 : decode cX13_qTold 162 = .ok (.iinc 2 1, 3) := by decide +kernel
theorem dX13_qTold_165 : decode cX13_qTold 165 = .ok (.goto (-158), 3) := by decide +kernel
theorem dX13_qTold_168 : decode cX13_qTold 168 = .ok (.aload_n 0, 1) := by decide +kernel
theorem dX13_qTold_169 : decode cX13_qTold 169 = .ok (.getfield 248, 3) := by decide +kernel
theorem dX13_qTold_172 : decode cX13_qTold 172 = .ok (.iconst 0, 1) := by decide +kernel
theorem dX13_qTold_173 : decode cX13_qTold 173 = .ok (.laload, 1) := by decide +kernel
theorem dX13_qTold_174 : decode cX13_qTold 174 = .ok (.lreturn, 1) := by decide +kernel
theorem bX13_qTold_0 {d : Nat}  {v1 : Int32} {I : Ii} {J : Jj} {K : KL}
    (h : GoL wM (d + 1) mX13_qTold 7 [(0, .ref (0)), (1, .int (v1)), (2, .int (0))] [] (u2 I 0 100 0) J K) :
    GoL wM (d + 1) mX13_qTold 0 [(0, .ref (0)), (1, .int (v1))] [] I J K :=
  (g_aload_n dX13_qTold_0 0 0 rfl rfl (g_iconst dX13_qTold_1 kc_0 (g_putI dX13_qTold_2 fl_X13_416 rfl rfl obM_0 (g_iconst dX13_qTold_5 kc_0 (g_istore_n dX13_qTold_6 rfl (by decide) rfl (g_sub [1, 2, 0] rfl h))))))
theorem bX13_qTold_7 {d : Nat}  {v1 : Int32} {v2 : Int32} {I : Ii} {J : Jj} {K : KL}
    (h : (((I 0 94) ≤ v2) → (K (J 77 (0 : Int32).toNatClampNeg) I J)) ∧ ((¬ (I 0 94) ≤ v2) → (vp_in (v2) 1700 ∧ ((((I 75 v2.toNatClampNeg) < 1000) → ((((I 75 v2.toNatClampNeg) < 60) → ((((I 75 v2.toNatClampNeg) < 40) → (((¬ (I 75 v2.toNatClampNeg) = 13) → (((¬ (I 75 v2.toNatClampNeg) = 12) → (CalV wM d mX13_qJoins [.ref (0), .int (I 75 v2.toNatClampNeg)] I J (fun I9 J10 => (GoL wM (d + 1) mX13_qTold 7 [(0, .ref (0)), (1, .int (v1)), (2, .int (v2 + 1))] [] I9 J10 K)))) ∧ (((I 75 v2.toNatClampNeg) = 12) → (vp_in ((I 0 100) - 1) 1700 ∧ (GoL wM (d + 1) mX13_qTold 7 [(0, .ref (0)), (1, .int (v1)), (2, .int (v2 + 1))] [] I (w2 J 77 ((I 0 100) - 1).toNatClampNeg (1 - (J 77 ((I 0 100) - 1).toNatClampNeg))) K))))) ∧ (((I 75 v2.toNatClampNeg) = 13) → (CalV wM d mX13_qPuts [.ref (0), .long (1)] I J (fun I14 J15 => (GoL wM (d + 1) mX13_qTold 7 [(0, .ref (0)), (1, .int (v1)), (2, .int (v2 + 1))] [] I14 J15 K)))))) ∧ ((¬ (I 75 v2.toNatClampNeg) < 40) → (CalL wM d mX13_qPartOf [.ref (0), .int ((I 75 v2.toNatClampNeg) - 40), .int (v1)] I J (fun x19 I17 J18 => (CalL wM d mX13_qClip [.long (x19)] I17 J18 (fun x22 I20 J21 => (CalV wM d mX13_qPuts [.ref (0), .long (x22)] I20 J21 (fun I23 J24 => (GoL wM (d + 1) mX13_qTold 7 [(0, .ref (0)), (1, .int (v1)), (2, .int (v2 + 1))] [] I23 J24 K)))))))))) ∧ ((¬ (I 75 v2.toNatClampNeg) < 60) → (vp_in ((I 0 100) - 1) 1700 ∧ (CalL wM d mX13_qOf [.ref (0), .int ((I 75 v2.toNatClampNeg) - 60), .long (J 77 ((I 0 100) - 1).toNatClampNeg), .int (v1)] I J (fun x31 I29 J30 => (CalL wM d mX13_qClip [.long (x31)] I29 J30 (fun x34 I32 J33 => (GoL wM (d + 1) mX13_qTold 7 [(0, .ref (0)), (1, .int (v1)), (2, .int (v2 + 1))] [] I32 (w2 J33 77 ((I 0 100) - 1).toNatClampNeg x34) K))))))))) ∧ ((¬ (I 75 v2.toNatClampNeg) < 1000) → (CalV wM d mX13_qPuts [.ref (0), .long (((I 75 v2.toNatClampNeg) - 1000).toInt64)] I J (fun I38 J39 => (GoL wM (d + 1) mX13_qTold 7 [(0, .ref (0)), (1, .int (v1)), (2, .int (v2 + 1))] [] I38 J39 K)))))))) :
    GoL wM (d + 1) mX13_qTold 7 [(0, .ref (0)), (1, .int (v1)), (2, .int (v2))] [] I J K :=
  (g_iload_n dX13_qTold_7 2 2 rfl rfl (g_aload_n dX13_qTold_8 0 0 rfl rfl (g_getI dX13_qTold_9 fl_X13_342 rfl obM_0 (g_icmp_ge dX13_qTold_12 rfl (fun q1 => (g_aload_n dX13_qTold_168 0 0 rfl rfl (g_getP dX13_qTold_169 fl_X13_248 rfl obM_0 rfl (g_iconst dX13_qTold_172 kc_0 (g_lald dX13_qTold_173 arM_77 (by unfold vp_in; decide) (g_lreturn dX13_qTold_174 rfl ⟨_, rfl, (h.1 q1)⟩)))))) (fun q1 => (g_aload_n dX13_qTold_15 0 0 rfl rfl (g_getP dX13_qTold_16 fl_X13_242 rfl obM_0 rfl (g_iload_n dX13_qTold_19 2 2 rfl rfl (have b3 := (h.2 q1).1; g_iald dX13_qTold_20 arM_75 b3 (g_istore_n dX13_qTold_21 rfl (by decide) rfl (g_iload_n dX13_qTold_22 0 3 rfl rfl (g_sipush dX13_qTold_23 ks_1000 (g_icmp_lt dX13_qTold_26 rfl (fun q4 => (g_iload_n dX13_qTold_42 0 3 rfl rfl (g_bipush dX13_qTold_43 kb_60 (g_icmp_lt dX13_qTold_45 rfl (fun q5 => (g_iload_n dX13_qTold_85 0 3 rfl rfl (g_bipush dX13_qTold_86 kb_40 (g_icmp_lt dX13_qTold_88 rfl (fun q6 => (g_iload_n dX13_qTold_110 0 3 rfl rfl (g_bipush dX13_qTold_111 kb_13 (g_icmp_ne dX13_qTold_113 rfl (fun q7 => (g_iload_n dX13_qTold_124 0 3 rfl rfl (g_bipush dX13_qTold_125 kb_12 (g_icmp_ne dX13_qTold_127 rfl (fun q8 => (g_aload_n dX13_qTold_157 1 0 rfl rfl (g_iload_n dX13_qTold_158 0 3 rfl rfl (g_callvV dX13_qTold_159 ml_X13_427 md_X13_qJoins mv_X13_qJoins obM_0 rfl rfl rfl (Nat.le_of_ble_eq_true rfl) (CalV.mono ((((((h.2 q1).2.1 q4).1 q5).1 q6).1 q7).1 q8) (fun I9 J10 h11 => (g_iinc dX13_qTold_162 3 rfl rfl (by decide) rfl (g_goto dX13_qTold_165 rfl (g_sub [2, 3, 0] rfl h11))))))))) (fun q8 => (g_aload_n dX13_qTold_130 1 0 rfl rfl (g_getP dX13_qTold_131 fl_X13_248 rfl obM_0 rfl (g_aload_n dX13_qTold_134 1 0 rfl rfl (g_getI dX13_qTold_135 fl_X13_416 rfl obM_0 (g_iconst dX13_qTold_138 kc_1 (g_isub dX13_qTold_139 (g_lconst dX13_qTold_140 kq_1 (g_aload_n dX13_qTold_141 1 0 rfl rfl (g_getP dX13_qTold_142 fl_X13_248 rfl obM_0 rfl (g_aload_n dX13_qTold_145 1 0 rfl rfl (g_getI dX13_qTold_146 fl_X13_416 rfl obM_0 (g_iconst dX13_qTold_149 kc_1 (g_isub dX13_qTold_150 (have b12 := ((((((h.2 q1).2.1 q4).1 q5).1 q6).1 q7).2 q8).1; g_lald dX13_qTold_151 arM_77 b12 (g_lsub dX13_qTold_152 (g_last dX13_qTold_153 arM_77 b12 (g_goto dX13_qTold_154 rfl (g_iinc dX13_qTold_162 3 rfl rfl (by decide) rfl (g_goto dX13_qTold_165 rfl (g_sub [2, 3, 0] rfl ((((((h.2 q1).2.1 q4).1 q5).1 q6).1 q7).2 q8).2))))))))))))))))))))))))) (fun q7 => (g_aload_n dX13_qTold_116 1 0 rfl rfl (g_lconst dX13_qTold_117 kq_1 (g_callvV dX13_qTold_118 ml_X13_419 md_X13_qPuts mv_X13_qPuts obM_0 rfl rfl rfl (Nat.le_of_ble_eq_true rfl) (CalV.mono (((((h.2 q1).2.1 q4).1 q5).1 q6).2 q7) (fun I14 J15 h16 => (g_goto dX13_qTold_121 rfl (g_iinc dX13_qTold_162 3 rfl rfl (by decide) rfl (g_goto dX13_qTold_165 rfl (g_sub [2, 3, 0] rfl h16)))))))))))))) (fun q6 => (g_aload_n dX13_qTold_91 1 0 rfl rfl (g_aload_n dX13_qTold_92 1 0 rfl rfl (g_iload_n dX13_qTold_93 0 3 rfl rfl (g_bipush dX13_qTold_94 kb_40 (g_isub dX13_qTold_96 (g_iload_n dX13_qTold_97 2 1 rfl rfl (g_callvL dX13_qTold_98 ml_X13_423 md_X13_qPartOf mv_X13_qPartOf obM_0 rfl rfl rfl (Nat.le_of_ble_eq_true rfl) (CalL.mono ((((h.2 q1).2.1 q4).1 q5).2 q6) (fun x19 I17 J18 h27 => (g_callsL dX13_qTold_101 ml_X13_622 md_X13_qClip ms_X13_qClip rfl rfl (Nat.le_of_ble_eq_true rfl) (CalL.mono h27 (fun x22 I20 J21 h26 => (g_callvV dX13_qTold_104 ml_X13_419 md_X13_qPuts mv_X13_qPuts obM_0 rfl rfl rfl (Nat.le_of_ble_eq_true rfl) (CalV.mono h26 (fun I23 J24 h25 => (g_goto dX13_qTold_107 rfl (g_iinc dX13_qTold_162 3 rfl rfl (by decide) rfl (g_goto dX13_qTold_165 rfl (g_sub [2, 3, 0] rfl h25)))))))))))))))))))))))) (fun q5 => (g_aload_n dX13_qTold_48 1 0 rfl rfl (g_getP dX13_qTold_49 fl_X13_248 rfl obM_0 rfl (g_aload_n dX13_qTold_52 1 0 rfl rfl (g_getI dX13_qTold_53 fl_X13_416 rfl obM_0 (g_iconst dX13_qTold_56 kc_1 (g_isub dX13_qTold_57 (g_aload_n dX13_qTold_58 1 0 rfl rfl (g_iload_n dX13_qTold_59 0 3 rfl rfl (g_bipush dX13_qTold_60 kb_60 (g_isub dX13_qTold_62 (g_aload_n dX13_qTold_63 1 0 rfl rfl (g_getP dX13_qTold_64 fl_X13_248 rfl obM_0 rfl (g_aload_n dX13_qTold_67 1 0 rfl rfl (g_getI dX13_qTold_68 fl_X13_416 rfl obM_0 (g_iconst dX13_qTold_71 kc_1 (g_isub dX13_qTold_72 (have b28 := (((h.2 q1).2.1 q4).2 q5).1; g_lald dX13_qTold_73 arM_77 b28 (g_iload_n dX13_qTold_74 2 1 rfl rfl (g_callvL dX13_qTold_75 ml_X13_630 md_X13_qOf mv_X13_qOf obM_0 rfl rfl rfl (Nat.le_of_ble_eq_true rfl) (CalL.mono (((h.2 q1).2.1 q4).2 q5).2 (fun x31 I29 J30 h37 => (g_callsL dX13_qTold_78 ml_X13_622 md_X13_qClip ms_X13_qClip rfl rfl (Nat.le_of_ble_eq_true rfl) (CalL.mono h37 (fun x34 I32 J33 h36 => (g_last dX13_qTold_81 arM_77 b28 (g_goto dX13_qTold_82 rfl (g_iinc dX13_qTold_162 3 rfl rfl (by decide) rfl (g_goto dX13_qTold_165 rfl (g_sub [2, 3, 0] rfl h36)))))))))))))))))))))))))))))))))) (fun q4 => (g_aload_n dX13_qTold_29 1 0 rfl rfl (g_iload_n dX13_qTold_30 0 3 rfl rfl (g_sipush dX13_qTold_31 ks_1000 (g_isub dX13_qTold_34 (g_i2l dX13_qTold_35 (g_callvV dX13_qTold_36 ml_X13_419 md_X13_qPuts mv_X13_qPuts obM_0 rfl rfl rfl (Nat.le_of_ble_eq_true rfl) (CalV.mono ((h.2 q1).2.2 q4) (fun I38 J39 h40 => (g_goto dX13_qTold_39 rfl (g_iinc dX13_qTold_162 3 rfl rfl (by decide) rfl (g_goto dX13_qTold_165 rfl (g_sub [2, 3, 0] rfl h40))))))))))))))))))))))))))
theorem dX13_qOf_0 : decode cX13_qOf 0 = .ok (.iload_n 1, 1) := by decide +kernel
theorem dX13_qOf_1 : decode cX13_qOf 1 = .ok (.lookupswitch 11 #[], 11) := by decide +kernel
theorem dX13_qOf_12 : decode cX13_qOf 12 = .ok (.lload_n 2, 1) := by decide +kernel
theorem dX13_qOf_13 : decode cX13_qOf 13 = .ok (.lconst 0, 1) := by decide +kernel
theorem dX13_qOf_14 : decode cX13_qOf 14 = .ok (.aload_n 0, 1) := by decide +kernel
theorem dX13_qOf_15 : decode cX13_qOf 15 = .ok (.invokevirtual 401, 3) := by decide +kernel
theorem dX13_qOf_18 : decode cX13_qOf 18 = .ok (.iconst 1, 1) := by decide +kernel
theorem dX13_qOf_19 : decode cX13_qOf 19 = .ok (.isub, 1) := by decide +kernel
theorem dX13_qOf_20 : decode cX13_qOf 20 = .ok (.i2l, 1) := by decide +kernel
theorem dX13_qOf_21 : decode cX13_qOf 21 = .ok (.invokestatic 297, 3) := by decide +kernel
theorem dX13_qOf_24 : decode cX13_qOf 24 = .ok (.ifCond .eq 18, 3) := by decide +kernel
theorem dX13_qOf_27 : decode cX13_qOf 27 = .ok (.aload_n 0, 1) := by decide +kernel
theorem dX13_qOf_28 : decode cX13_qOf 28 = .ok (.lload_n 2, 1) := by decide +kernel
theorem dX13_qOf_29 : decode cX13_qOf 29 = .ok (.l2i, 1) := by decide +kernel
theorem dX13_qOf_30 : decode cX13_qOf 30 = .ok (.invokevirtual 404, 3) := by decide +kernel
theorem dX13_qOf_33 : decode cX13_qOf 33 = .ok (.iload 4, 2) := by decide +kernel
theorem dX13_qOf_35 : decode cX13_qOf 35 = .ok (.ishr, 1) := by decide +kernel
theorem dX13_qOf_36 : decode cX13_qOf 36 = .ok (.iconst 1, 1) := by decide +kernel
theorem dX13_qOf_37 : decode cX13_qOf 37 = .ok (.iand, 1) := by decide +kernel
theorem dX13_qOf_38 : decode cX13_qOf 38 = .ok (.i2l, 1) := by decide +kernel
theorem dX13_qOf_39 : decode cX13_qOf 39 = .ok (.goto 4, 3) := by decide +kernel
theorem dX13_qOf_42 : decode cX13_qOf 42 = .ok (.lconst 0, 1) := by decide +kernel
theorem dX13_qOf_43 : decode cX13_qOf 43 = .ok (.lreturn, 1) := by decide +kernel
theorem bX13_qOf_0 {d : Nat}  {v1 : Int32} {v2 : Int64} {v4 : Int32} {I : Ii} {J : Jj} {K : KL}
    (h : CalI wM d mX13_personMany [.ref (0)] I J (fun x3 I1 J2 => (CalI wM d mX13_isIn [.long (v2), .long (0), .long ((x3 - 1).toInt64)] I1 J2 (fun x6 I4 J5 => (((x6 = 0) → (K (0) I4 J5)) ∧ ((¬ x6 = 0) → (CalI wM d mX13_rightOf [.ref (0), .int (v2.toInt32)] I4 J5 (fun x10 I8 J9 => (K (((x10 >>> (v4 &&& 31)) &&& 1).toInt64) I8 J9))))))))) :
    GoL wM (d + 1) mX13_qOf 0 [(0, .ref (0)), (1, .int (v1)), (2, .long (v2)), (4, .int (v4))] [] I J K :=
  (g_iload_n dX13_qOf_0 1 1 rfl rfl (g_lookup dX13_qOf_1 rfl rfl rfl (g_lload_n dX13_qOf_12 2 2 rfl rfl (g_lconst dX13_qOf_13 kq_0 (g_aload_n dX13_qOf_14 0 0 rfl rfl (g_callvI dX13_qOf_15 ml_X13_401 md_X13_personMany mv_X13_personMany obM_0 rfl rfl rfl (Nat.le_of_ble_eq_true rfl) (CalI.mono h (fun x3 I1 J2 h13 => (g_iconst dX13_qOf_18 kc_1 (g_isub dX13_qOf_19 (g_i2l dX13_qOf_20 (g_callsI dX13_qOf_21 ml_X13_297 md_X13_isIn ms_X13_isIn rfl rfl (Nat.le_of_ble_eq_true rfl) (CalI.mono h13 (fun x6 I4 J5 h12 => (g_if_eq dX13_qOf_24 rfl (fun q7 => (g_lconst dX13_qOf_42 kq_0 (g_lreturn dX13_qOf_43 rfl ⟨_, rfl, (h12.1 q7)⟩))) (fun q7 => (g_aload_n dX13_qOf_27 0 0 rfl rfl (g_lload_n dX13_qOf_28 2 2 rfl rfl (g_l2i dX13_qOf_29 (g_callvI dX13_qOf_30 ml_X13_404 md_X13_rightOf mv_X13_rightOf obM_0 rfl rfl rfl (Nat.le_of_ble_eq_true rfl) (CalI.mono (h12.2 q7) (fun x10 I8 J9 h11 => (g_iload dX13_qOf_33 3 rfl (g_ishr dX13_qOf_35 (g_iconst dX13_qOf_36 kc_1 (g_iand dX13_qOf_37 (g_i2l dX13_qOf_38 (g_goto dX13_qOf_39 rfl (g_lreturn dX13_qOf_43 rfl ⟨_, rfl, h11⟩)))))))))))))))))))))))))))))
theorem dX13_qTakes_0 : decode cX13_qTakes 0 = .ok (.iload_n 1, 1) := by decide +kernel
theorem dX13_qTakes_1 : decode cX13_qTakes 1 = .ok (.iconst 3, 1) := by decide +kernel
theorem dX13_qTakes_2 : decode cX13_qTakes 2 = .ok (.if_icmp .ge 13, 3) := by decide +kernel
theorem dX13_qTakes_5 : decode cX13_qTakes 5 = .ok (.lload_n 2, 1) := by decide +kernel
theorem dX13_qTakes_6 : decode cX13_qTakes 6 = .ok (.lconst 1, 1) := by decide +kernel
theorem dX13_qTakes_7 : decode cX13_qTakes 7 = .ok (.lcmp, 1) := by decide +kernel
theorem dX13_qTakes_8 : decode cX13_qTakes 8 = .ok (.ifCond .ne 7, 3) := by decide +kernel
theorem dX13_qTakes_11 : decode cX13_qTakes 11 = .ok (.iconst 1, 1) := by decide +kernel
theorem dX13_qTakes_12 : decode cX13_qTakes 12 = .ok (.goto 4, 3) := by decide +kernel
theorem dX13_qTakes_15 : decode cX13_qTakes 15 = .ok (.iconst 0, 1) := by decide +kernel
theorem dX13_qTakes_16 : decode cX13_qTakes 16 = .ok (.istore 5, 2) := by decide +kernel
theorem dX13_qTakes_18 : decode cX13_qTakes 18 = .ok (.iload_n 1, 1) := by decide +kernel
theorem dX13_qTakes_19 : decode cX13_qTakes 19 = .ok (.ifCond .ne 19, 3) := by decide +kernel
theorem dX13_qTakes_22 : decode cX13_qTakes 22 = .ok (.iload 5, 2) := by decide +kernel
theorem dX13_qTakes_24 : decode cX13_qTakes 24 = .ok (.ifCond .eq 14, 3) := by decide +kernel
theorem dX13_qTakes_27 : decode cX13_qTakes 27 = .ok (.aload_n 0, 1) := by decide +kernel
theorem dX13_qTakes_28 : decode cX13_qTakes 28 = .ok (.getfield 634, 3) := by decide +kernel
theorem dX13_qTakes_31 : decode cX13_qTakes 31 = .ok (.ldc2_w 637, 3) := by decide +kernel
theorem dX13_qTakes_34 : decode cX13_qTakes 34 = .ok (.lcmp, 1) := by decide +kernel
theorem dX13_qTakes_35 : decode cX13_qTakes 35 = .ok (.ifCond .eq 13, 3) := by decide +kernel
theorem dX13_qTakes_38 : decode cX13_qTakes 38 = .ok (.iload_n 1, 1) := by decide +kernel
theorem dX13_qTakes_39 : decode cX13_qTakes 39 = .ok (.iconst 1, 1) := by decide +kernel
theorem dX13_qTakes_40 : decode cX13_qTakes 40 = .ok (.if_icmp .ne 15, 3) := by decide +kernel
theorem dX13_qTakes_43 : decode cX13_qTakes 43 = .ok (.iload 5, 2) := by decide +kernel
theorem dX13_qTakes_45 : decode cX13_qTakes 45 = .ok (.ifCond .eq 10, 3) := by decide +kernel
theorem dX13_qTakes_48 : decode cX13_qTakes 48 = .ok (.aload_n 0, 1) := by decide +kernel
theorem dX13_qTakes_49 : decode cX13_qTakes 49 = .ok (.iload 4, 2) := by decide +kernel
theorem dX13_qTakes_51 : decode cX13_qTakes 51 = .ok (.i2l, 1) := by decide +kernel
theorem dX13_qTakes_52 : decode cX13_qTakes 52 = .ok (.putfield 634, 3) := by decide +kernel
theorem dX13_qTakes_55 : decode cX13_qTakes 55 = .ok (.iload_n 1, 1) := by decide +kernel
theorem dX13_qTakes_56 : decode cX13_qTakes 56 = .ok (.iconst 2, 1) := by decide +kernel
theorem dX13_qTakes_57 : decode cX13_qTakes 57 = .ok (.if_icmp .ne 18, 3) := by decide +kernel
theorem dX13_qTakes_60 : decode cX13_qTakes 60 = .ok (.iload 5, 2) := by decide +kernel
theorem dX13_qTakes_62 : decode cX13_qTakes 62 = .ok (.ifCond .eq 13, 3) := by decide +kernel
theorem dX13_qTakes_65 : decode cX13_qTakes 65 = .ok (.aload_n 0, 1) := by decide +kernel
theorem dX13_qTakes_66 : decode cX13_qTakes 66 = .ok (.dup, 1) := by decide +kernel
theorem dX13_qTakes_67 : decode cX13_qTakes 67 = .ok (.getfield 634, 3) := by decide +kernel
theorem dX13_qTakes_70 : decode cX13_qTakes 70 = .ok (.lconst 1, 1) := by decide +kernel
theorem dX13_qTakes_71 : decode cX13_qTakes 71 = .ok (.ladd, 1) := by decide +kernel
theorem dX13_qTakes_72 : decode cX13_qTakes 72 = .ok (.putfield 634, 3) := by decide +kernel
theorem dX13_qTakes_75 : decode cX13_qTakes 75 = .ok (.iload_n 1, 1) := by decide +kernel
theorem dX13_qTakes_76 : decode cX13_qTakes 76 = .ok (.iconst 3, 1) := by decide +kernel
theorem dX13_qTakes_77 : decode cX13_qTakes 77 = .ok (.if_icmp .ne 13, 3) := by decide +kernel
theorem dX13_qTakes_80 : decode cX13_qTakes 80 = .ok (.aload_n 0, 1) := by decide +kernel
theorem dX13_qTakes_81 : decode cX13_qTakes 81 = .ok (.dup, 1) := by decide +kernel
theorem dX13_qTakes_82 : decode cX13_qTakes 82 = .ok (.getfield 634, 3) := by decide +kernel
theorem dX13_qTakes_85 : decode cX13_qTakes 85 = .ok (.lload_n 2, 1) := by decide +kernel
theorem dX13_qTakes_86 : decode cX13_qTakes 86 = .ok (.ladd, 1) := by decide +kernel
theorem dX13_qTakes_87 : decode cX13_qTakes 87 = .ok (.putfield 634, 3) := by decide +kernel
theorem dX13_qTakes_90 : decode cX13_qTakes 90 = .ok (.iload_n 1, 1) := by decide +kernel
theorem dX13_qTakes_91 : decode cX13_qTakes 91 = .ok (.iconst 3, 1) := by decide +kernel
theorem dX13_qTakes_92 : decode cX13_qTakes 92 = .ok (.if_icmp .le 41, 3) := by decide +kernel
theorem dX13_qTakes_95 : decode cX13_qTakes 95 = .ok (.aload_n 0, 1) := by decide +kernel
theorem dX13_qTakes_96 : decode cX13_qTakes 96 = .ok (.getfield 639, 3) := by decide +kernel
theorem dX13_qTakes_99 : decode cX13_qTakes 99 = .ok (.ifCond .ne 29, 3) := by decide +kernel
theorem dX13_qTakes_102 : decode cX13_qTakes 102 = .ok (.iload_n 1, 1) := by decide +kernel
theorem dX13_qTakes_103 : decode cX13_qTakes 103 = .ok (.iconst 4, 1) := by decide +kernel
theorem dX13_qTakes_104 : decode cX13_qTakes 104 = .ok (.if_icmp .ne 15, 3) := by decide +kernel
theorem dX13_qTakes_107 : decode cX13_qTakes 107 = .ok (.lload_n 2, 1) := by decide +kernel
theorem dX13_qTakes_108 : decode cX13_qTakes 108 = .ok (.aload_n 0, 1) := by decide +kernel
theorem dX13_qTakes_109 : decode cX13_qTakes 109 = .ok (.getfield 634, 3) := by decide +kernel
theorem dX13_qTakes_112 : decode cX13_qTakes 112 = .ok (.lcmp, 1) := by decide +kernel
theorem dX13_qTakes_113 : decode cX13_qTakes 113 = .ok (.ifCond .le 20, 3) := by decide +kernel
theorem dX13_qTakes_116 : decode cX13_qTakes 116 = .ok (.goto 12, 3) := by decide +kernel
theorem dX13_qTakes_119 : decode cX13_qTakes 119 = .ok (.lload_n 2, 1) := by decide +kernel
theorem dX13_qTakes_120 : decode cX13_qTakes 120 = .ok (.aload_n 0, 1) := by decide +kernel
theorem dX13_qTakes_121 : decode cX13_qTakes 121 = .ok (.getfield 634, 3) := by decide +kernel
theorem dX13_qTakes_124 : decode cX13_qTakes 124 = .ok (.lcmp, 1) := by decide +kernel
theorem dX13_qTakes_125 : decode cX13_qTakes 125 = .ok (.ifCond .ge 8, 3) := by decide +kernel
theorem dX13_qTakes_128 : decode cX13_qTakes 128 = .ok (.aload_n 0, 1) := by decide +kernel
theorem dX13_qTakes_129 : decode cX13_qTakes 129 = .ok (.lload_n 2, 1) := by decide +kernel
theorem dX13_qTakes_130 : decode cX13_qTakes 130 = .ok (.putfield 634, 3) := by decide +kernel
theorem dX13_qTakes_133 : decode cX13_qTakes 133 = .ok (.aload_n 0, 1) := by decide +kernel
theorem dX13_qTakes_134 : decode cX13_qTakes 134 = .ok (.iconst 0, 1) := by decide +kernel
theorem dX13_qTakes_135 : decode cX13_qTakes 135 = .ok (.putfield 639, 3) := by decide +kernel
theorem dX13_qTakes_138 : decode cX13_qTakes 138 = .ok (.return_, 1) := by decide +kernel
theorem bX13_qTakes_0 {d : Nat}  {v1 : Int32} {v2 : Int64} {v4 : Int32} {I : Ii} {J : Jj} {K : KV}
    (h : ((3 ≤ v1) → (GoV wM d mX13_qTakes 15 [(0, .ref (0)), (1, .int (v1)), (2, .long (v2)), (4, .int (v4))] [] I J K)) ∧ ((¬ 3 ≤ v1) → (((¬ (lg_cmp v2 1) = 0) → (GoV wM d mX13_qTakes 15 [(0, .ref (0)), (1, .int (v1)), (2, .long (v2)), (4, .int (v4))] [] I J K)) ∧ (((lg_cmp v2 1) = 0) → (GoV wM d mX13_qTakes 16 [(0, .ref (0)), (1, .int (v1)), (2, .long (v2)), (4, .int (v4))] [.int (1)] I J K))))) :
    GoV wM d mX13_qTakes 0 [(0, .ref (0)), (1, .int (v1)), (2, .long (v2)), (4, .int (v4))] [] I J K :=
  (g_iload_n dX13_qTakes_0 1 1 rfl rfl (g_iconst dX13_qTakes_1 kc_3 (g_icmp_ge dX13_qTakes_2 rfl (fun q1 => (h.1 q1)) (fun q1 => (g_lload_n dX13_qTakes_5 2 2 rfl rfl (g_lconst dX13_qTakes_6 kq_1 (g_lcmp dX13_qTakes_7 (g_if_ne dX13_qTakes_8 rfl (fun q2 => ((h.2 q1).1 q2)) (fun q2 => (g_iconst dX13_qTakes_11 kc_1 (g_goto dX13_qTakes_12 rfl ((h.2 q1).2 q2))))))))))))
theorem bX13_qTakes_15 {d : Nat}  {v1 : Int32} {v2 : Int64} {v4 : Int32} {I : Ii} {J : Jj} {K : KV}
    (h : GoV wM d mX13_qTakes 16 [(0, .ref (0)), (1, .int (v1)), (2, .long (v2)), (4, .int (v4))] [.int (0)] I J K) :
    GoV wM d mX13_qTakes 15 [(0, .ref (0)), (1, .int (v1)), (2, .long (v2)), (4, .int (v4))] [] I J K :=
  (g_iconst dX13_qTakes_15 kc_0 h)
theorem bX13_qTakes_16 {d : Nat}  {v1 : Int32} {v2 : Int64} {v4 : Int32} {s0 : Int32} {I : Ii} {J : Jj} {K : KV}
    (h : ((¬ v1 = 0) → (GoV wM d mX13_qTakes 38 [(0, .ref (0)), (1, .int (v1)), (2, .long (v2)), (4, .int (v4)), (5, .int (s0))] [] I J K)) ∧ ((v1 = 0) → (((s0 = 0) → (GoV wM d mX13_qTakes 38 [(0, .ref (0)), (1, .int (v1)), (2, .long (v2)), (4, .int (v4)), (5, .int (s0))] [] I J K)) ∧ ((¬ s0 = 0) → ((((lg_cmp (J 0 101) ((-1))) = 0) → (GoV wM d mX13_qTakes 48 [(0, .ref (0)), (1, .int (v1)), (2, .long (v2)), (4, .int (v4)), (5, .int (s0))] [] I J K)) ∧ ((¬ (lg_cmp (J 0 101) ((-1))) = 0) → (GoV wM d mX13_qTakes 38 [(0, .ref (0)), (1, .int (v1)), (2, .long (v2)), (4, .int (v4)), (5, .int (s0))] [] I J K))))))) :
    GoV wM d mX13_qTakes 16 [(0, .ref (0)), (1, .int (v1)), (2, .long (v2)), (4, .int (v4))] [.int (s0)] I J K :=
  (g_istore dX13_qTakes_16 (by decide) rfl (g_iload_n dX13_qTakes_18 2 1 rfl rfl (g_if_ne dX13_qTakes_19 rfl (fun q1 => (g_sub [1, 2, 3, 4, 0] rfl (h.1 q1))) (fun q1 => (g_iload dX13_qTakes_22 0 rfl (g_if_eq dX13_qTakes_24 rfl (fun q2 => (g_sub [1, 2, 3, 4, 0] rfl ((h.2 q1).1 q2))) (fun q2 => (g_aload_n dX13_qTakes_27 1 0 rfl rfl (g_getJ dX13_qTakes_28 fl_X13_634 rfl obM_0 (g_ldc2 dX13_qTakes_31 kl_X13_637 (g_lcmp dX13_qTakes_34 (g_if_eq dX13_qTakes_35 rfl (fun q3 => (g_sub [1, 2, 3, 4, 0] rfl (((h.2 q1).2 q2).1 q3))) (fun q3 => (g_sub [1, 2, 3, 4, 0] rfl (((h.2 q1).2 q2).2 q3)))))))))))))))
theorem bX13_qTakes_38 {d : Nat}  {v1 : Int32} {v2 : Int64} {v4 : Int32} {v5 : Int32} {I : Ii} {J : Jj} {K : KV}
    (h : ((¬ v1 = 1) → (GoV wM d mX13_qTakes 55 [(0, .ref (0)), (1, .int (v1)), (2, .long (v2)), (5, .int (v5))] [] I J K)) ∧ ((v1 = 1) → (((v5 = 0) → (GoV wM d mX13_qTakes 55 [(0, .ref (0)), (1, .int (v1)), (2, .long (v2)), (5, .int (v5))] [] I J K)) ∧ ((¬ v5 = 0) → (GoV wM d mX13_qTakes 48 [(0, .ref (0)), (1, .int (v1)), (2, .long (v2)), (4, .int (v4)), (5, .int (v5))] [] I J K))))) :
    GoV wM d mX13_qTakes 38 [(0, .ref (0)), (1, .int (v1)), (2, .long (v2)), (4, .int (v4)), (5, .int (v5))] [] I J K :=
  (g_iload_n dX13_qTakes_38 1 1 rfl rfl (g_iconst dX13_qTakes_39 kc_1 (g_icmp_ne dX13_qTakes_40 rfl (fun q1 => (g_sub [0, 1, 2, 4] rfl (h.1 q1))) (fun q1 => (g_iload dX13_qTakes_43 4 rfl (g_if_eq dX13_qTakes_45 rfl (fun q2 => (g_sub [0, 1, 2, 4] rfl ((h.2 q1).1 q2))) (fun q2 => ((h.2 q1).2 q2))))))))
theorem bX13_qTakes_48 {d : Nat}  {v1 : Int32} {v2 : Int64} {v4 : Int32} {v5 : Int32} {I : Ii} {J : Jj} {K : KV}
    (h : GoV wM d mX13_qTakes 55 [(0, .ref (0)), (1, .int (v1)), (2, .long (v2)), (5, .int (v5))] [] I (w2 J 0 101 v4.toInt64) K) :
    GoV wM d mX13_qTakes 48 [(0, .ref (0)), (1, .int (v1)), (2, .long (v2)), (4, .int (v4)), (5, .int (v5))] [] I J K :=
  (g_aload_n dX13_qTakes_48 0 0 rfl rfl (g_iload dX13_qTakes_49 3 rfl (g_i2l dX13_qTakes_51 (g_putJ dX13_qTakes_52 fl_X13_634 rfl rfl obM_0 (g_sub [0, 1, 2, 4] rfl h)))))
theorem bX13_qTakes_55 {d : Nat}  {v1 : Int32} {v2 : Int64} {v5 : Int32} {I : Ii} {J : Jj} {K : KV}
    (h : ((¬ v1 = 2) → (GoV wM d mX13_qTakes 75 [(0, .ref (0)), (1, .int (v1)), (2, .long (v2))] [] I J K)) ∧ ((v1 = 2) → (((v5 = 0) → (GoV wM d mX13_qTakes 75 [(0, .ref (0)), (1, .int (v1)), (2, .long (v2))] [] I J K)) ∧ ((¬ v5 = 0) → (GoV wM d mX13_qTakes 75 [(0, .ref (0)), (1, .int (v1)), (2, .long (v2))] [] I (w2 J 0 101 ((J 0 101) + 1)) K))))) :
    GoV wM d mX13_qTakes 55 [(0, .ref (0)), (1, .int (v1)), (2, .long (v2)), (5, .int (v5))] [] I J K :=
  (g_iload_n dX13_qTakes_55 1 1 rfl rfl (g_iconst dX13_qTakes_56 kc_2 (g_icmp_ne dX13_qTakes_57 rfl (fun q1 => (g_sub [0, 1, 2] rfl (h.1 q1))) (fun q1 => (g_iload dX13_qTakes_60 3 rfl (g_if_eq dX13_qTakes_62 rfl (fun q2 => (g_sub [0, 1, 2] rfl ((h.2 q1).1 q2))) (fun q2 => (g_aload_n dX13_qTakes_65 0 0 rfl rfl (g_dup dX13_qTakes_66 rfl (g_getJ dX13_qTakes_67 fl_X13_634 rfl obM_0 (g_lconst dX13_qTakes_70 kq_1 (g_ladd dX13_qTakes_71 (g_putJ dX13_qTakes_72 fl_X13_634 rfl rfl obM_0 (g_sub [0, 1, 2] rfl ((h.2 q1).2 q2)))))))))))))))
theorem bX13_qTakes_75 {d : Nat}  {v1 : Int32} {v2 : Int64} {I : Ii} {J : Jj} {K : KV}
    (h : ((¬ v1 = 3) → (GoV wM d mX13_qTakes 90 [(0, .ref (0)), (1, .int (v1)), (2, .long (v2))] [] I J K)) ∧ ((v1 = 3) → (GoV wM d mX13_qTakes 90 [(0, .ref (0)), (1, .int (v1)), (2, .long (v2))] [] I (w2 J 0 101 ((J 0 101) + v2)) K))) :
    GoV wM d mX13_qTakes 75 [(0, .ref (0)), (1, .int (v1)), (2, .long (v2))] [] I J K :=
  (g_iload_n dX13_qTakes_75 1 1 rfl rfl (g_iconst dX13_qTakes_76 kc_3 (g_icmp_ne dX13_qTakes_77 rfl (fun q1 => (h.1 q1)) (fun q1 => (g_aload_n dX13_qTakes_80 0 0 rfl rfl (g_dup dX13_qTakes_81 rfl (g_getJ dX13_qTakes_82 fl_X13_634 rfl obM_0 (g_lload_n dX13_qTakes_85 2 2 rfl rfl (g_ladd dX13_qTakes_86 (g_putJ dX13_qTakes_87 fl_X13_634 rfl rfl obM_0 (h.2 q1)))))))))))
theorem bX13_qTakes_90 {d : Nat}  {v1 : Int32} {v2 : Int64} {I : Ii} {J : Jj} {K : KV}
    (h : ((v1 ≤ 3) → (GoV wM d mX13_qTakes 133 [(0, .ref (0))] [] I J K)) ∧ ((¬ v1 ≤ 3) → (((¬ (I 0 102) = 0) → (GoV wM d mX13_qTakes 128 [(0, .ref (0)), (2, .long (v2))] [] I J K)) ∧ (((I 0 102) = 0) → (((¬ v1 = 4) → (((0 ≤ (lg_cmp v2 (J 0 101))) → (GoV wM d mX13_qTakes 133 [(0, .ref (0))] [] I J K)) ∧ ((¬ 0 ≤ (lg_cmp v2 (J 0 101))) → (GoV wM d mX13_qTakes 128 [(0, .ref (0)), (2, .long (v2))] [] I J K)))) ∧ ((v1 = 4) → ((((lg_cmp v2 (J 0 101)) ≤ 0) → (GoV wM d mX13_qTakes 133 [(0, .ref (0))] [] I J K)) ∧ ((¬ (lg_cmp v2 (J 0 101)) ≤ 0) → (GoV wM d mX13_qTakes 128 [(0, .ref (0)), (2, .long (v2))] [] I J K))))))))) :
    GoV wM d mX13_qTakes 90 [(0, .ref (0)), (1, .int (v1)), (2, .long (v2))] [] I J K :=
  (g_iload_n dX13_qTakes_90 1 1 rfl rfl (g_iconst dX13_qTakes_91 kc_3 (g_icmp_le dX13_qTakes_92 rfl (fun q1 => (g_sub [0] rfl (h.1 q1))) (fun q1 => (g_aload_n dX13_qTakes_95 0 0 rfl rfl (g_getI dX13_qTakes_96 fl_X13_639 rfl obM_0 (g_if_ne dX13_qTakes_99 rfl (fun q2 => (g_sub [0, 2] rfl ((h.2 q1).1 q2))) (fun q2 => (g_iload_n dX13_qTakes_102 1 1 rfl rfl (g_iconst dX13_qTakes_103 kc_4 (g_icmp_ne dX13_qTakes_104 rfl (fun q3 => (g_lload_n dX13_qTakes_119 2 2 rfl rfl (g_aload_n dX13_qTakes_120 0 0 rfl rfl (g_getJ dX13_qTakes_121 fl_X13_634 rfl obM_0 (g_lcmp dX13_qTakes_124 (g_if_ge dX13_qTakes_125 rfl (fun q4 => (g_sub [0] rfl ((((h.2 q1).2 q2).1 q3).1 q4))) (fun q4 => (g_sub [0, 2] rfl ((((h.2 q1).2 q2).1 q3).2 q4))))))))) (fun q3 => (g_lload_n dX13_qTakes_107 2 2 rfl rfl (g_aload_n dX13_qTakes_108 0 0 rfl rfl (g_getJ dX13_qTakes_109 fl_X13_634 rfl obM_0 (g_lcmp dX13_qTakes_112 (g_if_le dX13_qTakes_113 rfl (fun q5 => (g_sub [0] rfl ((((h.2 q1).2 q2).2 q3).1 q5))) (fun q5 => (g_goto dX13_qTakes_116 rfl (g_sub [0, 2] rfl ((((h.2 q1).2 q2).2 q3).2 q5)))))))))))))))))))))
theorem bX13_qTakes_133 {d : Nat}   {I : Ii} {J : Jj} {K : KV}
    (h : K (u2 I 0 102 0) J) :
    GoV wM d mX13_qTakes 133 [(0, .ref (0))] [] I J K :=
  (g_aload_n dX13_qTakes_133 0 0 rfl rfl (g_iconst dX13_qTakes_134 kc_0 (g_putZ dX13_qTakes_135 fl_X13_639 rfl rfl (by decide) obM_0 (g_return dX13_qTakes_138 rfl ⟨rfl, h⟩))))
theorem bX13_qTakes_128 {d : Nat}  {v2 : Int64} {I : Ii} {J : Jj} {K : KV}
    (h : GoV wM d mX13_qTakes 133 [(0, .ref (0))] [] I (w2 J 0 101 v2) K) :
    GoV wM d mX13_qTakes 128 [(0, .ref (0)), (2, .long (v2))] [] I J K :=
  (g_aload_n dX13_qTakes_128 0 0 rfl rfl (g_lload_n dX13_qTakes_129 1 2 rfl rfl (g_putJ dX13_qTakes_130 fl_X13_634 rfl rfl obM_0 (g_sub [0] rfl h))))
theorem dX13_image_0 : decode cX13_image 0 = .ok (.aload_n 0, 1) := by decide +kernel
theorem dX13_image_1 : decode cX13_image 1 = .ok (.iconst 0, 1) := by decide +kernel
theorem dX13_image_2 : decode cX13_image 2 = .ok (.putfield 653, 3) := by decide +kernel
theorem dX13_image_5 : decode cX13_image 5 = .ok (.aload_n 0, 1) := by decide +kernel
theorem dX13_image_6 : decode cX13_image 6 = .ok (.aload_n 0, 1) := by decide +kernel
theorem dX13_image_7 : decode cX13_image 7 = .ok (.getfield 139, 3) := by decide +kernel
theorem dX13_image_10 : decode cX13_image 10 = .ok (.iconst 0, 1) := by decide +kernel
theorem dX13_image_11 : decode cX13_image 11 = .ok (.iaload, 1) := by decide +kernel
theorem dX13_image_12 : decode cX13_image 12 = .ok (.sipush 256, 3) := by decide +kernel
theorem dX13_image_15 : decode cX13_image 15 = .ok (.idiv, 1) := by decide +kernel
theorem dX13_image_16 : decode cX13_image 16 = .ok (.invokevirtual 656, 3) := by decide +kernel
theorem dX13_image_19 : decode cX13_image 19 = .ok (.aload_n 0, 1) := by decide +kernel
theorem dX13_image_20 : decode cX13_image 20 = .ok (.aload_n 0, 1) := by decide +kernel
theorem dX13_image_21 : decode cX13_image 21 = .ok (.getfield 139, 3) := by decide +kernel
theorem dX13_image_24 : decode cX13_image 24 = .ok (.iconst 0, 1) := by decide +kernel
theorem dX13_image_25 : decode cX13_image 25 = .ok (.iaload, 1) := by decide +kernel
theorem dX13_image_26 : decode cX13_image 26 = .ok (.sipush 256, 3) := by decide +kernel
theorem dX13_image_29 : decode cX13_image 29 = .ok (.irem, 1) := by decide +kernel
theorem dX13_image_30 : decode cX13_image 30 = .ok (.invokevirtual 656, 3) := by decide +kernel
theorem dX13_image_33 : decode cX13_image 33 = .ok (.iconst 0, 1) := by decide +kernel
theorem dX13_image_34 : decode cX13_image 34 = .ok (.istore_n 1, 1) := by decide +kernel
theorem dX13_image_35 : decode cX13_image 35 = .ok (.iload_n 1, 1) := by decide +kernel
theorem dX13_image_36 : decode cX13_image 36 = .ok (.aload_n 0, 1) := by decide +kernel
theorem dX13_image_37 : decode cX13_image 37 = .ok (.invokevirtual 401, 3) := by decide +kernel
theorem dX13_image_40 : decode cX13_image 40 = .ok (.if_icmp .ge 49, 3) := by decide +kernel
theorem dX13_image_43 : decode cX13_image 43 = .ok (.aload_n 0, 1) := by decide +kernel
theorem dX13_image_44 : decode cX13_image 44 = .ok (.aload_n 0, 1) := by decide +kernel
theorem dX13_image_45 : decode cX13_image 45 = .ok (.iload_n 1, 1) := by decide +kernel
theorem dX13_image_46 : decode cX13_image 46 = .ok (.invokevirtual 410, 3) := by decide +kernel
theorem dX13_image_49 : decode cX13_image 49 = .ok (.iconst 1, 1) := by decide +kernel
theorem dX13_image_50 : decode cX13_image 50 = .ok (.iadd, 1) := by decide +kernel
theorem dX13_image_51 : decode cX13_image 51 = .ok (.invokevirtual 656, 3) := by decide +kernel
theorem dX13_image_54 : decode cX13_image 54 = .ok (.iconst 1, 1) := by decide +kernel
theorem dX13_image_55 : decode cX13_image 55 = .ok (.istore_n 2, 1) := by decide +kernel
theorem dX13_image_56 : decode cX13_image 56 = .ok (.iload_n 2, 1) := by decide +kernel
theorem dX13_image_57 : decode cX13_image 57 = .ok (.iconst 5, 1) := by decide +kernel
theorem dX13_image_58 : decode cX13_image 58 = .ok (.if_icmp .ge 25, 3) := by decide +kernel
theorem dX13_image_61 : decode cX13_image 61 = .ok (.aload_n 0, 1) := by decide +kernel
theorem dX13_image_62 : decode cX13_image 62 = .ok (.aload_n 0, 1) := by decide +kernel
theorem dX13_image_63 : decode cX13_image 63 = .ok (.getfield 139, 3) := by decide +kernel
theorem dX13_image_66 : decode cX13_image 66 = .ok (.iconst 1, 1) := by decide +kernel
theorem dX13_image_67 : decode cX13_image 67 = .ok (.iconst 5, 1) := by decide +kernel
theorem dX13_image_68 : decode cX13_image 68 = .ok (.iload_n 1, 1) := by decide +kernel
theorem dX13_image_69 : decode cX13_image 69 = .ok (.imul, 1) := by decide +kernel
theorem dX13_image_70 : decode cX13_image 70 = .ok (.iadd, 1) := by decide +kernel
theorem dX13_image_71 : decode cX13_image 71 = .ok (.iload_n 2, 1) := by decide +kernel
theorem dX13_image_72 : decode cX13_image 72 = .ok (.iadd, 1) := by decide +kernel
theorem dX13_image_73 : decode cX13_image 73 = .ok (.iaload, 1) := by decide +kernel
theorem dX13_image_74 : decode cX13_image 74 = .ok (.invokevirtual 656, 3) := by decide +kernel
theorem dX13_image_77 : decode cX13_image 77 = .ok (.iinc 2 1, 3) := by decide +kernel
theorem dX13_image_80 : decode cX13_image 80 = .ok (.goto (-24), 3) := by decide +kernel
theorem dX13_image_83 : decode cX13_image 83 = .ok (.iinc 1 1, 3) := by decide +kernel
theorem dX13_image_86 : decode cX13_image 86 = .ok (.goto (-51), 3) := by decide +kernel
theorem dX13_image_89 : decode cX13_image 89 = .ok (.aload_n 0, 1) := by decide +kernel
theorem dX13_image_90 : decode cX13_image 90 = .ok (.aload_n 0, 1) := by decide +kernel
theorem dX13_image_91 : decode cX13_image 91 = .ok (.getfield 251, 3) := by decide +kernel
theorem dX13_image_94 : decode cX13_image 94 = .ok (.aload_n 0, 1) := by decide +kernel
theorem dX13_image_95 : decode cX13_image 95 = .ok (.getfield 653, 3) := by decide +kernel
theorem dX13_image_98 : decode cX13_image 98 = .ok (.invokestatic 659, 3) := by decide +kernel
theorem dX13_image_101 : decode cX13_image 101 = .ok (.invokevirtual 656, 3) := by decide +kernel
theorem dX13_image_104 : decode cX13_image 104 = .ok (.aload_n 0, 1) := by decide +kernel
theorem dX13_image_105 : decode cX13_image 105 = .ok (.getfield 653, 3) := by decide +kernel
theorem dX13_image_108 : decode cX13_image 108 = .ok (.ireturn, 1) := by decide +kernel
theorem bX13_image_0 {d : Nat}   {I : Ii} {J : Jj} {K : KI}
    (h : ∀ I1 : Ii, I1 = u2 I 0 104 0 → (CalV wM d mX13_writes [.ref (0), .int ((I1 42 (0 : Int32).toNatClampNeg) / 256)] I1 J (fun I3 J4 => (CalV wM d mX13_writes [.ref (0), .int ((I3 42 (0 : Int32).toNatClampNeg) - (I3 42 (0 : Int32).toNatClampNeg) / 256 * 256)] I3 J4 (fun I5 J6 => (GoI wM (d + 1) mX13_image 35 [(0, .ref (0)), (1, .int (0))] [] I5 J6 K)))))) :
    GoI wM (d + 1) mX13_image 0 [(0, .ref (0))] [] I J K :=
  (g_aload_n dX13_image_0 0 0 rfl rfl (g_iconst dX13_image_1 kc_0 (g_putI dX13_image_2 fl_X13_653 rfl rfl obM_0 (g_aload_n dX13_image_5 0 0 rfl rfl (g_aload_n dX13_image_6 0 0 rfl rfl (g_getP dX13_image_7 fl_X13_139 rfl obM_0 rfl (g_iconst dX13_image_10 kc_0 (g_iald dX13_image_11 arM_42 (by unfold vp_in; decide) (g_sipush dX13_image_12 ks_256 (g_idiv dX13_image_15 (by decide) (g_callvV dX13_image_16 ml_X13_656 md_X13_writes mv_X13_writes obM_0 rfl rfl rfl (Nat.le_of_ble_eq_true rfl) (CalV.mono (h _ rfl) (fun I3 J4 h8 => (g_aload_n dX13_image_19 0 0 rfl rfl (g_aload_n dX13_image_20 0 0 rfl rfl (g_getP dX13_image_21 fl_X13_139 rfl obM_0 rfl (g_iconst dX13_image_24 kc_0 (g_iald dX13_image_25 arM_42 (by unfold vp_in; decide) (g_sipush dX13_image_26 ks_256 (g_irem dX13_image_29 (by decide) (g_callvV dX13_image_30 ml_X13_656 md_X13_writes mv_X13_writes obM_0 rfl rfl rfl (Nat.le_of_ble_eq_true rfl) (CalV.mono h8 (fun I5 J6 h7 => (g_iconst dX13_image_33 kc_0 (g_istore_n dX13_image_34 rfl (by decide) rfl (g_sub [1, 0] rfl h7))))))))))))))))))))))))))
theorem bX13_image_35 {d : Nat}  {v1 : Int32} {I : Ii} {J : Jj} {K : KI}
    (h : CalI wM d mX13_personMany [.ref (0)] I J (fun x3 I1 J2 => (((x3 ≤ v1) → (CalI wM d mX13_checked [.ref (78), .int (I1 0 104)] I1 J2 (fun x7 I5 J6 => (CalV wM d mX13_writes [.ref (0), .int (x7)] I5 J6 (fun I8 J9 => (K (I8 0 104) I8 J9)))))) ∧ ((¬ x3 ≤ v1) → (CalI wM d mX13_masterOf [.ref (0), .int (v1)] I1 J2 (fun x14 I12 J13 => (CalV wM d mX13_writes [.ref (0), .int (x14 + 1)] I12 J13 (fun I15 J16 => (GoI wM (d + 1) mX13_image 56 [(0, .ref (0)), (1, .int (v1)), (2, .int (1))] [] I15 J16 K))))))))) :
    GoI wM (d + 1) mX13_image 35 [(0, .ref (0)), (1, .int (v1))] [] I J K :=
  (g_iload_n dX13_image_35 1 1 rfl rfl (g_aload_n dX13_image_36 0 0 rfl rfl (g_callvI dX13_image_37 ml_X13_401 md_X13_personMany mv_X13_personMany obM_0 rfl rfl rfl (Nat.le_of_ble_eq_true rfl) (CalI.mono h (fun x3 I1 J2 h19 => (g_icmp_ge dX13_image_40 rfl (fun q4 => (g_aload_n dX13_image_89 0 0 rfl rfl (g_aload_n dX13_image_90 0 0 rfl rfl (g_getP dX13_image_91 fl_X13_251 rfl obM_0 rfl (g_aload_n dX13_image_94 0 0 rfl rfl (g_getI dX13_image_95 fl_X13_653 rfl obM_0 (g_callsI dX13_image_98 ml_X13_659 md_X13_checked ms_X13_checked rfl rfl (Nat.le_of_ble_eq_true rfl) (CalI.mono (h19.1 q4) (fun x7 I5 J6 h11 => (g_callvV dX13_image_101 ml_X13_656 md_X13_writes mv_X13_writes obM_0 rfl rfl rfl (Nat.le_of_ble_eq_true rfl) (CalV.mono h11 (fun I8 J9 h10 => (g_aload_n dX13_image_104 0 0 rfl rfl (g_getI dX13_image_105 fl_X13_653 rfl obM_0 (g_ireturn dX13_image_108 rfl ⟨_, rfl, h10⟩))))))))))))))) (fun q4 => (g_aload_n dX13_image_43 0 0 rfl rfl (g_aload_n dX13_image_44 0 0 rfl rfl (g_iload_n dX13_image_45 1 1 rfl rfl (g_callvI dX13_image_46 ml_X13_410 md_X13_masterOf mv_X13_masterOf obM_0 rfl rfl rfl (Nat.le_of_ble_eq_true rfl) (CalI.mono (h19.2 q4) (fun x14 I12 J13 h18 => (g_iconst dX13_image_49 kc_1 (g_iadd dX13_image_50 (g_callvV dX13_image_51 ml_X13_656 md_X13_writes mv_X13_writes obM_0 rfl rfl rfl (Nat.le_of_ble_eq_true rfl) (CalV.mono h18 (fun I15 J16 h17 => (g_iconst dX13_image_54 kc_1 (g_istore_n dX13_image_55 rfl (by decide) rfl (g_sub [1, 2, 0] rfl h17)))))))))))))))))))))
theorem bX13_image_56 {d : Nat}  {v1 : Int32} {v2 : Int32} {I : Ii} {J : Jj} {K : KI}
    (h : ((5 ≤ v2) → (GoI wM (d + 1) mX13_image 35 [(0, .ref (0)), (1, .int (v1 + 1))] [] I J K)) ∧ ((¬ 5 ≤ v2) → (vp_in ((1 + (5 * v1)) + v2) 132 ∧ (CalV wM d mX13_writes [.ref (0), .int (I 42 ((1 + (5 * v1)) + v2).toNatClampNeg)] I J (fun I3 J4 => (GoI wM (d + 1) mX13_image 56 [(0, .ref (0)), (1, .int (v1)), (2, .int (v2 + 1))] [] I3 J4 K)))))) :
    GoI wM (d + 1) mX13_image 56 [(0, .ref (0)), (1, .int (v1)), (2, .int (v2))] [] I J K :=
  (g_iload_n dX13_image_56 2 2 rfl rfl (g_iconst dX13_image_57 kc_5 (g_icmp_ge dX13_image_58 rfl (fun q1 => (g_iinc dX13_image_83 1 rfl rfl (by decide) rfl (g_goto dX13_image_86 rfl (g_sub [1, 0] rfl (h.1 q1))))) (fun q1 => (g_aload_n dX13_image_61 0 0 rfl rfl (g_aload_n dX13_image_62 0 0 rfl rfl (g_getP dX13_image_63 fl_X13_139 rfl obM_0 rfl (g_iconst dX13_image_66 kc_1 (g_iconst dX13_image_67 kc_5 (g_iload_n dX13_image_68 1 1 rfl rfl (g_imul dX13_image_69 (g_iadd dX13_image_70 (g_iload_n dX13_image_71 2 2 rfl rfl (g_iadd dX13_image_72 (have b2 := (h.2 q1).1; g_iald dX13_image_73 arM_42 b2 (g_callvV dX13_image_74 ml_X13_656 md_X13_writes mv_X13_writes obM_0 rfl rfl rfl (Nat.le_of_ble_eq_true rfl) (CalV.mono (h.2 q1).2 (fun I3 J4 h5 => (g_iinc dX13_image_77 2 rfl rfl (by decide) rfl (g_goto dX13_image_80 rfl (g_sub [1, 2, 0] rfl h5)))))))))))))))))))))
theorem dX13_writes_0 : decode cX13_writes 0 = .ok (.aload_n 0, 1) := by decide +kernel
theorem dX13_writes_1 : decode cX13_writes 1 = .ok (.getfield 251, 3) := by decide +kernel
theorem dX13_writes_4 : decode cX13_writes 4 = .ok (.aload_n 0, 1) := by decide +kernel
theorem dX13_writes_5 : decode cX13_writes 5 = .ok (.getfield 653, 3) := by decide +kernel
theorem dX13_writes_8 : decode cX13_writes 8 = .ok (.iload_n 1, 1) := by decide +kernel
theorem dX13_writes_9 : decode cX13_writes 9 = .ok (.iastore, 1) := by decide +kernel
theorem dX13_writes_10 : decode cX13_writes 10 = .ok (.aload_n 0, 1) := by decide +kernel
theorem dX13_writes_11 : decode cX13_writes 11 = .ok (.dup, 1) := by decide +kernel
theorem dX13_writes_12 : decode cX13_writes 12 = .ok (.getfield 653, 3) := by decide +kernel
theorem dX13_writes_15 : decode cX13_writes 15 = .ok (.iconst 1, 1) := by decide +kernel
theorem dX13_writes_16 : decode cX13_writes 16 = .ok (.iadd, 1) := by decide +kernel
theorem dX13_writes_17 : decode cX13_writes 17 = .ok (.putfield 653, 3) := by decide +kernel
theorem dX13_writes_20 : decode cX13_writes 20 = .ok (.return_, 1) := by decide +kernel
theorem bX13_writes_0 {d : Nat}  {v1 : Int32} {I : Ii} {J : Jj} {K : KV}
    (h : vp_in (I 0 104) 43 ∧ (∀ I2 : Ii, I2 = u2 I 78 (I 0 104).toNatClampNeg v1 → (K (u2 I2 0 104 ((I2 0 104) + 1)) J))) :
    GoV wM d mX13_writes 0 [(0, .ref (0)), (1, .int (v1))] [] I J K :=
  (g_aload_n dX13_writes_0 0 0 rfl rfl (g_getP dX13_writes_1 fl_X13_251 rfl obM_0 rfl (g_aload_n dX13_writes_4 0 0 rfl rfl (g_getI dX13_writes_5 fl_X13_653 rfl obM_0 (g_iload_n dX13_writes_8 1 1 rfl rfl (have b1 := h.1; g_iast dX13_writes_9 arM_78 b1 (g_aload_n dX13_writes_10 0 0 rfl rfl (g_dup dX13_writes_11 rfl (g_getI dX13_writes_12 fl_X13_653 rfl obM_0 (g_iconst dX13_writes_15 kc_1 (g_iadd dX13_writes_16 (g_putI dX13_writes_17 fl_X13_653 rfl rfl obM_0 (g_return dX13_writes_20 rfl ⟨rfl, (h.2 _ rfl)⟩)))))))))))))
theorem dX13_checked_0 : decode cX13_checked 0 = .ok (.bipush 43, 2) := by decide +kernel
theorem dX13_checked_2 : decode cX13_checked 2 = .ok (.istore_n 2, 1) := by decide +kernel
theorem dX13_checked_3 : decode cX13_checked 3 = .ok (.iconst 0, 1) := by decide +kernel
theorem dX13_checked_4 : decode cX13_checked 4 = .ok (.istore_n 3, 1) := by decide +kernel
theorem dX13_checked_5 : decode cX13_checked 5 = .ok (.iload_n 3, 1) := by decide +kernel
theorem dX13_checked_6 : decode cX13_checked 6 = .ok (.iload_n 1, 1) := by decide +kernel
theorem dX13_checked_7 : decode cX13_checked 7 = .ok (.if_icmp .ge 21, 3) := by decide +kernel
theorem dX13_checked_10 : decode cX13_checked 10 = .ok (.iconst 3, 1) := by decide +kernel
theorem dX13_checked_11 : decode cX13_checked 11 = .ok (.iload_n 2, 1) := by decide +kernel
theorem dX13_checked_12 : decode cX13_checked 12 = .ok (.imul, 1) := by decide +kernel
theorem dX13_checked_13 : decode cX13_checked 13 = .ok (.aload_n 0, 1) := by decide +kernel
theorem dX13_checked_14 : decode cX13_checked 14 = .ok (.iload_n 3, 1) := by decide +kernel
theorem dX13_checked_15 : decode cX13_checked 15 = .ok (.iaload, 1) := by decide +kernel
theorem dX13_checked_16 : decode cX13_checked 16 = .ok (.iadd, 1) := by decide +kernel
theorem dX13_checked_17 : decode cX13_checked 17 = .ok (.sipush 251, 3) := by decide +kernel
theorem dX13_checked_20 : decode cX13_checked 20 = .ok (.irem, 1) := by decide +kernel
theorem dX13_checked_21 : decode cX13_checked 21 = .ok (.istore_n 2, 1) := by decide +kernel
theorem dX13_checked_22 : decode cX13_checked 22 = .ok (.iinc 3 1, 3) := by decide +kernel
theorem dX13_checked_25 : decode cX13_checked 25 = .ok (.goto (-20), 3) := by decide +kernel
theorem dX13_checked_28 : decode cX13_checked 28 = .ok (.iload_n 2, 1) := by decide +kernel
theorem dX13_checked_29 : decode cX13_checked 29 = .ok (.ireturn, 1) := by decide +kernel
theorem bX13_checked_0 {d : Nat}  {a0 n0 : Nat} (ha0 : z_Ar wM a0 1 n0) {v1 : Int32} {I : Ii} {J : Jj} {K : KI}
    (h : GoI wM d mX13_checked 5 [(0, .ref (a0)), (1, .int (v1)), (2, .int (43)), (3, .int (0))] [] I J K) :
    GoI wM d mX13_checked 0 [(0, .ref (a0)), (1, .int (v1))] [] I J K :=
  (g_bipush dX13_checked_0 kb_43 (g_istore_n dX13_checked_2 rfl (by decide) rfl (g_iconst dX13_checked_3 kc_0 (g_istore_n dX13_checked_4 rfl (by decide) rfl (g_sub [2, 3, 1, 0] rfl h)))))
theorem bX13_checked_5 {d : Nat}  {a0 n0 : Nat} (ha0 : z_Ar wM a0 1 n0) {v1 : Int32} {v2 : Int32} {v3 : Int32} {I : Ii} {J : Jj} {K : KI}
    (h : ((v1 ≤ v3) → (K (v2) I J)) ∧ ((¬ v1 ≤ v3) → (vp_in (v3) n0 ∧ (∀ y3 : Int32, y3 = ((3 * v2) + (I a0 v3.toNatClampNeg)) - ((3 * v2) + (I a0 v3.toNatClampNeg)) / 251 * 251 → (GoI wM d mX13_checked 5 [(0, .ref (a0)), (1, .int (v1)), (2, .int (y3)), (3, .int (v3 + 1))] [] I J K))))) :
    GoI wM d mX13_checked 5 [(0, .ref (a0)), (1, .int (v1)), (2, .int (v2)), (3, .int (v3))] [] I J K :=
  (g_iload_n dX13_checked_5 3 3 rfl rfl (g_iload_n dX13_checked_6 1 1 rfl rfl (g_icmp_ge dX13_checked_7 rfl (fun q1 => (g_iload_n dX13_checked_28 2 2 rfl rfl (g_ireturn dX13_checked_29 rfl ⟨_, rfl, (h.1 q1)⟩))) (fun q1 => (g_iconst dX13_checked_10 kc_3 (g_iload_n dX13_checked_11 2 2 rfl rfl (g_imul dX13_checked_12 (g_aload_n dX13_checked_13 0 0 rfl rfl (g_iload_n dX13_checked_14 3 3 rfl rfl (have b2 := (h.2 q1).1; g_iald dX13_checked_15 ha0 b2 (g_iadd dX13_checked_16 (g_sipush dX13_checked_17 ks_251 (g_irem dX13_checked_20 (by decide) (g_istore_n dX13_checked_21 rfl (by decide) rfl (g_iinc dX13_checked_22 3 rfl rfl (by decide) rfl (g_goto dX13_checked_25 rfl (g_sub [2, 3, 1, 0] rfl ((h.2 q1).2 _ rfl))))))))))))))))))
theorem dX13_octet_0 : decode cX13_octet 0 = .ok (.iload_n 1, 1) := by decide +kernel
theorem dX13_octet_1 : decode cX13_octet 1 = .ok (.ifCond .lt 20, 3) := by decide +kernel
theorem dX13_octet_4 : decode cX13_octet 4 = .ok (.iload_n 1, 1) := by decide +kernel
theorem dX13_octet_5 : decode cX13_octet 5 = .ok (.aload_n 0, 1) := by decide +kernel
theorem dX13_octet_6 : decode cX13_octet 6 = .ok (.getfield 653, 3) := by decide +kernel
theorem dX13_octet_9 : decode cX13_octet 9 = .ok (.if_icmp .ge 12, 3) := by decide +kernel
theorem dX13_octet_12 : decode cX13_octet 12 = .ok (.aload_n 0, 1) := by decide +kernel
theorem dX13_octet_13 : decode cX13_octet 13 = .ok (.getfield 251, 3) := by decide +kernel
theorem dX13_octet_16 : decode cX13_octet 16 = .ok (.iload_n 1, 1) := by decide +kernel
theorem dX13_octet_17 : decode cX13_octet 17 = .ok (.iaload, 1) := by decide +kernel
theorem dX13_octet_18 : decode cX13_octet 18 = .ok (.goto 4, 3) := by decide +kernel
theorem dX13_octet_21 : decode cX13_octet 21 = .ok (.iconst (-1), 1) := by decide +kernel
theorem dX13_octet_22 : decode cX13_octet 22 = .ok (.ireturn, 1) := by decide +kernel
theorem bX13_octet_0 {d : Nat}  {v1 : Int32} {I : Ii} {J : Jj} {K : KI}
    (h : ((v1 < 0) → (K ((-1)) I J)) ∧ ((¬ v1 < 0) → ((((I 0 104) ≤ v1) → (K ((-1)) I J)) ∧ ((¬ (I 0 104) ≤ v1) → (vp_in (v1) 43 ∧ (K (I 78 v1.toNatClampNeg) I J)))))) :
    GoI wM d mX13_octet 0 [(0, .ref (0)), (1, .int (v1))] [] I J K :=
  (g_iload_n dX13_octet_0 1 1 rfl rfl (g_if_lt dX13_octet_1 rfl (fun q1 => (g_iconst dX13_octet_21 kc_n1 (g_ireturn dX13_octet_22 rfl ⟨_, rfl, (h.1 q1)⟩))) (fun q1 => (g_iload_n dX13_octet_4 1 1 rfl rfl (g_aload_n dX13_octet_5 0 0 rfl rfl (g_getI dX13_octet_6 fl_X13_653 rfl obM_0 (g_icmp_ge dX13_octet_9 rfl (fun q2 => (g_iconst dX13_octet_21 kc_n1 (g_ireturn dX13_octet_22 rfl ⟨_, rfl, ((h.2 q1).1 q2)⟩))) (fun q2 => (g_aload_n dX13_octet_12 0 0 rfl rfl (g_getP dX13_octet_13 fl_X13_251 rfl obM_0 rfl (g_iload_n dX13_octet_16 1 1 rfl rfl (have b3 := ((h.2 q1).2 q2).1; g_iald dX13_octet_17 arM_78 b3 (g_goto dX13_octet_18 rfl (g_ireturn dX13_octet_22 rfl ⟨_, rfl, ((h.2 q1).2 q2).2⟩))))))))))))))
theorem dX13_on_0 : decode cX13_on 0 = .ok (.aload_n 0, 1) := by decide +kernel
theorem dX13_on_1 : decode cX13_on 1 = .ok (.getfield 254, 3) := by decide +kernel
theorem dX13_on_4 : decode cX13_on 4 = .ok (.istore_n 1, 1) := by decide +kernel
theorem dX13_on_5 : decode cX13_on 5 = .ok (.aload_n 0, 1) := by decide +kernel
theorem dX13_on_6 : decode cX13_on 6 = .ok (.iconst 0, 1) := by decide +kernel
theorem dX13_on_7 : decode cX13_on 7 = .ok (.putfield 254, 3) := by decide +kernel
theorem dX13_on_10 : decode cX13_on 10 = .ok (.aload_n 0, 1) := by decide +kernel
theorem dX13_on_11 : decode cX13_on 11 = .ok (.iload_n 1, 1) := by decide +kernel
theorem dX13_on_12 : decode cX13_on 12 = .ok (.invokevirtual 669, 3) := by decide +kernel
theorem dX13_on_15 : decode cX13_on 15 = .ok (.ifCond .ne 15, 3) := by decide +kernel
theorem dX13_on_18 : decode cX13_on 18 = .ok (.aload_n 0, 1) := by decide +kernel
theorem dX13_on_19 : decode cX13_on 19 = .ok (.getfield 17, 3) := by decide +kernel
theorem dX13_on_22 : decode cX13_on 22 = .ok (.iconst 5, 1) := by decide +kernel
theorem dX13_on_23 : decode cX13_on 23 = .ok (.dup2, 1) := by decide +kernel
theorem dX13_on_24 : decode cX13_on 24 = .ok (.iaload, 1) := by decide +kernel
theorem dX13_on_25 : decode cX13_on 25 = .ok (.iconst 1, 1) := by decide +kernel
theorem dX13_on_26 : decode cX13_on 26 = .ok (.iadd, 1) := by decide +kernel
theorem dX13_on_27 : decode cX13_on 27 = .ok (.iastore, 1) := by decide +kernel
theorem dX13_on_28 : decode cX13_on 28 = .ok (.iconst 0, 1) := by decide +kernel
theorem dX13_on_29 : decode cX13_on 29 = .ok (.ireturn, 1) := by decide +kernel
theorem dX13_on_30 : decode cX13_on 30 = .ok (.aload_n 0, 1) := by decide +kernel
theorem dX13_on_31 : decode cX13_on 31 = .ok (.getfield 139, 3) := by decide +kernel
theorem dX13_on_34 : decode cX13_on 34 = .ok (.iconst 0, 1) := by decide +kernel
theorem dX13_on_35 : decode cX13_on 35 = .ok (.sipush 256, 3) := by decide +kernel
theorem dX13_on_38 : decode cX13_on 38 = .ok (.aload_n 0, 1) := by decide +kernel
theorem dX13_on_39 : decode cX13_on 39 = .ok (.getfield 7, 3) := by decide +kernel
theorem dX13_on_42 : decode cX13_on 42 = .ok (.iconst 0, 1) := by decide +kernel
theorem dX13_on_43 : decode cX13_on 43 = .ok (.iaload, 1) := by decide +kernel
theorem dX13_on_44 : decode cX13_on 44 = .ok (.imul, 1) := by decide +kernel
theorem dX13_on_45 : decode cX13_on 45 = .ok (.aload_n 0, 1) := by decide +kernel
theorem dX13_on_46 : decode cX13_on 46 = .ok (.getfield 7, 3) := by decide +kernel
theorem dX13_on_49 : decode cX13_on 49 = .ok (.iconst 1, 1) := by decide +kernel
theorem dX13_on_50 : decode cX13_on 50 = .ok (.iaload, 1) := by decide +kernel
theorem dX13_on_51 : decode cX13_on 51 = .ok (.iadd, 1) := by decide +kernel
theorem dX13_on_52 : decode cX13_on 52 = .ok (.iastore, 1) := by decide +kernel
theorem dX13_on_53 : decode cX13_on 53 = .ok (.iconst 0, 1) := by decide +kernel
theorem dX13_on_54 : decode cX13_on 54 = .ok (.istore_n 2, 1) := by decide +kernel
theorem dX13_on_55 : decode cX13_on 55 = .ok (.iload_n 2, 1) := by decide +kernel
theorem dX13_on_56 : decode cX13_on 56 = .ok (.aload_n 0, 1) := by decide +kernel
theorem dX13_on_57 : decode cX13_on 57 = .ok (.invokevirtual 401, 3) := by decide +kernel
theorem dX13_on_60 : decode cX13_on 60 = .ok (.if_icmp .ge 68, 3) := by decide +kernel
theorem dX13_on_63 : decode cX13_on 63 = .ok (.aload_n 0, 1) := by decide +kernel
theorem dX13_on_64 : decode cX13_on 64 = .ok (.getfield 139, 3) := by decide +kernel
theorem dX13_on_67 : decode cX13_on 67 = .ok (.iconst 1, 1) := by decide +kernel
theorem dX13_on_68 : decode cX13_on 68 = .ok (.iconst 5, 1) := by decide +kernel
theorem dX13_on_69 : decode cX13_on 69 = .ok (.iload_n 2, 1) := by decide +kernel
theorem dX13_on_70 : decode cX13_on 70 = .ok (.imul, 1) := by decide +kernel
theorem dX13_on_71 : decode cX13_on 71 = .ok (.iadd, 1) := by decide +kernel
theorem dX13_on_72 : decode cX13_on 72 = .ok (.aload_n 0, 1) := by decide +kernel
theorem dX13_on_73 : decode cX13_on 73 = .ok (.getfield 7, 3) := by decide +kernel
theorem dX13_on_76 : decode cX13_on 76 = .ok (.iconst 2, 1) := by decide +kernel
theorem dX13_on_77 : decode cX13_on 77 = .ok (.iconst 5, 1) := by decide +kernel
theorem dX13_on_78 : decode cX13_on 78 = .ok (.iload_n 2, 1) := by decide +kernel
theorem dX13_on_79 : decode cX13_on 79 = .ok (.imul, 1) := by decide +kernel
theorem dX13_on_80 : decode cX13_on 80 = .ok (.iadd, 1) := by decide +kernel
theorem dX13_on_81 : decode cX13_on 81 = .ok (.iaload, 1) := by decide +kernel
theorem dX13_on_82 : decode cX13_on 82 = .ok (.iconst 1, 1) := by decide +kernel
theorem dX13_on_83 : decode cX13_on 83 = .ok (.isub, 1) := by decide +kernel
theorem dX13_on_84 : decode cX13_on 84 = .ok (.iastore, 1) := by decide +kernel
theorem dX13_on_85 : decode cX13_on 85 = .ok (.iconst 1, 1) := by decide +kernel
theorem dX13_on_86 : decode cX13_on 86 = .ok (.istore_n 3, 1) := by decide +kernel
theorem dX13_on_87 : decode cX13_on 87 = .ok (.iload_n 3, 1) := by decide +kernel
theorem dX13_on_88 : decode cX13_on 88 = .ok (.iconst 5, 1) := by decide +kernel
theorem dX13_on_89 : decode cX13_on 89 = .ok (.if_icmp .ge 33, 3) := by decide +kernel
theorem dX13_on_92 : decode cX13_on 92 = .ok (.aload_n 0, 1) := by decide +kernel
theorem dX13_on_93 : decode cX13_on 93 = .ok (.getfield 139, 3) := by decide +kernel
theorem dX13_on_96 : decode cX13_on 96 = .ok (.iconst 1, 1) := by decide +kernel
theorem dX13_on_97 : decode cX13_on 97 = .ok (.iconst 5, 1) := by decide +kernel
theorem dX13_on_98 : decode cX13_on 98 = .ok (.iload_n 2, 1) := by decide +kernel
theorem dX13_on_99 : decode cX13_on 99 = .ok (.imul, 1) := by decide +kernel
theorem dX13_on_100 : decode cX13_on 100 = .ok (.iadd, 1) := by decide +kernel
theorem dX13_on_101 : decode cX13_on 101 = .ok (.iload_n 3, 1) := by decide +kernel
theorem dX13_on_102 : decode cX13_on 102 = .ok (.iadd, 1) := by decide +kernel
theorem dX13_on_103 : decode cX13_on 103 = .ok (.aload_n 0, 1) := by decide +kernel
theorem dX13_on_104 : decode cX13_on 104 = .ok (.getfield 7, 3) := by decide +kernel
theorem dX13_on_107 : decode cX13_on 107 = .ok (.iconst 2, 1) := by decide +kernel
theorem dX13_on_108 : decode cX13_on 108 = .ok (.iconst 5, 1) := by decide +kernel
theorem dX13_on_109 : decode cX13_on 109 = .ok (.iload_n 2, 1) := by decide +kernel
theorem dX13_on_110 : decode cX13_on 110 = .ok (.imul, 1) := by decide +kernel
theorem dX13_on_111 : decode cX13_on 111 = .ok (.iadd, 1) := by decide +kernel
theorem dX13_on_112 : decode cX13_on 112 = .ok (.iload_n 3, 1) := by decide +kernel
theorem dX13_on_113 : decode cX13_on 113 = .ok (.iadd, 1) := by decide +kernel
theorem dX13_on_114 : decode cX13_on 114 = .ok (.iaload, 1) := by decide +kernel
theorem dX13_on_115 : decode cX13_on 115 = .ok (.iastore, 1) := by decide +kernel
theorem dX13_on_116 : decode cX13_on 116 = .ok (.iinc 3 1, 3) := by decide +kernel
theorem dX13_on_119 : decode cX13_on 119 = .ok (.goto (-32), 3) := by decide +kernel
theorem dX13_on_122 : decode cX13_on 122 = .ok (.iinc 2 1, 3) := by decide +kernel
theorem dX13_on_125 : decode cX13_on 125 = .ok (.goto (-70), 3) := by decide +kernel
theorem dX13_on_128 : decode cX13_on 128 = .ok (.aload_n 0, 1) := by decide +kernel
theorem dX13_on_129 : decode cX13_on 129 = .ok (.getfield 139, 3) := by decide +kernel
theorem dX13_on_132 : decode cX13_on 132 = .ok (.bipush 41, 2) := by decide +kernel
theorem dX13_on_134 : decode cX13_on 134 = .ok (.iconst 0, 1) := by decide +kernel
theorem dX13_on_135 : decode cX13_on 135 = .ok (.iastore, 1) := by decide +kernel
theorem dX13_on_136 : decode cX13_on 136 = .ok (.aload_n 0, 1) := by decide +kernel
theorem dX13_on_137 : decode cX13_on 137 = .ok (.iconst 0, 1) := by decide +kernel
theorem dX13_on_138 : decode cX13_on 138 = .ok (.putfield 392, 3) := by decide +kernel
theorem dX13_on_141 : decode cX13_on 141 = .ok (.iconst 1, 1) := by decide +kernel
theorem dX13_on_142 : decode cX13_on 142 = .ok (.ireturn, 1) := by decide +kernel
theorem bX13_on_0 {d : Nat}   {I : Ii} {J : Jj} {K : KI}
    (h : CalI wM d mX13_isImage [.ref (0), .int (I 0 1)] (u2 I 0 1 0) J (fun x4 I2 J3 => (((¬ x4 = 0) → (GoI wM (d + 1) mX13_on 55 [(0, .ref (0)), (2, .int (0))] [] (u2 I2 42 (0 : Int32).toNatClampNeg ((256 * (I2 1 (0 : Int32).toNatClampNeg)) + (I2 1 (1 : Int32).toNatClampNeg))) J3 K)) ∧ ((x4 = 0) → (K (0) (u2 I2 2 (5 : Int32).toNatClampNeg ((I2 2 (5 : Int32).toNatClampNeg) + 1)) J3))))) :
    GoI wM (d + 1) mX13_on 0 [(0, .ref (0))] [] I J K :=
  (g_aload_n dX13_on_0 0 0 rfl rfl (g_getI dX13_on_1 fl_X13_254 rfl obM_0 (g_istore_n dX13_on_4 rfl (by decide) rfl (g_aload_n dX13_on_5 1 0 rfl rfl (g_iconst dX13_on_6 kc_0 (g_putI dX13_on_7 fl_X13_254 rfl rfl obM_0 (g_aload_n dX13_on_10 1 0 rfl rfl (g_iload_n dX13_on_11 0 1 rfl rfl (g_callvI dX13_on_12 ml_X13_669 md_X13_isImage mv_X13_isImage obM_0 rfl rfl rfl (Nat.le_of_ble_eq_true rfl) (CalI.mono h (fun x4 I2 J3 h12 => (g_if_ne dX13_on_15 rfl (fun q5 => (g_aload_n dX13_on_30 1 0 rfl rfl (g_getP dX13_on_31 fl_X13_139 rfl obM_0 rfl (g_iconst dX13_on_34 kc_0 (g_sipush dX13_on_35 ks_256 (g_aload_n dX13_on_38 1 0 rfl rfl (g_getP dX13_on_39 fl_X13_7 rfl obM_0 rfl (g_iconst dX13_on_42 kc_0 (g_iald dX13_on_43 arM_1 (by unfold vp_in; decide) (g_imul dX13_on_44 (g_aload_n dX13_on_45 1 0 rfl rfl (g_getP dX13_on_46 fl_X13_7 rfl obM_0 rfl (g_iconst dX13_on_49 kc_1 (g_iald dX13_on_50 arM_1 (by unfold vp_in; decide) (g_iadd dX13_on_51 (g_iast dX13_on_52 arM_42 (by unfold vp_in; decide) (g_iconst dX13_on_53 kc_0 (g_istore_n dX13_on_54 rfl (by decide) rfl (g_sub [2, 0] rfl (h12.1 q5)))))))))))))))))))) (fun q5 => (g_aload_n dX13_on_18 1 0 rfl rfl (g_getP dX13_on_19 fl_X13_17 rfl obM_0 rfl (g_iconst dX13_on_22 kc_5 (g_dup2_11 dX13_on_23 rfl rfl (g_iald dX13_on_24 arM_2 (by unfold vp_in; decide) (g_iconst dX13_on_25 kc_1 (g_iadd dX13_on_26 (g_iast dX13_on_27 arM_2 (by unfold vp_in; decide) (g_iconst dX13_on_28 kc_0 (g_zreturn dX13_on_29 rfl (narZ (by decide)) ⟨_, rfl, (h12.2 q5)⟩)))))))))))))))))))))))
theorem bX13_on_55 {d : Nat}  {v2 : Int32} {I : Ii} {J : Jj} {K : KI}
    (h : CalI wM d mX13_personMany [.ref (0)] I J (fun x3 I1 J2 => (((x3 ≤ v2) → (K (1) (u2 (u2 I1 42 (41 : Int32).toNatClampNeg 0) 0 65 0) J2)) ∧ ((¬ x3 ≤ v2) → (vp_in (2 + (5 * v2)) 1600 ∧ (vp_in (1 + (5 * v2)) 132 ∧ (GoI wM (d + 1) mX13_on 87 [(0, .ref (0)), (2, .int (v2)), (3, .int (1))] [] (u2 I1 42 (1 + (5 * v2)).toNatClampNeg ((I1 1 (2 + (5 * v2)).toNatClampNeg) - 1)) J2 K))))))) :
    GoI wM (d + 1) mX13_on 55 [(0, .ref (0)), (2, .int (v2))] [] I J K :=
  (g_iload_n dX13_on_55 1 2 rfl rfl (g_aload_n dX13_on_56 0 0 rfl rfl (g_callvI dX13_on_57 ml_X13_401 md_X13_personMany mv_X13_personMany obM_0 rfl rfl rfl (Nat.le_of_ble_eq_true rfl) (CalI.mono h (fun x3 I1 J2 h11 => (g_icmp_ge dX13_on_60 rfl (fun q4 => (g_aload_n dX13_on_128 0 0 rfl rfl (g_getP dX13_on_129 fl_X13_139 rfl obM_0 rfl (g_bipush dX13_on_132 kb_41 (g_iconst dX13_on_134 kc_0 (g_iast dX13_on_135 arM_42 (by unfold vp_in; decide) (g_aload_n dX13_on_136 0 0 rfl rfl (g_iconst dX13_on_137 kc_0 (g_putI dX13_on_138 fl_X13_392 rfl rfl obM_0 (g_iconst dX13_on_141 kc_1 (g_zreturn dX13_on_142 rfl (narZ (by decide)) ⟨_, rfl, (h11.1 q4)⟩))))))))))) (fun q4 => (g_aload_n dX13_on_63 0 0 rfl rfl (g_getP dX13_on_64 fl_X13_139 rfl obM_0 rfl (g_iconst dX13_on_67 kc_1 (g_iconst dX13_on_68 kc_5 (g_iload_n dX13_on_69 1 2 rfl rfl (g_imul dX13_on_70 (g_iadd dX13_on_71 (g_aload_n dX13_on_72 0 0 rfl rfl (g_getP dX13_on_73 fl_X13_7 rfl obM_0 rfl (g_iconst dX13_on_76 kc_2 (g_iconst dX13_on_77 kc_5 (g_iload_n dX13_on_78 1 2 rfl rfl (g_imul dX13_on_79 (g_iadd dX13_on_80 (have b8 := (h11.2 q4).1; g_iald dX13_on_81 arM_1 b8 (g_iconst dX13_on_82 kc_1 (g_isub dX13_on_83 (have b9 := (h11.2 q4).2.1; g_iast dX13_on_84 arM_42 b9 (g_iconst dX13_on_85 kc_1 (g_istore_n dX13_on_86 rfl (by decide) rfl (g_sub [1, 2, 0] rfl (h11.2 q4).2.2))))))))))))))))))))))))))))
theorem bX13_on_87 {d : Nat}  {v2 : Int32} {v3 : Int32} {I : Ii} {J : Jj} {K : KI}
    (h : ((5 ≤ v3) → (GoI wM (d + 1) mX13_on 55 [(0, .ref (0)), (2, .int (v2 + 1))] [] I J K)) ∧ ((¬ 5 ≤ v3) → (vp_in ((2 + (5 * v2)) + v3) 1600 ∧ (vp_in ((1 + (5 * v2)) + v3) 132 ∧ (GoI wM (d + 1) mX13_on 87 [(0, .ref (0)), (2, .int (v2)), (3, .int (v3 + 1))] [] (u2 I 42 ((1 + (5 * v2)) + v3).toNatClampNeg (I 1 ((2 + (5 * v2)) + v3).toNatClampNeg)) J K))))) :
    GoI wM (d + 1) mX13_on 87 [(0, .ref (0)), (2, .int (v2)), (3, .int (v3))] [] I J K :=
  (g_iload_n dX13_on_87 2 3 rfl rfl (g_iconst dX13_on_88 kc_5 (g_icmp_ge dX13_on_89 rfl (fun q1 => (g_iinc dX13_on_122 1 rfl rfl (by decide) rfl (g_goto dX13_on_125 rfl (g_sub [1, 0] rfl (h.1 q1))))) (fun q1 => (g_aload_n dX13_on_92 0 0 rfl rfl (g_getP dX13_on_93 fl_X13_139 rfl obM_0 rfl (g_iconst dX13_on_96 kc_1 (g_iconst dX13_on_97 kc_5 (g_iload_n dX13_on_98 1 2 rfl rfl (g_imul dX13_on_99 (g_iadd dX13_on_100 (g_iload_n dX13_on_101 2 3 rfl rfl (g_iadd dX13_on_102 (g_aload_n dX13_on_103 0 0 rfl rfl (g_getP dX13_on_104 fl_X13_7 rfl obM_0 rfl (g_iconst dX13_on_107 kc_2 (g_iconst dX13_on_108 kc_5 (g_iload_n dX13_on_109 1 2 rfl rfl (g_imul dX13_on_110 (g_iadd dX13_on_111 (g_iload_n dX13_on_112 2 3 rfl rfl (g_iadd dX13_on_113 (have b2 := (h.2 q1).1; g_iald dX13_on_114 arM_1 b2 (have b3 := (h.2 q1).2.1; g_iast dX13_on_115 arM_42 b3 (g_iinc dX13_on_116 2 rfl rfl (by decide) rfl (g_goto dX13_on_119 rfl (g_sub [1, 2, 0] rfl (h.2 q1).2.2)))))))))))))))))))))))))))
theorem dX13_isImage_0 : decode cX13_isImage 0 = .ok (.iload_n 1, 1) := by decide +kernel
theorem dX13_isImage_1 : decode cX13_isImage 1 = .ok (.iconst 3, 1) := by decide +kernel
theorem dX13_isImage_2 : decode cX13_isImage 2 = .ok (.iconst 5, 1) := by decide +kernel
theorem dX13_isImage_3 : decode cX13_isImage 3 = .ok (.aload_n 0, 1) := by decide +kernel
theorem dX13_isImage_4 : decode cX13_isImage 4 = .ok (.invokevirtual 401, 3) := by decide +kernel
theorem dX13_isImage_7 : decode cX13_isImage 7 = .ok (.imul, 1) := by decide +kernel
theorem dX13_isImage_8 : decode cX13_isImage 8 = .ok (.iadd, 1) := by decide +kernel
theorem dX13_isImage_9 : decode cX13_isImage 9 = .ok (.if_icmp .ne 47, 3) := by decide +kernel
theorem dX13_isImage_12 : decode cX13_isImage 12 = .ok (.aload_n 0, 1) := by decide +kernel
theorem dX13_isImage_13 : decode cX13_isImage 13 = .ok (.getfield 7, 3) := by decide +kernel
theorem dX13_isImage_16 : decode cX13_isImage 16 = .ok (.iload_n 1, 1) := by decide +kernel
theorem dX13_isImage_17 : decode cX13_isImage 17 = .ok (.iconst 1, 1) := by decide +kernel
theorem dX13_isImage_18 : decode cX13_isImage 18 = .ok (.isub, 1) := by decide +kernel
theorem dX13_isImage_19 : decode cX13_isImage 19 = .ok (.iaload, 1) := by decide +kernel
theorem dX13_isImage_20 : decode cX13_isImage 20 = .ok (.aload_n 0, 1) := by decide +kernel
theorem dX13_isImage_21 : decode cX13_isImage 21 = .ok (.getfield 7, 3) := by decide +kernel
theorem dX13_isImage_24 : decode cX13_isImage 24 = .ok (.iload_n 1, 1) := by decide +kernel
theorem dX13_isImage_25 : decode cX13_isImage 25 = .ok (.iconst 1, 1) := by decide +kernel
theorem dX13_isImage_26 : decode cX13_isImage 26 = .ok (.isub, 1) := by decide +kernel
theorem dX13_isImage_27 : decode cX13_isImage 27 = .ok (.invokestatic 659, 3) := by decide +kernel
theorem dX13_isImage_30 : decode cX13_isImage 30 = .ok (.if_icmp .ne 26, 3) := by decide +kernel
theorem dX13_isImage_33 : decode cX13_isImage 33 = .ok (.sipush 256, 3) := by decide +kernel
theorem dX13_isImage_36 : decode cX13_isImage 36 = .ok (.aload_n 0, 1) := by decide +kernel
theorem dX13_isImage_37 : decode cX13_isImage 37 = .ok (.getfield 7, 3) := by decide +kernel
theorem dX13_isImage_40 : decode cX13_isImage 40 = .ok (.iconst 0, 1) := by decide +kernel
theorem dX13_isImage_41 : decode cX13_isImage 41 = .ok (.iaload, 1) := by decide +kernel
theorem dX13_isImage_42 : decode cX13_isImage 42 = .ok (.imul, 1) := by decide +kernel
theorem dX13_isImage_43 : decode cX13_isImage 43 = .ok (.aload_n 0, 1) := by decide +kernel
theorem dX13_isImage_44 : decode cX13_isImage 44 = .ok (.getfield 7, 3) := by decide +kernel
theorem dX13_isImage_47 : decode cX13_isImage 47 = .ok (.iconst 1, 1) := by decide +kernel
theorem dX13_isImage_48 : decode cX13_isImage 48 = .ok (.iaload, 1) := by decide +kernel
theorem dX13_isImage_49 : decode cX13_isImage 49 = .ok (.iadd, 1) := by decide +kernel
theorem dX13_isImage_50 : decode cX13_isImage 50 = .ok (.sipush 999, 3) := by decide +kernel
theorem dX13_isImage_53 : decode cX13_isImage 53 = .ok (.if_icmp .le 5, 3) := by decide +kernel
theorem dX13_isImage_56 : decode cX13_isImage 56 = .ok (.iconst 0, 1) := by decide +kernel
theorem dX13_isImage_57 : decode cX13_isImage 57 = .ok (.ireturn, 1) := by decide +kernel
theorem dX13_isImage_58 : decode cX13_isImage 58 = .ok (.iconst 0, 1) := by decide +kernel
theorem dX13_isImage_59 : decode cX13_isImage 59 = .ok (.istore_n 2, 1) := by decide +kernel
theorem dX13_isImage_60 : decode cX13_isImage 60 = .ok (.iload_n 2, 1) := by decide +kernel
theorem dX13_isImage_61 : decode cX13_isImage 61 = .ok (.aload_n 0, 1) := by decide +kernel
theorem dX13_isImage_62 : decode cX13_isImage 62 = .ok (.invokevirtual 401, 3) := by decide +kernel
theorem dX13_isImage_65 : decode cX13_isImage 65 = .ok (.if_icmp .ge 36, 3) := by decide +kernel
theorem dX13_isImage_68 : decode cX13_isImage 68 = .ok (.aload_n 0, 1) := by decide +kernel
theorem dX13_isImage_69 : decode cX13_isImage 69 = .ok (.getfield 7, 3) := by decide +kernel
theorem dX13_isImage_72 : decode cX13_isImage 72 = .ok (.iconst 2, 1) := by decide +kernel
theorem dX13_isImage_73 : decode cX13_isImage 73 = .ok (.iconst 5, 1) := by decide +kernel
theorem dX13_isImage_74 : decode cX13_isImage 74 = .ok (.iload_n 2, 1) := by decide +kernel
theorem dX13_isImage_75 : decode cX13_isImage 75 = .ok (.imul, 1) := by decide +kernel
theorem dX13_isImage_76 : decode cX13_isImage 76 = .ok (.iadd, 1) := by decide +kernel
theorem dX13_isImage_77 : decode cX13_isImage 77 = .ok (.iaload, 1) := by decide +kernel
theorem dX13_isImage_78 : decode cX13_isImage 78 = .ok (.aload_n 0, 1) := by decide +kernel
theorem dX13_isImage_79 : decode cX13_isImage 79 = .ok (.invokevirtual 401, 3) := by decide +kernel
theorem dX13_isImage_82 : decode cX13_isImage 82 = .ok (.if_icmp .gt 11, 3) := by decide +kernel
theorem dX13_isImage_85 : decode cX13_isImage 85 = .ok (.aload_n 0, 1) := by decide +kernel
theorem dX13_isImage_86 : decode cX13_isImage 86 = .ok (.iload_n 2, 1) := by decide +kernel
theorem dX13_isImage_87 : decode cX13_isImage 87 = .ok (.invokevirtual 663, 3) := by decide +kernel
theorem dX13_isImage_90 : decode cX13_isImage 90 = .ok (.ifCond .ne 5, 3) := by decide +kernel
theorem dX13_isImage_93 : decode cX13_isImage 93 = .ok (.iconst 0, 1) := by decide +kernel
theorem dX13_isImage_94 : decode cX13_isImage 94 = .ok (.ireturn, 1) := by decide +kernel
theorem dX13_isImage_95 : decode cX13_isImage 95 = .ok (.iinc 2 1, 3) := by decide +kernel
theorem dX13_isImage_98 : decode cX13_isImage 98 = .ok (.goto (-38), 3) := by decide +kernel
theorem dX13_isImage_101 : decode cX13_isImage 101 = .ok (.iconst 0, 1) := by decide +kernel
theorem dX13_isImage_102 : decode cX13_isImage 102 = .ok (.istore_n 2, 1) := by decide +kernel
theorem dX13_isImage_103 : decode cX13_isImage 103 = .ok (.iload_n 2, 1) := by decide +kernel
theorem dX13_isImage_104 : decode cX13_isImage 104 = .ok (.aload_n 0, 1) := by decide +kernel
theorem dX13_isImage_105 : decode cX13_isImage 105 = .ok (.invokevirtual 401, 3) := by decide +kernel
theorem dX13_isImage_108 : decode cX13_isImage 108 = .ok (.if_icmp .ge 19, 3) := by decide +kernel
theorem dX13_isImage_111 : decode cX13_isImage 111 = .ok (.aload_n 0, 1) := by decide +kernel
theorem dX13_isImage_112 : decode cX13_isImage 112 = .ok (.iload_n 2, 1) := by decide +kernel
theorem dX13_isImage_113 : decode cX13_isImage 113 = .ok (.invokevirtual 666, 3) := by decide +kernel
theorem dX13_isImage_116 : decode cX13_isImage 116 = .ok (.ifCond .eq 5, 3) := by decide +kernel
theorem dX13_isImage_119 : decode cX13_isImage 119 = .ok (.iconst 0, 1) := by decide +kernel
theorem dX13_isImage_120 : decode cX13_isImage 120 = .ok (.ireturn, 1) := by decide +kernel
theorem dX13_isImage_121 : decode cX13_isImage 121 = .ok (.iinc 2 1, 3) := by decide +kernel
theorem dX13_isImage_124 : decode cX13_isImage 124 = .ok (.goto (-21), 3) := by decide +kernel
theorem dX13_isImage_127 : decode cX13_isImage 127 = .ok (.iconst 1, 1) := by decide +kernel
theorem dX13_isImage_128 : decode cX13_isImage 128 = .ok (.ireturn, 1) := by decide +kernel
theorem bX13_isImage_0 {d : Nat}  {v1 : Int32} {I : Ii} {J : Jj} {K : KI}
    (h : CalI wM d mX13_personMany [.ref (0)] I J (fun x3 I1 J2 => (((¬ v1 = (3 + (5 * x3))) → (K (0) I1 J2)) ∧ ((v1 = (3 + (5 * x3))) → (vp_in (v1 - 1) 1600 ∧ (CalI wM d mX13_checked [.ref (1), .int (v1 - 1)] I1 J2 (fun x8 I6 J7 => (((¬ (I1 1 (v1 - 1).toNatClampNeg) = x8) → (K (0) I6 J7)) ∧ (((I1 1 (v1 - 1).toNatClampNeg) = x8) → (((((256 * (I6 1 (0 : Int32).toNatClampNeg)) + (I6 1 (1 : Int32).toNatClampNeg)) ≤ 999) → (GoI wM (d + 1) mX13_isImage 60 [(0, .ref (0)), (2, .int (0))] [] I6 J7 K)) ∧ ((¬ ((256 * (I6 1 (0 : Int32).toNatClampNeg)) + (I6 1 (1 : Int32).toNatClampNeg)) ≤ 999) → (K (0) I6 J7)))))))))))) :
    GoI wM (d + 1) mX13_isImage 0 [(0, .ref (0)), (1, .int (v1))] [] I J K :=
  (g_iload_n dX13_isImage_0 1 1 rfl rfl (g_iconst dX13_isImage_1 kc_3 (g_iconst dX13_isImage_2 kc_5 (g_aload_n dX13_isImage_3 0 0 rfl rfl (g_callvI dX13_isImage_4 ml_X13_401 md_X13_personMany mv_X13_personMany obM_0 rfl rfl rfl (Nat.le_of_ble_eq_true rfl) (CalI.mono h (fun x3 I1 J2 h14 => (g_imul dX13_isImage_7 (g_iadd dX13_isImage_8 (g_icmp_ne dX13_isImage_9 rfl (fun q4 => (g_iconst dX13_isImage_56 kc_0 (g_zreturn dX13_isImage_57 rfl (narZ (by decide)) ⟨_, rfl, (h14.1 q4)⟩))) (fun q4 => (g_aload_n dX13_isImage_12 0 0 rfl rfl (g_getP dX13_isImage_13 fl_X13_7 rfl obM_0 rfl (g_iload_n dX13_isImage_16 1 1 rfl rfl (g_iconst dX13_isImage_17 kc_1 (g_isub dX13_isImage_18 (have b5 := (h14.2 q4).1; g_iald dX13_isImage_19 arM_1 b5 (g_aload_n dX13_isImage_20 0 0 rfl rfl (g_getP dX13_isImage_21 fl_X13_7 rfl obM_0 rfl (g_iload_n dX13_isImage_24 1 1 rfl rfl (g_iconst dX13_isImage_25 kc_1 (g_isub dX13_isImage_26 (g_callsI dX13_isImage_27 ml_X13_659 md_X13_checked ms_X13_checked rfl rfl (Nat.le_of_ble_eq_true rfl) (CalI.mono (h14.2 q4).2 (fun x8 I6 J7 h13 => (g_icmp_ne dX13_isImage_30 rfl (fun q9 => (g_iconst dX13_isImage_56 kc_0 (g_zreturn dX13_isImage_57 rfl (narZ (by decide)) ⟨_, rfl, (h13.1 q9)⟩))) (fun q9 => (g_sipush dX13_isImage_33 ks_256 (g_aload_n dX13_isImage_36 0 0 rfl rfl (g_getP dX13_isImage_37 fl_X13_7 rfl obM_0 rfl (g_iconst dX13_isImage_40 kc_0 (g_iald dX13_isImage_41 arM_1 (by unfold vp_in; decide) (g_imul dX13_isImage_42 (g_aload_n dX13_isImage_43 0 0 rfl rfl (g_getP dX13_isImage_44 fl_X13_7 rfl obM_0 rfl (g_iconst dX13_isImage_47 kc_1 (g_iald dX13_isImage_48 arM_1 (by unfold vp_in; decide) (g_iadd dX13_isImage_49 (g_sipush dX13_isImage_50 ks_999 (g_icmp_le dX13_isImage_53 rfl (fun q12 => (g_iconst dX13_isImage_58 kc_0 (g_istore_n dX13_isImage_59 rfl (by decide) rfl (g_sub [1, 0] rfl ((h13.2 q9).1 q12))))) (fun q12 => (g_iconst dX13_isImage_56 kc_0 (g_zreturn dX13_isImage_57 rfl (narZ (by decide)) ⟨_, rfl, ((h13.2 q9).2 q12)⟩)))))))))))))))))))))))))))))))))))))))))))
theorem bX13_isImage_60 {d : Nat}  {v2 : Int32} {I : Ii} {J : Jj} {K : KI}
    (h : CalI wM d mX13_personMany [.ref (0)] I J (fun x3 I1 J2 => (((x3 ≤ v2) → (GoI wM (d + 1) mX13_isImage 103 [(0, .ref (0)), (2, .int (0))] [] I1 J2 K)) ∧ ((¬ x3 ≤ v2) → (vp_in (2 + (5 * v2)) 1600 ∧ (CalI wM d mX13_personMany [.ref (0)] I1 J2 (fun x8 I6 J7 => (((x8 < (I1 1 (2 + (5 * v2)).toNatClampNeg)) → (K (0) I6 J7)) ∧ ((¬ x8 < (I1 1 (2 + (5 * v2)).toNatClampNeg)) → (CalI wM d mX13_isPersonTold [.ref (0), .int (v2)] I6 J7 (fun x12 I10 J11 => (((¬ x12 = 0) → (GoI wM (d + 1) mX13_isImage 60 [(0, .ref (0)), (2, .int (v2 + 1))] [] I10 J11 K)) ∧ ((x12 = 0) → (K (0) I10 J11)))))))))))))) :
    GoI wM (d + 1) mX13_isImage 60 [(0, .ref (0)), (2, .int (v2))] [] I J K :=
  (g_iload_n dX13_isImage_60 1 2 rfl rfl (g_aload_n dX13_isImage_61 0 0 rfl rfl (g_callvI dX13_isImage_62 ml_X13_401 md_X13_personMany mv_X13_personMany obM_0 rfl rfl rfl (Nat.le_of_ble_eq_true rfl) (CalI.mono h (fun x3 I1 J2 h16 => (g_icmp_ge dX13_isImage_65 rfl (fun q4 => (g_iconst dX13_isImage_101 kc_0 (g_istore_n dX13_isImage_102 rfl (by decide) rfl (g_sub [1, 0] rfl (h16.1 q4))))) (fun q4 => (g_aload_n dX13_isImage_68 0 0 rfl rfl (g_getP dX13_isImage_69 fl_X13_7 rfl obM_0 rfl (g_iconst dX13_isImage_72 kc_2 (g_iconst dX13_isImage_73 kc_5 (g_iload_n dX13_isImage_74 1 2 rfl rfl (g_imul dX13_isImage_75 (g_iadd dX13_isImage_76 (have b5 := (h16.2 q4).1; g_iald dX13_isImage_77 arM_1 b5 (g_aload_n dX13_isImage_78 0 0 rfl rfl (g_callvI dX13_isImage_79 ml_X13_401 md_X13_personMany mv_X13_personMany obM_0 rfl rfl rfl (Nat.le_of_ble_eq_true rfl) (CalI.mono (h16.2 q4).2 (fun x8 I6 J7 h15 => (g_icmp_gt dX13_isImage_82 rfl (fun q9 => (g_iconst dX13_isImage_93 kc_0 (g_zreturn dX13_isImage_94 rfl (narZ (by decide)) ⟨_, rfl, (h15.1 q9)⟩))) (fun q9 => (g_aload_n dX13_isImage_85 0 0 rfl rfl (g_iload_n dX13_isImage_86 1 2 rfl rfl (g_callvI dX13_isImage_87 ml_X13_663 md_X13_isPersonTold mv_X13_isPersonTold obM_0 rfl rfl rfl (Nat.le_of_ble_eq_true rfl) (CalI.mono (h15.2 q9) (fun x12 I10 J11 h14 => (g_if_ne dX13_isImage_90 rfl (fun q13 => (g_iinc dX13_isImage_95 1 rfl rfl (by decide) rfl (g_goto dX13_isImage_98 rfl (g_sub [1, 0] rfl (h14.1 q13))))) (fun q13 => (g_iconst dX13_isImage_93 kc_0 (g_zreturn dX13_isImage_94 rfl (narZ (by decide)) ⟨_, rfl, (h14.2 q13)⟩))))))))))))))))))))))))))))))
theorem bX13_isImage_103 {d : Nat}  {v2 : Int32} {I : Ii} {J : Jj} {K : KI}
    (h : CalI wM d mX13_personMany [.ref (0)] I J (fun x3 I1 J2 => (((x3 ≤ v2) → (K (1) I1 J2)) ∧ ((¬ x3 ≤ v2) → (CalI wM d mX13_isRing [.ref (0), .int (v2)] I1 J2 (fun x7 I5 J6 => (((x7 = 0) → (GoI wM (d + 1) mX13_isImage 103 [(0, .ref (0)), (2, .int (v2 + 1))] [] I5 J6 K)) ∧ ((¬ x7 = 0) → (K (0) I5 J6))))))))) :
    GoI wM (d + 1) mX13_isImage 103 [(0, .ref (0)), (2, .int (v2))] [] I J K :=
  (g_iload_n dX13_isImage_103 1 2 rfl rfl (g_aload_n dX13_isImage_104 0 0 rfl rfl (g_callvI dX13_isImage_105 ml_X13_401 md_X13_personMany mv_X13_personMany obM_0 rfl rfl rfl (Nat.le_of_ble_eq_true rfl) (CalI.mono h (fun x3 I1 J2 h10 => (g_icmp_ge dX13_isImage_108 rfl (fun q4 => (g_iconst dX13_isImage_127 kc_1 (g_zreturn dX13_isImage_128 rfl (narZ (by decide)) ⟨_, rfl, (h10.1 q4)⟩))) (fun q4 => (g_aload_n dX13_isImage_111 0 0 rfl rfl (g_iload_n dX13_isImage_112 1 2 rfl rfl (g_callvI dX13_isImage_113 ml_X13_666 md_X13_isRing mv_X13_isRing obM_0 rfl rfl rfl (Nat.le_of_ble_eq_true rfl) (CalI.mono (h10.2 q4) (fun x7 I5 J6 h9 => (g_if_eq dX13_isImage_116 rfl (fun q8 => (g_iinc dX13_isImage_121 1 rfl rfl (by decide) rfl (g_goto dX13_isImage_124 rfl (g_sub [1, 0] rfl (h9.1 q8))))) (fun q8 => (g_iconst dX13_isImage_119 kc_0 (g_zreturn dX13_isImage_120 rfl (narZ (by decide)) ⟨_, rfl, (h9.2 q8)⟩))))))))))))))))
theorem dX13_isPersonTold_0 : decode cX13_isPersonTold 0 = .ok (.iconst 2, 1) := by decide +kernel
theorem dX13_isPersonTold_1 : decode cX13_isPersonTold 1 = .ok (.iconst 5, 1) := by decide +kernel
theorem dX13_isPersonTold_2 : decode cX13_isPersonTold 2 = .ok (.iload_n 1, 1) := by decide +kernel
theorem dX13_isPersonTold_3 : decode cX13_isPersonTold 3 = .ok (.imul, 1) := by decide +kernel
theorem dX13_isPersonTold_4 : decode cX13_isPersonTold 4 = .ok (.iadd, 1) := by decide +kernel
theorem dX13_isPersonTold_5 : decode cX13_isPersonTold 5 = .ok (.istore_n 2, 1) := by decide +kernel
theorem dX13_isPersonTold_6 : decode cX13_isPersonTold 6 = .ok (.iconst 1, 1) := by decide +kernel
theorem dX13_isPersonTold_7 : decode cX13_isPersonTold 7 = .ok (.aload_n 0, 1) := by decide +kernel
theorem dX13_isPersonTold_8 : decode cX13_isPersonTold 8 = .ok (.invokevirtual 398, 3) := by decide +kernel
theorem dX13_isPersonTold_11 : decode cX13_isPersonTold 11 = .ok (.ishl, 1) := by decide +kernel
theorem dX13_isPersonTold_12 : decode cX13_isPersonTold 12 = .ok (.istore_n 3, 1) := by decide +kernel
theorem dX13_isPersonTold_13 : decode cX13_isPersonTold 13 = .ok (.aload_n 0, 1) := by decide +kernel
theorem dX13_isPersonTold_14 : decode cX13_isPersonTold 14 = .ok (.getfield 7, 3) := by decide +kernel
theorem dX13_isPersonTold_17 : decode cX13_isPersonTold 17 = .ok (.iload_n 2, 1) := by decide +kernel
theorem dX13_isPersonTold_18 : decode cX13_isPersonTold 18 = .ok (.iconst 1, 1) := by decide +kernel
theorem dX13_isPersonTold_19 : decode cX13_isPersonTold 19 = .ok (.iadd, 1) := by decide +kernel
theorem dX13_isPersonTold_20 : decode cX13_isPersonTold 20 = .ok (.iaload, 1) := by decide +kernel
theorem dX13_isPersonTold_21 : decode cX13_isPersonTold 21 = .ok (.iload_n 3, 1) := by decide +kernel
theorem dX13_isPersonTold_22 : decode cX13_isPersonTold 22 = .ok (.if_icmp .ge 64, 3) := by decide +kernel
theorem dX13_isPersonTold_25 : decode cX13_isPersonTold 25 = .ok (.aload_n 0, 1) := by decide +kernel
theorem dX13_isPersonTold_26 : decode cX13_isPersonTold 26 = .ok (.getfield 7, 3) := by decide +kernel
theorem dX13_isPersonTold_29 : decode cX13_isPersonTold 29 = .ok (.iload_n 2, 1) := by decide +kernel
theorem dX13_isPersonTold_30 : decode cX13_isPersonTold 30 = .ok (.iconst 2, 1) := by decide +kernel
theorem dX13_isPersonTold_31 : decode cX13_isPersonTold 31 = .ok (.iadd, 1) := by decide +kernel
theorem dX13_isPersonTold_32 : decode cX13_isPersonTold 32 = .ok (.iaload, 1) := by decide +kernel
theorem dX13_isPersonTold_33 : decode cX13_isPersonTold 33 = .ok (.iload_n 3, 1) := by decide +kernel
theorem dX13_isPersonTold_34 : decode cX13_isPersonTold 34 = .ok (.if_icmp .ge 52, 3) := by decide +kernel
theorem dX13_isPersonTold_37 : decode cX13_isPersonTold 37 = .ok (.aload_n 0, 1) := by decide +kernel
theorem dX13_isPersonTold_38 : decode cX13_isPersonTold 38 = .ok (.getfield 7, 3) := by decide +kernel
theorem dX13_isPersonTold_41 : decode cX13_isPersonTold 41 = .ok (.iload_n 2, 1) := by decide +kernel
theorem dX13_isPersonTold_42 : decode cX13_isPersonTold 42 = .ok (.iconst 1, 1) := by decide +kernel
theorem dX13_isPersonTold_43 : decode cX13_isPersonTold 43 = .ok (.iadd, 1) := by decide +kernel
theorem dX13_isPersonTold_44 : decode cX13_isPersonTold 44 = .ok (.iaload, 1) := by decide +kernel
theorem dX13_isPersonTold_45 : decode cX13_isPersonTold 45 = .ok (.aload_n 0, 1) := by decide +kernel
theorem dX13_isPersonTold_46 : decode cX13_isPersonTold 46 = .ok (.getfield 7, 3) := by decide +kernel
theorem dX13_isPersonTold_49 : decode cX13_isPersonTold 49 = .ok (.iload_n 2, 1) := by decide +kernel
theorem dX13_isPersonTold_50 : decode cX13_isPersonTold 50 = .ok (.iconst 2, 1) := by decide +kernel
theorem dX13_isPersonTold_51 : decode cX13_isPersonTold 51 = .ok (.iadd, 1) := by decide +kernel
theorem dX13_isPersonTold_52 : decode cX13_isPersonTold 52 = .ok (.iaload, 1) := by decide +kernel
theorem dX13_isPersonTold_53 : decode cX13_isPersonTold 53 = .ok (.iand, 1) := by decide +kernel
theorem dX13_isPersonTold_54 : decode cX13_isPersonTold 54 = .ok (.ifCond .ne 32, 3) := by decide +kernel
theorem dX13_isPersonTold_57 : decode cX13_isPersonTold 57 = .ok (.aload_n 0, 1) := by decide +kernel
theorem dX13_isPersonTold_58 : decode cX13_isPersonTold 58 = .ok (.getfield 7, 3) := by decide +kernel
theorem dX13_isPersonTold_61 : decode cX13_isPersonTold 61 = .ok (.iload_n 2, 1) := by decide +kernel
theorem dX13_isPersonTold_62 : decode cX13_isPersonTold 62 = .ok (.iconst 3, 1) := by decide +kernel
theorem dX13_isPersonTold_63 : decode cX13_isPersonTold 63 = .ok (.iadd, 1) := by decide +kernel
theorem dX13_isPersonTold_64 : decode cX13_isPersonTold 64 = .ok (.iaload, 1) := by decide +kernel
theorem dX13_isPersonTold_65 : decode cX13_isPersonTold 65 = .ok (.bipush 9, 2) := by decide +kernel
theorem dX13_isPersonTold_67 : decode cX13_isPersonTold 67 = .ok (.if_icmp .gt 19, 3) := by decide +kernel
theorem dX13_isPersonTold_70 : decode cX13_isPersonTold 70 = .ok (.aload_n 0, 1) := by decide +kernel
theorem dX13_isPersonTold_71 : decode cX13_isPersonTold 71 = .ok (.getfield 7, 3) := by decide +kernel
theorem dX13_isPersonTold_74 : decode cX13_isPersonTold 74 = .ok (.iload_n 2, 1) := by decide +kernel
theorem dX13_isPersonTold_75 : decode cX13_isPersonTold 75 = .ok (.iconst 4, 1) := by decide +kernel
theorem dX13_isPersonTold_76 : decode cX13_isPersonTold 76 = .ok (.iadd, 1) := by decide +kernel
theorem dX13_isPersonTold_77 : decode cX13_isPersonTold 77 = .ok (.iaload, 1) := by decide +kernel
theorem dX13_isPersonTold_78 : decode cX13_isPersonTold 78 = .ok (.iconst 4, 1) := by decide +kernel
theorem dX13_isPersonTold_79 : decode cX13_isPersonTold 79 = .ok (.if_icmp .ge 7, 3) := by decide +kernel
theorem dX13_isPersonTold_82 : decode cX13_isPersonTold 82 = .ok (.iconst 1, 1) := by decide +kernel
theorem dX13_isPersonTold_83 : decode cX13_isPersonTold 83 = .ok (.goto 4, 3) := by decide +kernel
theorem dX13_isPersonTold_86 : decode cX13_isPersonTold 86 = .ok (.iconst 0, 1) := by decide +kernel
theorem dX13_isPersonTold_87 : decode cX13_isPersonTold 87 = .ok (.ireturn, 1) := by decide +kernel
theorem bX13_isPersonTold_0 {d : Nat}  {v1 : Int32} {I : Ii} {J : Jj} {K : KI}
    (h : CalI wM d mX13_factMany [.ref (0)] I J (fun x3 I1 J2 => (vp_in ((2 + (5 * v1)) + 1) 1600 ∧ ((((1 <<< (x3 &&& 31)) ≤ (I1 1 ((2 + (5 * v1)) + 1).toNatClampNeg)) → (K (0) I1 J2)) ∧ ((¬ (1 <<< (x3 &&& 31)) ≤ (I1 1 ((2 + (5 * v1)) + 1).toNatClampNeg)) → (vp_in ((2 + (5 * v1)) + 2) 1600 ∧ ((((1 <<< (x3 &&& 31)) ≤ (I1 1 ((2 + (5 * v1)) + 2).toNatClampNeg)) → (K (0) I1 J2)) ∧ ((¬ (1 <<< (x3 &&& 31)) ≤ (I1 1 ((2 + (5 * v1)) + 2).toNatClampNeg)) → (((¬ ((I1 1 ((2 + (5 * v1)) + 1).toNatClampNeg) &&& (I1 1 ((2 + (5 * v1)) + 2).toNatClampNeg)) = 0) → (K (0) I1 J2)) ∧ ((((I1 1 ((2 + (5 * v1)) + 1).toNatClampNeg) &&& (I1 1 ((2 + (5 * v1)) + 2).toNatClampNeg)) = 0) → (vp_in ((2 + (5 * v1)) + 3) 1600 ∧ (((9 < (I1 1 ((2 + (5 * v1)) + 3).toNatClampNeg)) → (K (0) I1 J2)) ∧ ((¬ 9 < (I1 1 ((2 + (5 * v1)) + 3).toNatClampNeg)) → (vp_in ((2 + (5 * v1)) + 4) 1600 ∧ (((4 ≤ (I1 1 ((2 + (5 * v1)) + 4).toNatClampNeg)) → (K (0) I1 J2)) ∧ ((¬ 4 ≤ (I1 1 ((2 + (5 * v1)) + 4).toNatClampNeg)) → (K (1) I1 J2))))))))))))))))) :
    GoI wM (d + 1) mX13_isPersonTold 0 [(0, .ref (0)), (1, .int (v1))] [] I J K :=
  (g_iconst dX13_isPersonTold_0 kc_2 (g_iconst dX13_isPersonTold_1 kc_5 (g_iload_n dX13_isPersonTold_2 1 1 rfl rfl (g_imul dX13_isPersonTold_3 (g_iadd dX13_isPersonTold_4 (g_istore_n dX13_isPersonTold_5 rfl (by decide) rfl (g_iconst dX13_isPersonTold_6 kc_1 (g_aload_n dX13_isPersonTold_7 1 0 rfl rfl (g_callvI dX13_isPersonTold_8 ml_X13_398 md_X13_factMany mv_X13_factMany obM_0 rfl rfl rfl (Nat.le_of_ble_eq_true rfl) (CalI.mono h (fun x3 I1 J2 h13 => (g_ishl dX13_isPersonTold_11 (g_istore_n dX13_isPersonTold_12 rfl (by decide) rfl (g_aload_n dX13_isPersonTold_13 2 0 rfl rfl (g_getP dX13_isPersonTold_14 fl_X13_7 rfl obM_0 rfl (g_iload_n dX13_isPersonTold_17 1 2 rfl rfl (g_iconst dX13_isPersonTold_18 kc_1 (g_iadd dX13_isPersonTold_19 (have b4 := h13.1; g_iald dX13_isPersonTold_20 arM_1 b4 (g_iload_n dX13_isPersonTold_21 0 3 rfl rfl (g_icmp_ge dX13_isPersonTold_22 rfl (fun q5 => (g_iconst dX13_isPersonTold_86 kc_0 (g_zreturn dX13_isPersonTold_87 rfl (narZ (by decide)) ⟨_, rfl, (h13.2.1 q5)⟩))) (fun q5 => (g_aload_n dX13_isPersonTold_25 2 0 rfl rfl (g_getP dX13_isPersonTold_26 fl_X13_7 rfl obM_0 rfl (g_iload_n dX13_isPersonTold_29 1 2 rfl rfl (g_iconst dX13_isPersonTold_30 kc_2 (g_iadd dX13_isPersonTold_31 (have b6 := (h13.2.2 q5).1; g_iald dX13_isPersonTold_32 arM_1 b6 (g_iload_n dX13_isPersonTold_33 0 3 rfl rfl (g_icmp_ge dX13_isPersonTold_34 rfl (fun q7 => (g_iconst dX13_isPersonTold_86 kc_0 (g_zreturn dX13_isPersonTold_87 rfl (narZ (by decide)) ⟨_, rfl, ((h13.2.2 q5).2.1 q7)⟩))) (fun q7 => (g_aload_n dX13_isPersonTold_37 2 0 rfl rfl (g_getP dX13_isPersonTold_38 fl_X13_7 rfl obM_0 rfl (g_iload_n dX13_isPersonTold_41 1 2 rfl rfl (g_iconst dX13_isPersonTold_42 kc_1 (g_iadd dX13_isPersonTold_43 (g_iald dX13_isPersonTold_44 arM_1 b4 (g_aload_n dX13_isPersonTold_45 2 0 rfl rfl (g_getP dX13_isPersonTold_46 fl_X13_7 rfl obM_0 rfl (g_iload_n dX13_isPersonTold_49 1 2 rfl rfl (g_iconst dX13_isPersonTold_50 kc_2 (g_iadd dX13_isPersonTold_51 (g_iald dX13_isPersonTold_52 arM_1 b6 (g_iand dX13_isPersonTold_53 (g_if_ne dX13_isPersonTold_54 rfl (fun q8 => (g_iconst dX13_isPersonTold_86 kc_0 (g_zreturn dX13_isPersonTold_87 rfl (narZ (by decide)) ⟨_, rfl, (((h13.2.2 q5).2.2 q7).1 q8)⟩))) (fun q8 => (g_aload_n dX13_isPersonTold_57 2 0 rfl rfl (g_getP dX13_isPersonTold_58 fl_X13_7 rfl obM_0 rfl (g_iload_n dX13_isPersonTold_61 1 2 rfl rfl (g_iconst dX13_isPersonTold_62 kc_3 (g_iadd dX13_isPersonTold_63 (have b9 := (((h13.2.2 q5).2.2 q7).2 q8).1; g_iald dX13_isPersonTold_64 arM_1 b9 (g_bipush dX13_isPersonTold_65 kb_9 (g_icmp_gt dX13_isPersonTold_67 rfl (fun q10 => (g_iconst dX13_isPersonTold_86 kc_0 (g_zreturn dX13_isPersonTold_87 rfl (narZ (by decide)) ⟨_, rfl, ((((h13.2.2 q5).2.2 q7).2 q8).2.1 q10)⟩))) (fun q10 => (g_aload_n dX13_isPersonTold_70 2 0 rfl rfl (g_getP dX13_isPersonTold_71 fl_X13_7 rfl obM_0 rfl (g_iload_n dX13_isPersonTold_74 1 2 rfl rfl (g_iconst dX13_isPersonTold_75 kc_4 (g_iadd dX13_isPersonTold_76 (have b11 := ((((h13.2.2 q5).2.2 q7).2 q8).2.2 q10).1; g_iald dX13_isPersonTold_77 arM_1 b11 (g_iconst dX13_isPersonTold_78 kc_4 (g_icmp_ge dX13_isPersonTold_79 rfl (fun q12 => (g_iconst dX13_isPersonTold_86 kc_0 (g_zreturn dX13_isPersonTold_87 rfl (narZ (by decide)) ⟨_, rfl, (((((h13.2.2 q5).2.2 q7).2 q8).2.2 q10).2.1 q12)⟩))) (fun q12 => (g_iconst dX13_isPersonTold_82 kc_1 (g_goto dX13_isPersonTold_83 rfl (g_zreturn dX13_isPersonTold_87 rfl (narZ (by decide)) ⟨_, rfl, (((((h13.2.2 q5).2.2 q7).2 q8).2.2 q10).2.2 q12)⟩)))))))))))))))))))))))))))))))))))))))))))))))))))))))))))))))))))
theorem dX13_isRing_0 : decode cX13_isRing 0 = .ok (.aload_n 0, 1) := by decide +kernel
theorem dX13_isRing_1 : decode cX13_isRing 1 = .ok (.getfield 7, 3) := by decide +kernel
theorem dX13_isRing_4 : decode cX13_isRing 4 = .ok (.iconst 2, 1) := by decide +kernel
theorem dX13_isRing_5 : decode cX13_isRing 5 = .ok (.iconst 5, 1) := by decide +kernel
theorem dX13_isRing_6 : decode cX13_isRing 6 = .ok (.iload_n 1, 1) := by decide +kernel
theorem dX13_isRing_7 : decode cX13_isRing 7 = .ok (.imul, 1) := by decide +kernel
theorem dX13_isRing_8 : decode cX13_isRing 8 = .ok (.iadd, 1) := by decide +kernel
theorem dX13_isRing_9 : decode cX13_isRing 9 = .ok (.iaload, 1) := by decide +kernel
theorem dX13_isRing_10 : decode cX13_isRing 10 = .ok (.iconst 1, 1) := by decide +kernel
theorem dX13_isRing_11 : decode cX13_isRing 11 = .ok (.isub, 1) := by decide +kernel
theorem dX13_isRing_12 : decode cX13_isRing 12 = .ok (.istore_n 2, 1) := by decide +kernel
theorem dX13_isRing_13 : decode cX13_isRing 13 = .ok (.iconst 0, 1) := by decide +kernel
theorem dX13_isRing_14 : decode cX13_isRing 14 = .ok (.istore_n 3, 1) := by decide +kernel
theorem dX13_isRing_15 : decode cX13_isRing 15 = .ok (.iload_n 3, 1) := by decide +kernel
theorem dX13_isRing_16 : decode cX13_isRing 16 = .ok (.bipush 8, 2) := by decide +kernel
theorem dX13_isRing_18 : decode cX13_isRing 18 = .ok (.if_icmp .ge 32, 3) := by decide +kernel
theorem dX13_isRing_21 : decode cX13_isRing 21 = .ok (.iload_n 2, 1) := by decide +kernel
theorem dX13_isRing_22 : decode cX13_isRing 22 = .ok (.iconst (-1), 1) := by decide +kernel
theorem dX13_isRing_23 : decode cX13_isRing 23 = .ok (.if_icmp .eq 27, 3) := by decide +kernel
theorem dX13_isRing_26 : decode cX13_isRing 26 = .ok (.iload_n 2, 1) := by decide +kernel
theorem dX13_isRing_27 : decode cX13_isRing 27 = .ok (.iload_n 1, 1) := by decide +kernel
theorem dX13_isRing_28 : decode cX13_isRing 28 = .ok (.if_icmp .eq 22, 3) := by decide +kernel
theorem dX13_isRing_31 : decode cX13_isRing 31 = .ok (.aload_n 0, 1) := by decide +kernel
theorem dX13_isRing_32 : decode cX13_isRing 32 = .ok (.getfield 7, 3) := by decide +kernel
theorem dX13_isRing_35 : decode cX13_isRing 35 = .ok (.iconst 2, 1) := by decide +kernel
theorem dX13_isRing_36 : decode cX13_isRing 36 = .ok (.iconst 5, 1) := by decide +kernel
theorem dX13_isRing_37 : decode cX13_isRing 37 = .ok (.iload_n 2, 1) := by decide +kernel
theorem dX13_isRing_38 : decode cX13_isRing 38 = .ok (.imul, 1) := by decide +kernel
theorem dX13_isRing_39 : decode cX13_isRing 39 = .ok (.iadd, 1) := by decide +kernel
theorem dX13_isRing_40 : decode cX13_isRing 40 = .ok (.iaload, 1) := by decide +kernel
theorem dX13_isRing_41 : decode cX13_isRing 41 = .ok (.iconst 1, 1) := by decide +kernel
theorem dX13_isRing_42 : decode cX13_isRing 42 = .ok (.isub, 1) := by decide +kernel
theorem dX13_isRing_43 : decode cX13_isRing 43 = .ok (.istore_n 2, 1) := by decide +kernel
theorem dX13_isRing_44 : decode cX13_isRing 44 = .ok (.iinc 3 1, 3) := by decide +kernel
theorem dX13_isRing_47 : decode cX13_isRing 47 = .ok (.goto (-32), 3) := by decide +kernel
theorem dX13_isRing_50 : decode cX13_isRing 50 = .ok (.iload_n 2, 1) := by decide +kernel
theorem dX13_isRing_51 : decode cX13_isRing 51 = .ok (.iload_n 1, 1) := by decide +kernel
theorem dX13_isRing_52 : decode cX13_isRing 52 = .ok (.if_icmp .ne 7, 3) := by decide +kernel
theorem dX13_isRing_55 : decode cX13_isRing 55 = .ok (.iconst 1, 1) := by decide +kernel
theorem dX13_isRing_56 : decode cX13_isRing 56 = .ok (.goto 4, 3) := by decide +kernel
theorem dX13_isRing_59 : decode cX13_isRing 59 = .ok (.iconst 0, 1) := by decide +kernel
theorem dX13_isRing_60 : decode cX13_isRing 60 = .ok (.ireturn, 1) := by decide +kernel
theorem bX13_isRing_0 {d : Nat}  {v1 : Int32} {I : Ii} {J : Jj} {K : KI}
    (h : vp_in (2 + (5 * v1)) 1600 ∧ (∀ y2 : Int32, y2 = (I 1 (2 + (5 * v1)).toNatClampNeg) - 1 → (GoI wM d mX13_isRing 15 [(0, .ref (0)), (1, .int (v1)), (2, .int (y2)), (3, .int (0))] [] I J K))) :
    GoI wM d mX13_isRing 0 [(0, .ref (0)), (1, .int (v1))] [] I J K :=
  (g_aload_n dX13_isRing_0 0 0 rfl rfl (g_getP dX13_isRing_1 fl_X13_7 rfl obM_0 rfl (g_iconst dX13_isRing_4 kc_2 (g_iconst dX13_isRing_5 kc_5 (g_iload_n dX13_isRing_6 1 1 rfl rfl (g_imul dX13_isRing_7 (g_iadd dX13_isRing_8 (have b1 := h.1; g_iald dX13_isRing_9 arM_1 b1 (g_iconst dX13_isRing_10 kc_1 (g_isub dX13_isRing_11 (g_istore_n dX13_isRing_12 rfl (by decide) rfl (g_iconst dX13_isRing_13 kc_0 (g_istore_n dX13_isRing_14 rfl (by decide) rfl (g_sub [2, 3, 1, 0] rfl (h.2 _ rfl)))))))))))))))
theorem bX13_isRing_15 {d : Nat}  {v1 : Int32} {v2 : Int32} {v3 : Int32} {I : Ii} {J : Jj} {K : KI}
    (h : ((8 ≤ v3) → (((¬ v2 = v1) → (K (0) I J)) ∧ ((v2 = v1) → (K (1) I J)))) ∧ ((¬ 8 ≤ v3) → (((v2 = ((-1))) → (((¬ v2 = v1) → (K (0) I J)) ∧ ((v2 = v1) → (K (1) I J)))) ∧ ((¬ v2 = ((-1))) → (((v2 = v1) → (K (1) I J)) ∧ ((¬ v2 = v1) → (vp_in (2 + (5 * v2)) 1600 ∧ (∀ y7 : Int32, y7 = (I 1 (2 + (5 * v2)).toNatClampNeg) - 1 → (GoI wM d mX13_isRing 15 [(0, .ref (0)), (1, .int (v1)), (2, .int (y7)), (3, .int (v3 + 1))] [] I J K))))))))) :
    GoI wM d mX13_isRing 15 [(0, .ref (0)), (1, .int (v1)), (2, .int (v2)), (3, .int (v3))] [] I J K :=
  (g_iload_n dX13_isRing_15 3 3 rfl rfl (g_bipush dX13_isRing_16 kb_8 (g_icmp_ge dX13_isRing_18 rfl (fun q1 => (g_iload_n dX13_isRing_50 2 2 rfl rfl (g_iload_n dX13_isRing_51 1 1 rfl rfl (g_icmp_ne dX13_isRing_52 rfl (fun q2 => (g_iconst dX13_isRing_59 kc_0 (g_zreturn dX13_isRing_60 rfl (narZ (by decide)) ⟨_, rfl, ((h.1 q1).1 q2)⟩))) (fun q2 => (g_iconst dX13_isRing_55 kc_1 (g_goto dX13_isRing_56 rfl (g_zreturn dX13_isRing_60 rfl (narZ (by decide)) ⟨_, rfl, ((h.1 q1).2 q2)⟩)))))))) (fun q1 => (g_iload_n dX13_isRing_21 2 2 rfl rfl (g_iconst dX13_isRing_22 kc_n1 (g_icmp_eq dX13_isRing_23 rfl (fun q3 => (g_iload_n dX13_isRing_50 2 2 rfl rfl (g_iload_n dX13_isRing_51 1 1 rfl rfl (g_icmp_ne dX13_isRing_52 rfl (fun q4 => (g_iconst dX13_isRing_59 kc_0 (g_zreturn dX13_isRing_60 rfl (narZ (by decide)) ⟨_, rfl, (((h.2 q1).1 q3).1 q4)⟩))) (fun q4 => (g_iconst dX13_isRing_55 kc_1 (g_goto dX13_isRing_56 rfl (g_zreturn dX13_isRing_60 rfl (narZ (by decide)) ⟨_, rfl, (((h.2 q1).1 q3).2 q4)⟩)))))))) (fun q3 => (g_iload_n dX13_isRing_26 2 2 rfl rfl (g_iload_n dX13_isRing_27 1 1 rfl rfl (g_icmp_eq dX13_isRing_28 rfl (fun q5 => (g_iload_n dX13_isRing_50 2 2 rfl rfl (g_iload_n dX13_isRing_51 1 1 rfl rfl (g_icmp_ne dX13_isRing_52 rfl (fun q => absurd q5 q) (fun _ => (g_iconst dX13_isRing_55 kc_1 (g_goto dX13_isRing_56 rfl (g_zreturn dX13_isRing_60 rfl (narZ (by decide)) ⟨_, rfl, (((h.2 q1).2 q3).1 q5)⟩)))))))) (fun q5 => (g_aload_n dX13_isRing_31 0 0 rfl rfl (g_getP dX13_isRing_32 fl_X13_7 rfl obM_0 rfl (g_iconst dX13_isRing_35 kc_2 (g_iconst dX13_isRing_36 kc_5 (g_iload_n dX13_isRing_37 2 2 rfl rfl (g_imul dX13_isRing_38 (g_iadd dX13_isRing_39 (have b6 := (((h.2 q1).2 q3).2 q5).1; g_iald dX13_isRing_40 arM_1 b6 (g_iconst dX13_isRing_41 kc_1 (g_isub dX13_isRing_42 (g_istore_n dX13_isRing_43 rfl (by decide) rfl (g_iinc dX13_isRing_44 3 rfl rfl (by decide) rfl (g_goto dX13_isRing_47 rfl (g_sub [2, 3, 1, 0] rfl ((((h.2 q1).2 q3).2 q5).2 _ rfl)))))))))))))))))))))))))))
theorem dX13_status_0 : decode cX13_status 0 = .ok (.iload_n 1, 1) := by decide +kernel
theorem dX13_status_1 : decode cX13_status 1 = .ok (.i2l, 1) := by decide +kernel
theorem dX13_status_2 : decode cX13_status 2 = .ok (.lconst 0, 1) := by decide +kernel
theorem dX13_status_3 : decode cX13_status 3 = .ok (.ldc2_w 493, 3) := by decide +kernel
theorem dX13_status_6 : decode cX13_status 6 = .ok (.invokestatic 297, 3) := by decide +kernel
theorem dX13_status_9 : decode cX13_status 9 = .ok (.ifCond .eq 12, 3) := by decide +kernel
theorem dX13_status_12 : decode cX13_status 12 = .ok (.aload_n 0, 1) := by decide +kernel
theorem dX13_status_13 : decode cX13_status 13 = .ok (.getfield 17, 3) := by decide +kernel
theorem dX13_status_16 : decode cX13_status 16 = .ok (.iload_n 1, 1) := by decide +kernel
theorem dX13_status_17 : decode cX13_status 17 = .ok (.iaload, 1) := by decide +kernel
theorem dX13_status_18 : decode cX13_status 18 = .ok (.goto 4, 3) := by decide +kernel
theorem dX13_status_21 : decode cX13_status 21 = .ok (.iconst (-1), 1) := by decide +kernel
theorem dX13_status_22 : decode cX13_status 22 = .ok (.ireturn, 1) := by decide +kernel
theorem bX13_status_0 {d : Nat}  {v1 : Int32} {I : Ii} {J : Jj} {K : KI}
    (h : CalI wM d mX13_isIn [.long (v1.toInt64), .long (0), .long (5)] I J (fun x3 I1 J2 => (((x3 = 0) → (K ((-1)) I1 J2)) ∧ ((¬ x3 = 0) → (vp_in (v1) 6 ∧ (K (I1 2 v1.toNatClampNeg) I1 J2)))))) :
    GoI wM (d + 1) mX13_status 0 [(0, .ref (0)), (1, .int (v1))] [] I J K :=
  (g_iload_n dX13_status_0 1 1 rfl rfl (g_i2l dX13_status_1 (g_lconst dX13_status_2 kq_0 (g_ldc2 dX13_status_3 kl_X13_493 (g_callsI dX13_status_6 ml_X13_297 md_X13_isIn ms_X13_isIn rfl rfl (Nat.le_of_ble_eq_true rfl) (CalI.mono h (fun x3 I1 J2 h6 => (g_if_eq dX13_status_9 rfl (fun q4 => (g_iconst dX13_status_21 kc_n1 (g_ireturn dX13_status_22 rfl ⟨_, rfl, (h6.1 q4)⟩))) (fun q4 => (g_aload_n dX13_status_12 0 0 rfl rfl (g_getP dX13_status_13 fl_X13_17 rfl obM_0 rfl (g_iload_n dX13_status_16 1 1 rfl rfl (have b5 := (h6.2 q4).1; g_iald dX13_status_17 arM_2 b5 (g_goto dX13_status_18 rfl (g_ireturn dX13_status_22 rfl ⟨_, rfl, (h6.2 q4).2⟩)))))))))))))))

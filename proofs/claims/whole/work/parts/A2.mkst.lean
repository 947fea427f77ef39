/-! a State is made -/
theorem dX9_init_0 : decode cX9_init 0 = .ok (.aload_n 0, 1) := by decide +kernel
theorem dX9_init_1 : decode cX9_init 1 = .ok (.invokespecial 3, 3) := by decide +kernel
theorem dX9_init_4 : decode cX9_init 4 = .ok (.aload_n 0, 1) := by decide +kernel
theorem dX9_init_5 : decode cX9_init 5 = .ok (.iconst 0, 1) := by decide +kernel
theorem dX9_init_6 : decode cX9_init 6 = .ok (.putfield 9, 3) := by decide +kernel
theorem dX9_init_9 : decode cX9_init 9 = .ok (.aload_n 0, 1) := by decide +kernel
theorem dX9_init_10 : decode cX9_init 10 = .ok (.iconst 0, 1) := by decide +kernel
theorem dX9_init_11 : decode cX9_init 11 = .ok (.putfield 15, 3) := by decide +kernel
theorem dX9_init_14 : decode cX9_init 14 = .ok (.aload_n 0, 1) := by decide +kernel
theorem dX9_init_15 : decode cX9_init 15 = .ok (.iconst 0, 1) := by decide +kernel
theorem dX9_init_16 : decode cX9_init 16 = .ok (.putfield 18, 3) := by decide +kernel
theorem dX9_init_19 : decode cX9_init 19 = .ok (.aload_n 0, 1) := by decide +kernel
theorem dX9_init_20 : decode cX9_init 20 = .ok (.iconst 0, 1) := by decide +kernel
theorem dX9_init_21 : decode cX9_init 21 = .ok (.putfield 21, 3) := by decide +kernel
theorem dX9_init_24 : decode cX9_init 24 = .ok (.aload_n 0, 1) := by decide +kernel
theorem dX9_init_25 : decode cX9_init 25 = .ok (.bipush 8, 2) := by decide +kernel
theorem dX9_init_27 : decode cX9_init 27 = .ok (.newarray .int, 2) := by decide +kernel
theorem dX9_init_29 : decode cX9_init 29 = .ok (.putfield 24, 3) := by decide +kernel
theorem dX9_init_32 : decode cX9_init 32 = .ok (.aload_n 0, 1) := by decide +kernel
theorem dX9_init_33 : decode cX9_init 33 = .ok (.bipush 8, 2) := by decide +kernel
theorem dX9_init_35 : decode cX9_init 35 = .ok (.newarray .int, 2) := by decide +kernel
theorem dX9_init_37 : decode cX9_init 37 = .ok (.putfield 28, 3) := by decide +kernel
theorem dX9_init_40 : decode cX9_init 40 = .ok (.aload_n 0, 1) := by decide +kernel
theorem dX9_init_41 : decode cX9_init 41 = .ok (.bipush 8, 2) := by decide +kernel
theorem dX9_init_43 : decode cX9_init 43 = .ok (.newarray .int, 2) := by decide +kernel
theorem dX9_init_45 : decode cX9_init 45 = .ok (.putfield 31, 3) := by decide +kernel
theorem dX9_init_48 : decode cX9_init 48 = .ok (.aload_n 0, 1) := by decide +kernel
theorem dX9_init_49 : decode cX9_init 49 = .ok (.bipush 8, 2) := by decide +kernel
theorem dX9_init_51 : decode cX9_init 51 = .ok (.newarray .int, 2) := by decide +kernel
theorem dX9_init_53 : decode cX9_init 53 = .ok (.putfield 34, 3) := by decide +kernel
theorem dX9_init_56 : decode cX9_init 56 = .ok (.aload_n 0, 1) := by decide +kernel
theorem dX9_init_57 : decode cX9_init 57 = .ok (.bipush 30, 2) := by decide +kernel
theorem dX9_init_59 : decode cX9_init 59 = .ok (.newarray .int, 2) := by decide +kernel
theorem dX9_init_61 : decode cX9_init 61 = .ok (.putfield 37, 3) := by decide +kernel
theorem dX9_init_64 : decode cX9_init 64 = .ok (.aload_n 0, 1) := by decide +kernel
theorem dX9_init_65 : decode cX9_init 65 = .ok (.getfield 24, 3) := by decide +kernel
theorem dX9_init_68 : decode cX9_init 68 = .ok (.iconst (-1), 1) := by decide +kernel
theorem dX9_init_69 : decode cX9_init 69 = .ok (.invokestatic 40, 3) := by decide +kernel
theorem dX9_init_72 : decode cX9_init 72 = .ok (.return_, 1) := by decide +kernel
theorem u2_same {I : Ii} {o k : Nat} {v : Int32} (h : I o k = v) : u2 I o k v = I := by
  funext a j
  by_cases e : a = o
  · subst e
    by_cases e2 : j = k
    · subst e2; rw [u2_at]; exact h.symm
    · rw [u2_k e2]
  · rw [u2_row e]
/-- a State's places -/
def isSt (o : Nat) : Prop := (wX.1 o = (0, 9) ∧ wX.1 (o + 1) = (1, 8) ∧ wX.1 (o + 2) = (1, 8) ∧ wX.1 (o + 3) = (1, 8) ∧ wX.1 (o + 4) = (1, 8) ∧ wX.1 (o + 5) = (1, 30)) ∧ (z_PXl.getD o [] = [none, none, none, none, some (o + 1), some (o + 2), some (o + 3), some (o + 4), some (o + 5)] ∧ z_PXl.getD (o + 1) [] = [] ∧ z_PXl.getD (o + 2) [] = [] ∧ z_PXl.getD (o + 3) [] = [] ∧ z_PXl.getD (o + 4) [] = [] ∧ z_PXl.getD (o + 5) [] = []) ∧ (FXl.getD o [] = [] ∧ FXl.getD (o + 1) [] = [-1, -1, -1, -1, -1, -1, -1, -1] ∧ FXl.getD (o + 2) [] = [] ∧ FXl.getD (o + 3) [] = [] ∧ FXl.getD (o + 4) [] = [] ∧ FXl.getD (o + 5) [] = []) ∧ (o + 6 ≤ 201 ∧ (71 < o ∨ o + 5 < 71) ∧ (31 < o ∨ o + 5 < 31))
theorem k_X9 {w o d : Nat} {PL : Rf} {IL : Ii} {Q : QN} (ho : isSt o) (h : Q (pE w o (o + 6) PL) (iE o (o + 6) IL) J0x) : CalN wX.1 (d + 1) 5 62 mX9_init [.ref o] (o + 1) (pS w o (o + 1) PL (List.replicate 9 none)) (iS o (o + 1) IL (List.replicate 9 0)) J0x (o + 6) Q := by
  obtain ⟨⟨l0, l1, l2, l3, l4, l5⟩, ⟨q0, q1, q2, q3, q4, q5⟩, ⟨f0, f1, f2, f3, f4, f5⟩, hb, h7, h3⟩ := ho
  have hz : ∀ a, o ≤ a → a ≤ o + 5 → iS o (o + 1) IL (List.replicate 9 0) a = fun _ => 0 := by
    intro a h1 h2
    unfold iS
    rw [if_neg (by omega)]
    by_cases e : a = o
    · rw [if_pos e, rp_nil]
    · rw [if_neg e, if_neg (by omega), I0_nil (by omega)]
  have hlo : ∀ a, a < o → iS o (o + 1) IL (List.replicate 9 0) a = IL a := fun a ha => if_pos ha
  have hhi : ∀ a, o + 6 ≤ a → iS o (o + 1) IL (List.replicate 9 0) a = I0x a := fun a ha => by
    unfold iS
    rw [if_neg (by omega), if_neg (by omega), if_neg (by omega)]
  generalize iS o (o + 1) IL (List.replicate 9 0) = I at hz hlo hhi
  have u0 : ∀ k, u2 I o k 0 = I := fun k => u2_same (by rw [hz o (by omega) (by omega)])
  have ob : ∀ {n : Nat} {P : Rf}, o < n → z_Ob (wX.1, n, P) o 9 := fun hn => ⟨l0, hn, by omega, by decide⟩
  refine CalN.of (by omega) (by decide) rfl (Nat.le_of_ble_eq_true rfl) ?_
  refine n_aload_n dX9_init_0 0 0 rfl rfl ?_
  refine n_obj dX9_init_1 (z_c1 106 (by decide +kernel) rfl) (z_c1 26 (by decide +kernel) rfl) (z_c1 27 (by decide +kernel) rfl) (by omega) ?_
  refine n_aload_n dX9_init_4 0 0 rfl rfl ?_
  refine n_iconst (v := 0) dX9_init_5 (by decide) ?_
  refine n_putI dX9_init_6 fl_X9_9 rfl rfl rfl rfl (ob (by omega)) ?_
  rw [u0]
  refine n_aload_n dX9_init_9 0 0 rfl rfl ?_
  refine n_iconst (v := 0) dX9_init_10 (by decide) ?_
  refine n_putI dX9_init_11 fl_X9_15 rfl rfl rfl rfl (ob (by omega)) ?_
  rw [u0]
  refine n_aload_n dX9_init_14 0 0 rfl rfl ?_
  refine n_iconst (v := 0) dX9_init_15 (by decide) ?_
  refine n_putI dX9_init_16 fl_X9_18 rfl rfl rfl rfl (ob (by omega)) ?_
  rw [u0]
  refine n_aload_n dX9_init_19 0 0 rfl rfl ?_
  refine n_iconst (v := 0) dX9_init_20 (by decide) ?_
  refine n_putI dX9_init_21 fl_X9_21 rfl rfl rfl rfl (ob (by omega)) ?_
  rw [u0]
  refine n_aload_n dX9_init_24 0 0 rfl rfl ?_
  refine n_bipush (v := 8) dX9_init_25 (by decide) ?_
  refine n_newI (n := o + 1) (k := 8) dX9_init_27 (z_c1 72 (by decide +kernel) rfl) l1 (hz _ (by omega) (by omega)) (by omega) (by decide) (by decide) (by decide) (by decide) (by decide) ?_
  rw [pS_new (n := o + 1) (by omega) (PX_nil q1 (by omega))]
  refine n_putR (a := o + 1) dX9_init_29 fl_X9_24 rfl rfl rfl (fun _ => rfl) (fun _ => rfl) (ob (by omega)) ?_
  rw [pS_put (Nat.le_of_ble_eq_true rfl), show List.set (List.replicate 9 none) 4 (some (o + 1)) = [none, none, none, none, some (o + 1), none, none, none, none] from rfl]
  refine n_aload_n dX9_init_32 0 0 rfl rfl ?_
  refine n_bipush (v := 8) dX9_init_33 (by decide) ?_
  refine n_newI (n := o + 2) (k := 8) dX9_init_35 (z_c1 72 (by decide +kernel) rfl) l2 (hz _ (by omega) (by omega)) (by omega) (by decide) (by decide) (by decide) (by decide) (by decide) ?_
  rw [pS_new (n := o + 2) (by omega) (PX_nil q2 (by omega))]
  refine n_putR (a := o + 2) dX9_init_37 fl_X9_28 rfl rfl rfl (fun _ => rfl) (fun _ => rfl) (ob (by omega)) ?_
  rw [pS_put (Nat.le_of_ble_eq_true rfl), show List.set ([none, none, none, none, some (o + 1), none, none, none, none]) 5 (some (o + 2)) = [none, none, none, none, some (o + 1), some (o + 2), none, none, none] from rfl]
  refine n_aload_n dX9_init_40 0 0 rfl rfl ?_
  refine n_bipush (v := 8) dX9_init_41 (by decide) ?_
  refine n_newI (n := o + 3) (k := 8) dX9_init_43 (z_c1 72 (by decide +kernel) rfl) l3 (hz _ (by omega) (by omega)) (by omega) (by decide) (by decide) (by decide) (by decide) (by decide) ?_
  rw [pS_new (n := o + 3) (by omega) (PX_nil q3 (by omega))]
  refine n_putR (a := o + 3) dX9_init_45 fl_X9_31 rfl rfl rfl (fun _ => rfl) (fun _ => rfl) (ob (by omega)) ?_
  rw [pS_put (Nat.le_of_ble_eq_true rfl), show List.set ([none, none, none, none, some (o + 1), some (o + 2), none, none, none]) 6 (some (o + 3)) = [none, none, none, none, some (o + 1), some (o + 2), some (o + 3), none, none] from rfl]
  refine n_aload_n dX9_init_48 0 0 rfl rfl ?_
  refine n_bipush (v := 8) dX9_init_49 (by decide) ?_
  refine n_newI (n := o + 4) (k := 8) dX9_init_51 (z_c1 72 (by decide +kernel) rfl) l4 (hz _ (by omega) (by omega)) (by omega) (by decide) (by decide) (by decide) (by decide) (by decide) ?_
  rw [pS_new (n := o + 4) (by omega) (PX_nil q4 (by omega))]
  refine n_putR (a := o + 4) dX9_init_53 fl_X9_34 rfl rfl rfl (fun _ => rfl) (fun _ => rfl) (ob (by omega)) ?_
  rw [pS_put (Nat.le_of_ble_eq_true rfl), show List.set ([none, none, none, none, some (o + 1), some (o + 2), some (o + 3), none, none]) 7 (some (o + 4)) = [none, none, none, none, some (o + 1), some (o + 2), some (o + 3), some (o + 4), none] from rfl]
  refine n_aload_n dX9_init_56 0 0 rfl rfl ?_
  refine n_bipush (v := 30) dX9_init_57 (by decide) ?_
  refine n_newI (n := o + 5) (k := 30) dX9_init_59 (z_c1 72 (by decide +kernel) rfl) l5 (hz _ (by omega) (by omega)) (by omega) (by decide) (by decide) (by decide) (by decide) (by decide) ?_
  rw [pS_new (n := o + 5) (by omega) (PX_nil q5 (by omega))]
  refine n_putR (a := o + 5) dX9_init_61 fl_X9_37 rfl rfl rfl (fun _ => rfl) (fun _ => rfl) (ob (by omega)) ?_
  rw [pS_put (Nat.le_of_ble_eq_true rfl), show List.set ([none, none, none, none, some (o + 1), some (o + 2), some (o + 3), some (o + 4), none]) 8 (some (o + 5)) = [none, none, none, none, some (o + 1), some (o + 2), some (o + 3), some (o + 4), some (o + 5)] from rfl]
  refine n_aload_n dX9_init_64 0 0 rfl rfl ?_
  refine n_getP (a := o + 1) dX9_init_65 fl_X9_24 rfl (ob (by omega)) (by unfold pS; rw [if_neg (by omega), if_pos rfl]; rfl) ?_
  refine n_iconst (v := -1) dX9_init_68 (by decide) ?_
  refine n_calls (As := [.ref (o + 1), .int (-1)]) (rest := []) dX9_init_69 (z_c1 107 (by decide +kernel) rfl) md_J7_fill_53178 ms_J7_fill_53178 rfl rfl (by decide) (w_fill (n := 8) (K := fun I' J' => I' = iE o (o + 6) IL ∧ J' = J0x) ⟨l1, by show o + 1 < o + 5 + 1; omega, by omega⟩ (by decide) (fun I' h1 h2 h3 => ⟨?_, rfl⟩)) (fun r I' J' q => ?_) (by decide) (by decide)
  · funext a
    unfold iE
    by_cases e1 : a < o
    · rw [if_pos e1, h1 a (by omega), hlo a e1]
    · rw [if_neg e1]
      by_cases e2 : a < o + 6
      · rw [if_pos e2]
        by_cases e3 : a = o + 1
        · subst e3
          funext k
          by_cases e4 : k < 8
          · rw [h2 k e4]
            unfold FX
            rw [f1]
            have : ∀ k, k < 8 → (-1 : Int32) = [-1, -1, -1, -1, -1, -1, -1, -1].getD k 0 := by decide
            exact this k e4
          · rw [h3 k (by omega), hz _ (by omega) (by omega)]
            unfold FX
            rw [f1, List.getD_eq_getElem?_getD, List.getElem?_eq_none (by show 8 ≤ k; omega)]
            rfl
        · rw [h1 a e3, hz a (by omega) (by omega)]
          refine (FX_nil ?_).symm
          obtain rfl | rfl | rfl | rfl | rfl : a = o ∨ a = o + 2 ∨ a = o + 3 ∨ a = o + 4 ∨ a = o + 5 := by omega
          · exact f0
          · exact f2
          · exact f3
          · exact f4
          · exact f5
      · rw [if_neg e2, h1 a (by omega), hhi a (by omega)]
  · obtain ⟨hr, rfl, rfl⟩ := q
    refine ⟨hr, ?_⟩
    refine n_return (n := o + 6) dX9_init_72 rfl (by decide) (by decide) ?_
    rw [pS_end (n := o + 5 + 1) (by omega) ?_]
    · exact h
    · unfold PXw
      rw [if_neg (by omega)]
      funext j
      show _ = (z_PXl.getD o []).getD j none
      rw [q0]
theorem st_p0 : isSt 81 := by unfold isSt; decide
theorem st_p1 : isSt 87 := by unfold isSt; decide
theorem st_p2 : isSt 93 := by unfold isSt; decide
theorem st_p3 : isSt 99 := by unfold isSt; decide
theorem st_p4 : isSt 105 := by unfold isSt; decide
theorem st_p5 : isSt 111 := by unfold isSt; decide
theorem st_p6 : isSt 117 := by unfold isSt; decide
theorem st_p7 : isSt 123 := by unfold isSt; decide
theorem st_p8 : isSt 129 := by unfold isSt; decide
theorem st_p9 : isSt 135 := by unfold isSt; decide
theorem st_p10 : isSt 141 := by unfold isSt; decide
theorem st_p11 : isSt 147 := by unfold isSt; decide
theorem st_p12 : isSt 153 := by unfold isSt; decide
theorem st_p13 : isSt 159 := by unfold isSt; decide
theorem st_p14 : isSt 165 := by unfold isSt; decide
theorem st_p15 : isSt 171 := by unfold isSt; decide
theorem st_p16 : isSt 177 := by unfold isSt; decide
theorem st_p17 : isSt 183 := by unfold isSt; decide
theorem st_p18 : isSt 189 := by unfold isSt; decide
theorem st_p19 : isSt 195 := by unfold isSt; decide
theorem st_p : ∀ k, k < 20 → isSt (81 + 6 * k)
  | 0, _ => st_p0
  | 1, _ => st_p1
  | 2, _ => st_p2
  | 3, _ => st_p3
  | 4, _ => st_p4
  | 5, _ => st_p5
  | 6, _ => st_p6
  | 7, _ => st_p7
  | 8, _ => st_p8
  | 9, _ => st_p9
  | 10, _ => st_p10
  | 11, _ => st_p11
  | 12, _ => st_p12
  | 13, _ => st_p13
  | 14, _ => st_p14
  | 15, _ => st_p15
  | 16, _ => st_p16
  | 17, _ => st_p17
  | 18, _ => st_p18
  | 19, _ => st_p19
  | n + 20, h => absurd h (by omega)

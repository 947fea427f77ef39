theorem z_acN : Cond.native arraycopyName ∈ z_Tg := z_c3 226 (by decide +kernel) rfl
theorem z_acS : Cond.static arraycopyName ∈ z_Tg := z_c3 225 (by decide +kernel) rfl
theorem z_acI : Cond.initialized "java/lang/System" ∈ z_Tg := z_c1 17 (by decide +kernel) rfl
theorem z_ordS : Cond.sameMethod "PupilsPupil$Word" "java/lang/Enum" "ordinal" "()I" ∈ z_Tg := z_c3 37 (by decide +kernel) rfl
theorem z_ordSel : Cond.selects "PupilsPupil$Word" ⟨"PupilsPupil$Word", "ordinal", "()I"⟩ yJx29ce0_ordinal_8abf5 ∈ z_Tg := z_c3 39 (by decide +kernel) rfl
theorem z_ordI : Cond.instanceMethod yJx29ce0_ordinal_8abf5 ∈ z_Tg := z_c3 40 (by decide +kernel) rfl
theorem z_ordIn : Cond.initialized "java/lang/Enum" ∈ z_Tg := z_c1 13 (by decide +kernel) rfl
theorem dJx29ce0_ordinal_8abf5_0 : decode cJx29ce0_ordinal_8abf5 0 = .ok (.aload_n 0, 1) := by decide +kernel
theorem dJx29ce0_ordinal_8abf5_1 : decode cJx29ce0_ordinal_8abf5 1 = .ok (.getfield 7, 3) := by decide +kernel
theorem dJx29ce0_ordinal_8abf5_4 : decode cJx29ce0_ordinal_8abf5 4 = .ok (.ireturn, 1) := by decide +kernel
section ZW
variable {ω : Wl} {d : Nat} {M : Mt} {pc : Nat} {ls : List (Nat × Value)} {st : List Value} {I : Ii} {J : Jj} {Q : Qt}
theorem z_amW {E : En} {y : Nat} (h : 10000 ≤ y) : z_am E y = E.2.2.1 (y - 10000) := by simp [z_am]; omega
theorem g_word {i idx : Nat} (hd : decode M.2.1 pc = .ok (.getstatic idx, 3)) (hw : Cond.fieldLink M.1.cls idx "PupilsPupil$Word" (z_wnm.getD i "") "LPupilsPupil$Word;" ∈ z_Tg) (hi : i < 34) (h : Go ω d M (pc + 3) ls (.ref (10000 + i) :: st) I J Q) : Go ω d M pc ls st I J Q := by
  intro E p e s m args below meth c9 H arr locs hH hL hP hC hS
  have hk : W p E.1 e (z_rm d) s m args below meth c9 H locs 0 0 _ (F0 m (pc + 3) arr (.ref (z_am E (10000 + i)) :: st.map (z_rv E))) := h E p e s m args below meth c9 H arr locs hH hL hP hC hS
  rw [z_amW (by omega), show 10000 + i - 10000 = i by omega] at hk
  exact va_gets hH.1 hH.2.1 (hC.2.2.1.1 i hi).1 hS hH.2.2.2.2.1 (hH.2.2.2.2.2.1 _ (List.mem_cons_of_mem _ hw)) (fun x q => q) hd hk
theorem g_words {idx : Nat} (hd : decode M.2.1 pc = .ok (.getstatic idx, 3)) (hw : Cond.fieldLink M.1.cls idx "PupilsPupil$Word" "WORDS" "[LPupilsPupil$Word;" ∈ z_Tg) (h : Go ω d M (pc + 3) ls (.ref 20000 :: st) I J Q) : Go ω d M pc ls st I J Q := by
  intro E p e s m args below meth c9 H arr locs hH hL hP hC hS
  exact va_gets hH.1 hH.2.1 hC.2.2.2.1.1 hS hH.2.2.2.2.1 (hH.2.2.2.2.2.1 _ (List.mem_cons_of_mem _ hw)) (fun x q => q) hd (h E p e s m args below meth c9 H arr locs hH hL hP hC hS)
theorem g_swmap {idx : Nat} (hd : decode M.2.1 pc = .ok (.getstatic idx, 3)) (hw : Cond.fieldLink M.1.cls idx "PupilsPupil$1" "$SwitchMap$PupilsPupil$Word" "[I" ∈ z_Tg) (h : Go ω d M (pc + 3) ls (.ref 20001 :: st) I J Q) : Go ω d M pc ls st I J Q := by
  intro E p e s m args below meth c9 H arr locs hH hL hP hC hS
  exact va_gets hH.1 hH.2.1 hC.2.2.2.2.1 hS hH.2.2.2.2.1 (hH.2.2.2.2.2.1 _ (List.mem_cons_of_mem _ hw)) (fun x q => q) hd (h E p e s m args below meth c9 H arr locs hH hL hP hC hS)
theorem g_wlen (hd : decode M.2.1 pc = .ok (.arraylength, 1)) (h : Go ω d M (pc + 1) ls (.int 34 :: st) I J Q) : Go ω d M pc ls (.ref 20000 :: st) I J Q := by
  intro E p e s m args below meth c9 H arr locs hH hL hP hC hS
  exact va_tlen hH.1 hH.2.1 hC.2.2.2.1.2 hS rfl hd (h E p e s m args below meth c9 H arr locs hH hL hP hC hS)
theorem g_waald {i : Int32} (hd : decode M.2.1 pc = .ok (.aaload, 1)) (hi : vp_in i 34) (h : Go ω d M (pc + 1) ls (.ref (10000 + i.toNatClampNeg) :: st) I J Q) : Go ω d M pc ls (.int i :: .ref 20000 :: st) I J Q := by
  intro E p e s m args below meth c9 H arr locs hH hL hP hC hS
  have hk : W p E.1 e (z_rm d) s m args below meth c9 H locs 0 0 _ (F0 m (pc + 1) arr (.ref (z_am E (10000 + i.toNatClampNeg)) :: st.map (z_rv E))) := h E p e s m args below meth c9 H arr locs hH hL hP hC hS
  rw [z_amW (by omega), show 10000 + i.toNatClampNeg - 10000 = i.toNatClampNeg by omega] at hk
  show W p E.1 e (z_rm d) s m args below meth c9 H locs 0 0 _ (F0 m pc arr (.int i :: .ref (E.2.2.1 10000) :: st.map (z_rv E)))
  obtain ⟨cell, h1, h2, h3, h4, h5, h6, h7⟩ := hC.2.2.2.1.2
  have hlt : i.toNatClampNeg < 34 := Nat.not_le.mp fun q => hi (Or.inr q)
  exact W.aald hH.1 hH.2.1 (by rw [hS.2.1 _ (Array.getElem?_eq_some_iff.mp h1).1 h7]; exact h1) h2 rfl h3 (fun q => by rcases q with q | q; exact hi (Or.inl q); omega) (h6 _ hlt) rfl rfl hd hk
theorem g_swald {i : Int32} (hd : decode M.2.1 pc = .ok (.iaload, 1)) (hi : vp_in i 34) (h : Go ω d M (pc + 1) ls (.int (z_wsw.getD i.toNatClampNeg 0) :: st) I J Q) : Go ω d M pc ls (.int i :: .ref 20001 :: st) I J Q := by
  intro E p e s m args below meth c9 H arr locs hH hL hP hC hS
  exact va_ti hH.1 hH.2.1 hC.2.2.2.2.2 hS hi rfl hd (h E p e s m args below meth c9 H arr locs hH hL hP hC hS)
/-- the value of field f of the constant at y -/
def z_wv (f y : Nat) : Int32 := (z_wF.getD f ("", "", "", [])).2.2.2.getD (y - 10000) 0
def z_Wl (own : String) (idx f : Nat) : Prop := f < 5 ∧ (Cond.fieldLink own idx (z_wF.getD f ("", "", "", [])).1 (z_wF.getD f ("", "", "", [])).2.1 (z_wF.getD f ("", "", "", [])).2.2.1 ∈ z_Tg ∨ (own, idx, (z_wF.getD f ("", "", "", [])).1, (z_wF.getD f ("", "", "", [])).2.1, (z_wF.getD f ("", "", "", [])).2.2.1) ∈ z_NF)
theorem z_wFm {f : Nat} (h : f < 5) : z_wF.getD f ("", "", "", []) ∈ z_wF := by
  match f, h with
  | 0, _ => exact List.mem_of_getElem? (i := 0) rfl
  | 1, _ => exact List.mem_of_getElem? (i := 1) rfl
  | 2, _ => exact List.mem_of_getElem? (i := 2) rfl
  | 3, _ => exact List.mem_of_getElem? (i := 3) rfl
  | 4, _ => exact List.mem_of_getElem? (i := 4) rfl
theorem g_wfield {idx f y : Nat} (hd : decode M.2.1 pc = .ok (.getfield idx, 3)) (hw : z_Wl M.1.cls idx f) (hy : 10000 ≤ y ∧ y < 10034) (h : Go ω d M (pc + 3) ls (.int (z_wv f y) :: st) I J Q) : Go ω d M pc ls (.ref y :: st) I J Q := by
  intro E p e s m args below meth c9 H arr locs hH hL hP hC hS
  show W p E.1 e (z_rm d) s m args below meth c9 H locs 0 0 _ (F0 m pc arr (.ref (z_am E y) :: st.map (z_rv E)))
  rw [z_amW hy.1]
  have hk := h E p e s m args below meth c9 H arr locs hH hL hP hC hS
  obtain ⟨hf, hw | hw⟩ := hw
  · exact va_getE hH.1 hH.2.1 hC.2.2.1 (show y - 10000 < 34 by omega) hS hH.2.2.2.2.1 (z_wFm hf) (hH.2.2.2.2.2.1 _ (List.mem_cons_of_mem _ hw)) (fun x q => q) hd hk
  · obtain ⟨cf, k, fi, fd, cell, h1, h2, h3, h4, h5, h6⟩ := ((hC.2.2.1.1 (y - 10000) (show y - 10000 < 34 by omega)).2.2 _ (z_wFm hf)).kept hS.2.1
    exact va_Wgetf hH.1 hH.2.1 hH.2.2.2.2.1 (va_Nw.use rfl (hC.2.1.2 _ hw)) h1 h2 h3 h4 h5 rfl rfl hd hk
theorem g_wfieldq {idx f y : Nat} {x : Option Nat} (hd : decode M.2.1 pc = .ok (.getfield idx, 3)) (hw : z_Wl M.1.cls idx f) (hx : x = some y) (hy : 10000 ≤ y ∧ y < 10034) (h : Go ω d M (pc + 3) ls (.int (z_wv f y) :: st) I J Q) : Go ω d M pc ls (va_rf x :: st) I J Q := by
  subst hx
  exact g_wfield hd hw hy h
/-- null or a constant of Word -/
def z_wk (x : Option Nat) : Prop := ∀ k, x = some k → 10000 ≤ k ∧ k < 10034
theorem z_wkS {y : Nat} (h : 10000 ≤ y ∧ y < 10034) : z_wk (some y) := fun k e => by cases e; exact h
theorem z_wInj {E : En} {A : Nat → Prop} {s : State} {H : Heap} (hC : z_C A E s H) {x y : Option Nat} (hx : z_wk x) (hy : z_wk y) : x.map (z_am E) = y.map (z_am E) ↔ x = y := by
  constructor
  · intro h
    cases x with
    | none => cases y with
      | none => rfl
      | some b => cases h
    | some a => cases y with
      | none => cases h
      | some b =>
        have ha := hx a rfl
        have hb := hy b rfl
        have h2 : z_am E a = z_am E b := Option.some.inj h
        rw [z_amW ha.1, z_amW hb.1] at h2
        have := hC.2.2.1.2 (a - 10000) (b - 10000) (show a - 10000 < 34 by omega) (show b - 10000 < 34 by omega) h2
        exact congrArg some (show a = b by omega)
  · intro h; rw [h]
theorem g_acmp_eq {x y : Option Nat} {off : Int} {tgt : Nat} (hd : decode M.2.1 pc = .ok (.if_acmp .eq off, 3)) (ht : (pc : Int) + off = (tgt : Int)) (hx : z_wk x) (hy : z_wk y) (h1 : x = y → Go ω d M tgt ls st I J Q) (h2 : ¬ x = y → Go ω d M (pc + 3) ls st I J Q) : Go ω d M pc ls (va_rf y :: va_rf x :: st) I J Q := by
  intro E p e s m args below meth c9 H arr locs hH hL hP hC hS
  show W p E.1 e (z_rm d) s m args below meth c9 H locs 0 0 _ (F0 m pc arr (z_rv E (va_rf y) :: z_rv E (va_rf x) :: st.map (z_rv E)))
  rw [z_rvf, z_rvf]
  exact lv_acmp_eq hH.1 hH.2.1 hd ht (fun q => h1 ((z_wInj hC hx hy).mp q) E p e s m args below meth c9 H arr locs hH hL hP hC hS) (fun q => h2 (fun z => q ((z_wInj hC hx hy).mpr z)) E p e s m args below meth c9 H arr locs hH hL hP hC hS)
theorem g_acmp_ne {x y : Option Nat} {off : Int} {tgt : Nat} (hd : decode M.2.1 pc = .ok (.if_acmp .ne off, 3)) (ht : (pc : Int) + off = (tgt : Int)) (hx : z_wk x) (hy : z_wk y) (h1 : ¬ x = y → Go ω d M tgt ls st I J Q) (h2 : x = y → Go ω d M (pc + 3) ls st I J Q) : Go ω d M pc ls (va_rf y :: va_rf x :: st) I J Q := by
  intro E p e s m args below meth c9 H arr locs hH hL hP hC hS
  show W p E.1 e (z_rm d) s m args below meth c9 H locs 0 0 _ (F0 m pc arr (z_rv E (va_rf y) :: z_rv E (va_rf x) :: st.map (z_rv E)))
  rw [z_rvf, z_rvf]
  exact lv_acmp_ne hH.1 hH.2.1 hd ht (fun q => h1 (fun z => q ((z_wInj hC hx hy).mpr z)) E p e s m args below meth c9 H arr locs hH hL hP hC hS) (fun q => h2 ((z_wInj hC hx hy).mp q) E p e s m args below meth c9 H arr locs hH hL hP hC hS)
theorem va_cat1 (x : Option Nat) : (va_rf x).category = 1 := by cases x <;> rfl
/-- a field that holds a constant takes a constant -/
def z_wn (x : Option Nat) : Int32 := match x with
  | none => -1
  | some y => nI (y - 10000)
theorem z_wo_wn {x : Option Nat} (h : z_wk x) : z_wo (z_wn x) = x := by
  cases x with
  | none => rfl
  | some y =>
    have hy := h y rfl
    have h2 : ¬ nI (y - 10000) = -1 := by
      intro q
      have := congrArg Int32.toInt q
      rw [nI_toInt (by omega)] at this
      have h3 : ((-1 : Int32)).toInt = -1 := by decide
      omega
    simp only [z_wo, z_wn, h2, if_false]
    rw [nI_clamp (by omega)]
    exact congrArg some (show 10000 + (y - 10000) = y by omega)
theorem g_putWq {idx c k o : Nat} {x : Option Nat} (hx : z_wk x) (hd : decode M.2.1 pc = .ok (.putfield idx, 3)) (hf : z_Fl M.1.cls idx c k) (hfin : (z_T c k).2.2.2 = false) (ht : z_ty c k = .object "PupilsPupil$Word") (ho : z_Ob ω o c) (h : Go ω d M (pc + 3) ls st (u2 I o k (z_wn x)) J Q) : Go ω d M pc ls (va_rf x :: .ref o :: st) I J Q := by
  have := g_putW (x := z_wn x) hd hf hfin ht ho h
  rw [z_wo_wn hx] at this
  exact this
/-- arraycopy -/
def cp (I : Ii) (a b sp dp n : Nat) : Ii := fun q => if q = b then va_cpy (I a) (I b) sp dp n else I q
theorem g_copy {idx a n0 b n1 : Nat} {sp dp n : Int32} (hd : decode M.2.1 pc = .ok (.invokestatic idx, 3)) (hl : Cond.methodLink M.1.cls idx arraycopyName ∈ z_Tg) (ha : z_Ar ω a 1 n0) (hb : z_Ar ω b 1 n1) (h1 : ¬ sp < 0) (h2 : ¬ dp < 0) (h3 : ¬ n < 0) (h4 : sp.toNatClampNeg + n.toNatClampNeg ≤ n0) (h5 : dp.toNatClampNeg + n.toNatClampNeg ≤ n1) (hsum : (st.map fun v => v.category).sum ≤ 8)
    (h : Go ω (d + 1) M (pc + 3) ls st (cp I a b sp.toNatClampNeg dp.toNatClampNeg n.toNatClampNeg) J Q) : Go ω (d + 1) M pc ls (.int n :: .int dp :: .ref b :: .int sp :: .ref a :: st) I J Q := by
  intro E p e s m args below meth c9 H arr locs hH hL hP hC hS
  show W p E.1 e (z_rm (d + 1)) s m args below meth c9 H locs 0 0 _ (F0 m pc arr (.int n :: .int dp :: .ref (z_am E b) :: .int sp :: .ref (z_am E a) :: st.map (z_rv E)))
  rw [z_amLow ha.2.2, z_amLow hb.2.2]
  have hcw : ∀ w ∈ z_Tg, w.before args s = true := fun w hw => hH.2.2.2.2.2.1 w (List.mem_cons_of_mem _ hw)
  have hsum' := z_sumc (E := E) hsum
  have r1 : 1 ≤ (z_rm (d + 1)).frames := by show 1 ≤ d + 1; omega
  have e9 : nativeFrameWords "java/lang/System" "arraycopy" 5 + 11 ≤ 40 := by decide
  have r2 : ((st.map (z_rv E)).map fun v => v.category).sum + (nativeFrameWords "java/lang/System" "arraycopy" 5 + 11) ≤ (z_rm (d + 1)).locals := by
    show _ ≤ 48 * (d + 1)
    omega
  refine va_copyi hH.1 hH.2.1 (hH.2.2.2.1.trans hL.1.symm) hH.2.2.2.2.1 (hcw _ hl) (hcw _ z_acN) (hcw _ z_acS) (hcw _ z_acI) hC.1 hP z_wsD hS a b 0 0 (ty := .int) (z_ar1 ha) (z_ar1 hb) rfl rfl rfl h1 h2 h3 h4 h5 (fun i _ => rfl) r1 r2 hd (fun H1 locs1 hP1 _ hS1 => ?_)
  have e1 : z_cel ω E (cp I a b sp.toNatClampNeg dp.toNatClampNeg n.toNatClampNeg) J b = .inl (E.2.2.2.2 1, n1, .inl (va_cpy (I a) (I b) sp.toNatClampNeg dp.toNatClampNeg n.toNatClampNeg)) := by
    simp [z_cel, hb.1, cp]
  rw [z_wsSet e1 (fun j hj => z_celRow (by simp [cp, hj]) rfl)] at hP1
  exact h E p e s m args below meth c9 H1 arr locs1 hH hL hP1 hC hS1
end ZW
theorem z_wl_ord : z_Wl RJx29ce0 7 0 := ⟨by decide, Or.inl (z_c9 47 (by decide +kernel) rfl)⟩
section ZW2
variable {ω : Wl} {d : Nat} {M : Mt} {pc : Nat} {ls : List (Nat × Value)} {st : List Value} {I : Ii} {J : Jj} {Q : Qt}
/-- Enum.ordinal of a constant of Word -/
theorem g_ordinal {idx y : Nat} {rest : List Value} (hd : decode M.2.1 pc = .ok (.invokevirtual idx, 3)) (hl : Cond.methodLink M.1.cls idx ⟨"PupilsPupil$Word", "ordinal", "()I"⟩ ∈ z_Tg) (hy : 10000 ≤ y ∧ y < 10034) (hsum : (rest.map fun v => v.category).sum ≤ 8)
    (h : Go ω (d + 1) M (pc + 3) ls (.int (z_wv 0 y) :: rest) I J Q) : Go ω (d + 1) M pc ls (.ref y :: rest) I J Q := by
  intro E p e s m args below meth c9 H arr locs hH hL hP hC hS
  have hcw : ∀ w ∈ z_Tg, w.before args s = true := fun w hw => hH.2.2.2.2.2.1 w (List.mem_cons_of_mem _ hw)
  have hcal : Cal ω d mJx29ce0_ordinal_8abf5 [.ref y] I J (qI (fun x I' J' => x = z_wv 0 y ∧ I' = I ∧ J' = J)) := by
    refine Cal.of (by decide) (Nat.le_of_ble_eq_true rfl) ?_
    exact g_aload_n dJx29ce0_ordinal_8abf5_0 0 0 rfl rfl (g_wfield (f := 0) dJx29ce0_ordinal_8abf5_1 z_wl_ord hy (g_ireturn dJx29ce0_ordinal_8abf5_4 rfl ⟨_, rfl, rfl, rfl, rfl⟩))
  have hrecv : ∃ cellB : Cell, H[z_am E y]? = some cellB ∧ cellB.vm.isStatics = false ∧ s.vm.findClass "PupilsPupil$Word" = some cellB.cls := by
    rw [z_amW hy.1]
    exact va_recvE hC.2.2.1 (show y - 10000 < 34 by omega) hS
  have hpv : PreV s H "PupilsPupil$Word" (z_am E y) (va_Pc ([Value.ref y].map (z_rv E)) (fun U => z_Wd ω E I J U)) [] := ⟨z_blind, hrecv, fun U hU hW => z_start hP hC hS hU hW⟩
  have cu : va_CU (z_rm (d + 1)) s args M.1.cls "PupilsPupil$Word" "java/lang/Enum" idx ⟨"PupilsPupil$Word", "ordinal", "()I"⟩ mJx29ce0_ordinal_8abf5.1 mJx29ce0_ordinal_8abf5.2.1 1 (some .int) (z_wsM mJx29ce0_ordinal_8abf5) (z_rm d) 0 0 0 := by
    refine va_cwU 0 hH.2.2.2.2.2.1 ?_ rfl rfl rfl rfl ⟨by decide, by decide, by decide +kernel⟩ (z_room (by decide))
    intro w hw
    unfold va_wsU at hw
    rcases List.mem_append.mp hw with hw | hw
    · have hT : w ∈ z_Tg := by
        simp only [List.mem_cons, List.not_mem_nil, or_false] at hw
        rcases hw with rfl | rfl | rfl | rfl | rfl
        · exact hl
        · exact z_ordS
        · exact z_ordSel
        · exact z_ordI
        · exact z_ordIn
      exact ⟨List.mem_cons_of_mem _ hT, z_good hT⟩
    · exact z_goodIn (M := M) md_Jx29ce0_ordinal_8abf5.1 w hw
  show W p E.1 e (z_rm (d + 1)) s m args below meth c9 H locs 0 0 _ (F0 m pc arr (.ref (z_am E y) :: rest.map (z_rv E)))
  refine z_cont (va_runU (As := []) (rest := rest.map (z_rv E)) ⟨hH.1, hH.2.1, hH.2.2.2.1, hH.2.2.2.2.1, hH.2.2.2.2.2.1⟩ (hcal E) cu hpv rfl rfl hL.1 rfl (lv_room (z_sumc hsum)) hd ⟨Nat.le_refl _, Nat.le_refl _⟩) hS ?_
  intro r I' J' H1 locs1 hq hP1 hS1
  obtain ⟨x, hr, hx, hI, hJ⟩ := hq
  subst hr
  subst hI
  subst hJ
  have hk := h E p e s m args below meth c9 H1 arr locs1 hH hL hP1 hC hS1
  rw [← hx] at hk
  exact hk
end ZW2
theorem wg_X4_27 : Cond.fieldLink RX4 27 "PupilsPupil$Word" (z_wnm.getD 10 "") "LPupilsPupil$Word;" ∈ z_Tg := z_c3 201 (by decide +kernel) rfl
theorem wg_X4_51 : Cond.fieldLink RX4 51 "PupilsPupil$Word" (z_wnm.getD 11 "") "LPupilsPupil$Word;" ∈ z_Tg := z_c3 199 (by decide +kernel) rfl
theorem wg_X4_61 : Cond.fieldLink RX4 61 "PupilsPupil$Word" (z_wnm.getD 12 "") "LPupilsPupil$Word;" ∈ z_Tg := z_c3 150 (by decide +kernel) rfl
theorem wg_X4_67 : Cond.fieldLink RX4 67 "PupilsPupil$Word" (z_wnm.getD 13 "") "LPupilsPupil$Word;" ∈ z_Tg := z_c3 163 (by decide +kernel) rfl
theorem wg_X4_101 : Cond.fieldLink RX4 101 "PupilsPupil$Word" (z_wnm.getD 14 "") "LPupilsPupil$Word;" ∈ z_Tg := z_c3 184 (by decide +kernel) rfl
theorem wg_X4_104 : Cond.fieldLink RX4 104 "PupilsPupil$Word" (z_wnm.getD 15 "") "LPupilsPupil$Word;" ∈ z_Tg := z_c3 186 (by decide +kernel) rfl
theorem wg_X4_110 : Cond.fieldLink RX4 110 "PupilsPupil$Word" (z_wnm.getD 3 "") "LPupilsPupil$Word;" ∈ z_Tg := z_c3 193 (by decide +kernel) rfl
theorem wl_X4_113 : z_Wl RX4 113 4 := ⟨by decide, Or.inr (by decide +kernel)⟩
theorem wl_X4_116 : z_Wl RX4 116 3 := ⟨by decide, Or.inr (by decide +kernel)⟩
theorem wg_X5_22 : Cond.fieldLink RX5 22 "PupilsPupil$Word" (z_wnm.getD 30 "") "LPupilsPupil$Word;" ∈ z_Tg := z_c2 133 (by decide +kernel) rfl
theorem wg_X5_68 : Cond.fieldLink RX5 68 "PupilsPupil$Word" (z_wnm.getD 28 "") "LPupilsPupil$Word;" ∈ z_Tg := z_c5 90 (by decide +kernel) rfl
theorem wg_X5_71 : Cond.fieldLink RX5 71 "PupilsPupil$Word" (z_wnm.getD 29 "") "LPupilsPupil$Word;" ∈ z_Tg := z_c5 92 (by decide +kernel) rfl
theorem wg_X5_74 : Cond.fieldLink RX5 74 "PupilsPupil$Word" (z_wnm.getD 31 "") "LPupilsPupil$Word;" ∈ z_Tg := z_c5 94 (by decide +kernel) rfl
theorem wg_X5_77 : Cond.fieldLink RX5 77 "PupilsPupil$Word" (z_wnm.getD 32 "") "LPupilsPupil$Word;" ∈ z_Tg := z_c5 96 (by decide +kernel) rfl
theorem wg_X5_80 : Cond.fieldLink RX5 80 "PupilsPupil$Word" (z_wnm.getD 33 "") "LPupilsPupil$Word;" ∈ z_Tg := z_c5 98 (by decide +kernel) rfl
theorem wg_X8_84 : Cond.fieldLink RX8 84 "PupilsPupil$1" "$SwitchMap$PupilsPupil$Word" "[I" ∈ z_Tg := z_c3 34 (by decide +kernel) rfl
theorem wg_X8_129 : Cond.fieldLink RX8 129 "PupilsPupil$Word" (z_wnm.getD 20 "") "LPupilsPupil$Word;" ∈ z_Tg := z_c3 65 (by decide +kernel) rfl
theorem wg_X8_147 : Cond.fieldLink RX8 147 "PupilsPupil$Word" (z_wnm.getD 16 "") "LPupilsPupil$Word;" ∈ z_Tg := z_c3 83 (by decide +kernel) rfl
theorem wg_X8_178 : Cond.fieldLink RX8 178 "PupilsPupil$Word" (z_wnm.getD 3 "") "LPupilsPupil$Word;" ∈ z_Tg := z_c3 115 (by decide +kernel) rfl
theorem wl_X10_43 : z_Wl RX10 43 1 := ⟨by decide, Or.inr (by decide +kernel)⟩
theorem wl_X10_66 : z_Wl RX10 66 2 := ⟨by decide, Or.inr (by decide +kernel)⟩
theorem wl_X11_140 : z_Wl RX11 140 1 := ⟨by decide, Or.inl (z_c9 46 (by decide +kernel) rfl)⟩
theorem wg_X11_154 : Cond.fieldLink RX11 154 "PupilsPupil$Word" "WORDS" "[LPupilsPupil$Word;" ∈ z_Tg := z_c3 28 (by decide +kernel) rfl
theorem ac_X3_34 : Cond.methodLink RX3 34 arraycopyName ∈ z_Tg := z_c3 231 (by decide +kernel) rfl
theorem ac_X7_58 : Cond.methodLink RX7 58 arraycopyName ∈ z_Tg := z_c3 224 (by decide +kernel) rfl
theorem mo_X8_89 : Cond.methodLink RX8 89 ⟨"PupilsPupil$Word", "ordinal", "()I"⟩ ∈ z_Tg := z_c3 36 (by decide +kernel) rfl
theorem ac_X9_46 : Cond.methodLink RX9 46 arraycopyName ∈ z_Tg := z_c3 236 (by decide +kernel) rfl

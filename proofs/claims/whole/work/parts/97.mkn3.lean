/-! making: numbers, calls of makers -/
section NT
variable {lay : Nat → Nat × Nat} {d N S : Nat} {M : Mt} {pc : Nat} {ls : List (Nat × Value)} {st : List Value} {n cn sn n' : Nat} {P : Rf} {I : Ii} {J : Jj} {Q : QN}
theorem n_putI {idx c k o : Nat} {v : Int32} (hd : decode M.2.1 pc = .ok (.putfield idx, 3)) (hf : z_Fl M.1.cls idx c k) (hfin : (z_T c k).2.2.2 = false) (hk : z_kd (z_ty c k) = 0) (hn1 : narrow (z_ty c k) (.int v) = .int v) (hn2 : fits (z_ty c k) (.int v) = true) (ho : z_Ob (lay, n, P) o c) (h : GoN lay d N S M (pc + 3) ls st n cn sn P (u2 I o k v) J n' Q) : GoN lay d N S M pc ls (.int v :: .ref o :: st) n cn sn P I J n' Q := by
  intro E p e s m args below meth c9 H arr locs hH hi hL hP hz hC hS
  show W p E.1 e (z_rmN d N S) s m args below meth c9 H locs cn sn _ (F0 m pc arr (.int v :: .ref (z_am E o) :: st.map (z_rv E)))
  rw [z_amLow (k := o) ho.2.2.1]
  refine va_put hH.1 hH.2.1 hH.2.2.2.2.2.1 (fun w hw => List.mem_cons_of_mem _ (z_in c ho.2.2.2 w hw)) (z_ty c) (z_tyok c ho.2.2.2) (z_nmok c ho.2.2.2) hH.2.2.2.2.1 hC.1.1 hP z_wsDN hS o (z_obAt ho) (z_clsAt c ho.2.2.2) k hf.1 (hH.2.2.2.2.2.1 _ (List.mem_cons_of_mem _ hf.2)) (fun x q => q) hfin (z_tyok c ho.2.2.2 k hf.1) hn1 hn2 (by simp [z_fl]; exact hf.1) hd (fun H1 locs1 hP1 _ hS1 => ?_)
  have e1 : z_cel (lay, n, P) E (u2 I o k v) J o = .inr (c, (z_fl E P I J c o).set k (.int v)) := by
    have e2 := z_flSet (E := E) (P := P) (I := I) (J := J) (I' := u2 I o k v) (J' := J) (c := c) (o := o) (k := k) (fun f hf => u2_k hf) (fun f _ => rfl)
    have e3 : z_fv E P (u2 I o k v) J (z_kd (z_ty c k)) o k = .int v := by rw [hk]; simp [z_fv, u2]
    rw [e3] at e2
    rw [← e2]
    have hl : lay o = (0, c) := ho.1
    simp [z_cel, hl]
  rw [z_wsSet e1 (fun j hj => z_celRow (u2_row hj) rfl)] at hP1
  exact h E p e s m args below meth c9 H1 arr locs1 hH hi hL hP1 hz hC hS1
/-- arrays of chars, of longs -/
theorem n_newC {v : Int32} {k : Nat} (hd : decode M.2.1 pc = .ok (.newarray .char, 2)) (hw : Cond.arrayClass .char ∈ z_Tg) (hlay : lay n = (2, k)) (hI : I n = fun _ => 0) (hn : n < 10000) (hv : ¬ v < 0) (hk : v.toNatClampNeg = k) (hb : k ≤ 1000000) (hN : cn + 1 ≤ N) (hS1 : sn + k ≤ S) (h : GoN lay d N S M (pc + 2) ls (.ref n :: st) (n + 1) (cn + 1) (sn + k) P I J n' Q) : GoN lay d N S M pc ls (.int v :: st) n cn sn P I J n' Q := by
  intro E p e s m args below meth c H arr locs hH hi hL hP hz hC hS
  have hcw : ∀ w ∈ z_Tg, w.before args s = true := fun w hw => hH.2.2.2.2.2.1 w (List.mem_cons_of_mem _ hw)
  refine W.sz (fun hsz => ?_)
  have hzz := z_szN hP hz hsz
  refine va_newaK (atype := .char) (N := k) hH.1 hH.2.1 (hcw _ hw) rfl hd rfl hv hk (by show k * 2 ≤ 536870912; omega) hN hS1 hzz (fun H1 cA e1 z1 o1 hAr hNm => ?_)
  have hcA : cA = E.2.2.2.2 2 := by
    have h1 : s.vm.findClass ("[" ++ (FieldType.char).toString) = some (E.2.2.2.2 2) := (hC.1.1.2 1 _ rfl).2
    exact Option.some.inj (hNm.symm.trans h1)
  have hkp : ∀ (j : Nat) (x : Nat × va_E), (z_ws (lay, n, P) E I J)[j]? = some x → H1[x.1]? = H[x.1]? := fun j x hx => o1 x.1 (by have := (hP j x hx).lt; omega)
  have hP1 : va_P E.2.2.2.1 z_cls (z_ws (lay, n + 1, P) E I J) H1 := by
    rw [z_wsS]
    refine (hP.kept hkp).app (fun j x hx => ?_)
    have hz1 : j < 1 := (List.getElem?_eq_some_iff.mp hx).1
    rw [show j = 0 by omega] at hx
    cases hx
    have ec : z_cel (lay, n, P) E I J n = .inl (E.2.2.2.2 2, k, .inl (I n)) := by simp [z_cel, hlay]
    rw [ec]
    show H1[E.2.1 + n]? = some (vp_cell _ _)
    rw [e1, hcA, hI]
    rfl
  have hS2 : va_S (z_AN E) s.heap H1 locs := ⟨by rw [z1]; have := hS.1; omega, fun x h1 h2 => (o1 x (by have := hS.1; omega)).trans (hS.2.1 x h1 h2), hS.2.2⟩
  have := h E p e s m args below meth c H1 arr locs hH hi hL hP1 (by omega) hC hS2
  rw [show (Value.ref n :: st).map (z_rv E) = .ref (E.2.1 + n) :: st.map (z_rv E) from by simp [z_rv, z_amLow hn]] at this
  exact this
theorem n_newL {v : Int32} {k : Nat} (hd : decode M.2.1 pc = .ok (.newarray .long, 2)) (hw : Cond.arrayClass .long ∈ z_Tg) (hlay : lay n = (3, k)) (hJ : J n = fun _ => 0) (hn : n < 10000) (hv : ¬ v < 0) (hk : v.toNatClampNeg = k) (hb : k ≤ 1000000) (hN : cn + 1 ≤ N) (hS1 : sn + k ≤ S) (h : GoN lay d N S M (pc + 2) ls (.ref n :: st) (n + 1) (cn + 1) (sn + k) P I J n' Q) : GoN lay d N S M pc ls (.int v :: st) n cn sn P I J n' Q := by
  intro E p e s m args below meth c H arr locs hH hi hL hP hz hC hS
  have hcw : ∀ w ∈ z_Tg, w.before args s = true := fun w hw => hH.2.2.2.2.2.1 w (List.mem_cons_of_mem _ hw)
  refine W.sz (fun hsz => ?_)
  have hzz := z_szN hP hz hsz
  refine va_newaK (atype := .long) (N := k) hH.1 hH.2.1 (hcw _ hw) rfl hd rfl hv hk (by show k * 8 ≤ 536870912; omega) hN hS1 hzz (fun H1 cA e1 z1 o1 hAr hNm => ?_)
  have hcA : cA = E.2.2.2.2 3 := by
    have h1 : s.vm.findClass ("[" ++ (FieldType.long).toString) = some (E.2.2.2.2 3) := (hC.1.1.2 2 _ rfl).2
    exact Option.some.inj (hNm.symm.trans h1)
  have hkp : ∀ (j : Nat) (x : Nat × va_E), (z_ws (lay, n, P) E I J)[j]? = some x → H1[x.1]? = H[x.1]? := fun j x hx => o1 x.1 (by have := (hP j x hx).lt; omega)
  have hP1 : va_P E.2.2.2.1 z_cls (z_ws (lay, n + 1, P) E I J) H1 := by
    rw [z_wsS]
    refine (hP.kept hkp).app (fun j x hx => ?_)
    have hz1 : j < 1 := (List.getElem?_eq_some_iff.mp hx).1
    rw [show j = 0 by omega] at hx
    cases hx
    have ec : z_cel (lay, n, P) E I J n = .inl (E.2.2.2.2 3, k, .inr (.inl (J n))) := by simp [z_cel, hlay]
    rw [ec]
    show H1[E.2.1 + n]? = some (vp_cell _ _)
    rw [e1, hcA, hJ]
    rfl
  have hS2 : va_S (z_AN E) s.heap H1 locs := ⟨by rw [z1]; have := hS.1; omega, fun x h1 h2 => (o1 x (by have := hS.1; omega)).trans (hS.2.1 x h1 h2), hS.2.2⟩
  have := h E p e s m args below meth c H1 arr locs hH hi hL hP1 (by omega) hC hS2
  rw [show (Value.ref n :: st).map (z_rv E) = .ref (E.2.1 + n) :: st.map (z_rv E) from by simp [z_rv, z_amLow hn]] at this
  exact this
/-- a char is stored -/
theorem n_cast {a k : Nat} {i x : Int32} (hd : decode M.2.1 pc = .ok (.castore, 1)) (ha : z_Ar (lay, n, P) a 2 k) (hi0 : vp_in i k) (hx : vp_nar .char x = x) (h : GoN lay d N S M (pc + 1) ls st n cn sn P (u2 I a i.toNatClampNeg x) J n' Q) : GoN lay d N S M pc ls (.int x :: .int i :: .ref a :: st) n cn sn P I J n' Q := by
  intro E p e s m args below meth c9 H arr locs hH hi hL hP hz hC hS
  show W p E.1 e (z_rmN d N S) s m args below meth c9 H locs cn sn _ (F0 m pc arr (.int x :: .int i :: .ref (z_am E a) :: st.map (z_rv E)))
  rw [z_amLow ha.2.2]
  refine va_cast hH.1 hH.2.1 hC.1.1 hP z_wsDN hS a 1 (z_ar2 ha) rfl hi0 hd (fun H1 locs1 hP1 _ hS1 => ?_)
  rw [hx] at hP1
  have hl : lay a = (2, k) := ha.1
  have e1 : z_cel (lay, n, P) E (u2 I a i.toNatClampNeg x) J a = .inl (E.2.2.2.2 2, k, .inl (upd (I a) i.toNatClampNeg x)) := by
    simp only [z_cel, hl]
    congr 3
    first | (funext j; simp [u2, upd]; done) | (congr 1; funext j; simp [u2, upd]; done)
  rw [z_wsSet e1 (fun j hj => z_celRow (u2_row hj) rfl)] at hP1
  exact h E p e s m args below meth c9 H1 arr locs1 hH hi hL hP1 hz hC hS1
/-- a maker is called -/
theorem z_WN.blind {E : En} {av : List Value} : FrameBlind (va_Pc av (z_WN lay n P E I J)) := fun a U g mk h => ⟨h.1, ⟨h.2.1.1, z_CN.moved (u := U) (U := U.calling g mk a) (State.WarmedH.refl U) (fun _ _ _ => rfl) h.2.1.2⟩, h.2.2⟩
theorem n_callI {idx k o N1 S1 n1 : Nat} {M' : Mt} {As rest : List Value} {Q1 : QN} (hd : decode M.2.1 pc = .ok (.invokespecial idx, 3)) (hl : Cond.methodLink M.1.cls idx M'.1 ∈ z_Tg) (hm : z_Md M' k) (hr : M'.2.2.2 = none) (hnm : M'.1.name = "<init>") (hv : Cond.instanceMethod M'.1 ∈ z_Tg) (hn : As.length = k) (hst : st = As.reverse ++ .ref o :: rest) (hsum : (rest.map fun v => v.category).sum ≤ 8) (hN : cn + N1 ≤ N) (hS1 : sn + S1 ≤ S) (hn1 : n1 = n + N1)
    (h : CalN lay d N1 S1 M' (.ref o :: As) n P I J n1 Q1) (hk : ∀ P' I' J', Q1 P' I' J' → GoN lay (d + 1) N S M (pc + 3) ls rest n1 (cn + N1) (sn + S1) P' I' J' n' Q) : GoN lay (d + 1) N S M pc ls st n cn sn P I J n' Q := by
  subst hst
  intro E p e s m args below meth c9 H arr locs hH hi hL hP hz hC hS
  have hcw : ∀ w ∈ z_Tg, w.before args s = true := fun w hw => hH.2.2.2.2.2.1 w (List.mem_cons_of_mem _ hw)
  refine W.sz (fun hsz => ?_)
  have hzz := z_szN hP hz hsz
  have e1 : (As.reverse ++ .ref o :: rest).map (z_rv E) = (As.map (z_rv E)).reverse ++ .ref (z_am E o) :: rest.map (z_rv E) := by
    simp [z_rv]
  have hps : PreS s H (va_Pc ((Value.ref o :: As).map (z_rv E)) (z_WN lay n P E I J)) (.ref (z_am E o) :: As.map (z_rv E)) := ⟨z_WN.blind, fun U hU hW => ⟨rfl, ⟨by rw [hU]; exact hP, z_CN.moved hW (fun q h1 h2 => by rw [hU]; exact hS.2.1 q h1 h2) hC⟩, by rw [hU]; exact hzz⟩⟩
  have cb : CallB (z_rmN (d + 1) N S) s args M.1.cls idx M'.1 M'.2.1 M'.2.2.1 M'.2.2.2 (z_wsM M') (z_rmN d N1 S1) N1 S1 k := callB_of k hH.2.2.2.2.2.1 (z_goodIn hm.1) rfl rfl rfl (hcw _ hm.2.1) (hcw _ hl) hm.2.2.1 (z_room hm.2.2.2)
  rw [hr] at cb
  have run := va_runI (e := e) (below := below) (meth := meth) (As := As.map (z_rv E)) (rest := rest.map (z_rv E)) (b := z_am E o) (g := F0 m pc arr ((As.reverse ++ .ref o :: rest).map (z_rv E))) (cells := cn) (slots := sn) (locs := locs) ⟨hH.1, hH.2.1, hH.2.2.2.1, hH.2.2.2.2.1, hH.2.2.2.2.2.1⟩ (h E) ⟨cb, hnm, hcw _ hv⟩ hps rfl (by rw [List.length_map]; exact hn) hL.1 e1 (lv_room (z_sumc hsum)) hd ⟨hN, hS1⟩
  intro T hT X
  obtain ⟨v, st₀, t, T', L, h0, X', hLf, e3, e4, ⟨⟨P', I', J', hq, hv2, hw⟩, hz2, hk2⟩, stp⟩ := run T hT X
  cases hv2
  rw [h0] at hz2 hk2
  have hS2 : va_S (z_AN E) s.heap T'.heap (locs ++ L) := ⟨Nat.le_trans hS.1 (by rw [e3]; exact hz2), fun q h1 h2 => by rw [e3, hk2 q (Nat.lt_of_lt_of_le h1 hS.1) h2]; exact hS.2.1 q h1 h2, fun q hq => by
      rcases List.mem_append.mp hq with h | h
      · exact hS.2.2 q h
      · exact hLf q h⟩
  obtain ⟨t2, a1, b1⟩ := hk P' I' J' hq E p e s m args below meth c9 T'.heap arr (locs ++ L) hH hi hL (by rw [e3]; exact hw.1.1) (by omega) hC hS2 T' rfl X'
  exact ⟨t2, stp t2 a1, b1⟩
end NT

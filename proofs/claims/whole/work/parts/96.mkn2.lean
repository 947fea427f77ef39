/-! making: objects, references, calls -/
theorem z_dflt : ∀ c, c < 14 → ∀ j, j < z_nF c → defaultValue (z_ty c j) = (if z_kd (z_ty c j) = 1 then .long 0 else if z_kd (z_ty c j) = 2 ∨ z_kd (z_ty c j) = 3 then .null else .int 0) := by decide +kernel
theorem z_kd4 (t : FieldType) : z_kd t = 0 ∨ z_kd t = 1 ∨ z_kd t = 2 ∨ z_kd t = 3 := by
  unfold z_kd
  split
  · simp
  · split <;> simp
  · simp
  · simp
/-- a field of references is written -/
def p2 (P : Rf) (o k a : Nat) : Rf := fun b j => if b = o ∧ j = k then some a else P b j
theorem z_C.narrow {A B : Nat → Prop} {E : En} {U : State} {H : Heap} (h : z_C A E U H) (hAB : ∀ q, B q → A q) : z_C B E U H :=
  ⟨h.1, h.2.1, h.2.2.1.narrow hAB, ⟨h.2.2.2.1.1.narrow hAB, h.2.2.2.1.2.narrow hAB⟩, h.2.2.2.2.1.narrow hAB, h.2.2.2.2.2.narrow hAB⟩
section NS
variable {lay : Nat → Nat × Nat} {d N S : Nat} {M : Mt} {pc : Nat} {ls : List (Nat × Value)} {st : List Value} {n cn sn n' : Nat} {P : Rf} {I : Ii} {J : Jj} {Q : QN}
theorem n_new {idx c : Nat} (hd : decode M.2.1 pc = .ok (.new idx, 3)) (hl : Cond.classLink M.1.cls idx (z_R c) ∈ z_Tg) (hin : Cond.instantiable (z_R c) (z_nF c) ∈ z_Tg) (hini : Cond.initialized (z_R c) ∈ z_Tg) (hc : c < 14) (hlay : lay n = (0, c)) (hP0 : P n = fun _ => none) (hI0 : ∀ j, j < z_nF c → I n j = if z_kd (z_ty c j) = 3 then -1 else 0) (hJ0 : J n = fun _ => 0) (hn : n < 10000) (hN : cn + 1 ≤ N) (hS1 : sn + z_nF c ≤ S) (h : GoN lay d N S M (pc + 3) ls (.ref n :: st) (n + 1) (cn + 1) (sn + z_nF c) P I J n' Q) : GoN lay d N S M pc ls st n cn sn P I J n' Q := by
  intro E p e s m args below meth c9 H arr locs hH hi hL hP hz hC hS
  have hcw : ∀ w ∈ z_Tg, w.before args s = true := fun w hw => hH.2.2.2.2.2.1 w (List.mem_cons_of_mem _ hw)
  refine W.sz (fun hsz => ?_)
  have hzz := z_szN hP hz hsz
  have hKn := hC.1.1.1 c _ (z_clsAt c hc)
  refine W.newcK hH.1 hH.2.1 hH.2.2.2.2.1 (hcw _ hl) (hcw _ hin) (hcw _ hini) rfl hd hN hS1 hKn.2.1 hzz (fun H1 kC hkC e1 z1 o1 => ?_)
  have hkp : ∀ (j : Nat) (x : Nat × va_E), (z_ws (lay, n, P) E I J)[j]? = some x → H1[x.1]? = H[x.1]? := fun j x hx => o1 x.1 (by have := (hP j x hx).lt; omega)
  have hP1 : va_P E.2.2.2.1 z_cls (z_ws (lay, n + 1, P) E I J) H1 := by
    rw [z_wsS]
    refine (hP.kept hkp).app (fun j x hx => ?_)
    have hz1 : j < 1 := (List.getElem?_eq_some_iff.mp hx).1
    rw [show j = 0 by omega] at hx
    cases hx
    have ec : z_cel (lay, n, P) E I J n = .inr (c, z_fl E P I J c n) := by simp [z_cel, hlay]
    rw [ec]
    refine ⟨_, z_clsAt c hc, (u_born (z_ty c) hcw (z_in c hc) hKn hkC e1 (z_tyok c hc)).to (fun j hj => ?_)⟩
    rw [z_dflt c hc j hj]
    have ef : vp_V (z_fl E P I J c n) j = z_fv E P I J (z_kd (z_ty c j)) n j := by
      unfold vp_V
      rw [List.getD_eq_getElem?_getD, z_flAt hj]
      rfl
    rw [ef]
    have e0 := hI0 j hj
    rcases z_kd4 (z_ty c j) with k | k | k | k
    · rw [k] at e0 ⊢; simp at e0; simp [z_fv, e0]
    · rw [k]; simp [z_fv, hJ0]
    · rw [k]; simp [z_fv, hP0, va_rf]
    · rw [k] at e0 ⊢; simp at e0; simp [z_fv, e0, z_wo, va_rf]
  have hS2 : va_S (z_AN E) s.heap H1 locs := ⟨by rw [z1]; have := hS.1; omega, fun x h1 h2 => (o1 x (by have := hS.1; omega)).trans (hS.2.1 x h1 h2), hS.2.2⟩
  have := h E p e s m args below meth c9 H1 arr locs hH hi hL hP1 (by omega) hC hS2
  rw [show (Value.ref n :: st).map (z_rv E) = .ref (E.2.1 + n) :: st.map (z_rv E) from by simp [z_rv, z_amLow hn]] at this
  exact this
theorem z_flP {E : En} {c o k a : Nat} (hk : z_kd (z_ty c k) = 2) : z_fl E (p2 P o k a) I J c o = (z_fl E P I J c o).set k (.ref (z_am E a)) := by
  apply List.ext_getElem?
  intro f
  by_cases hf : f < z_nF c
  · rw [z_flAt hf]
    by_cases hfk : k = f
    · subst hfk
      rw [List.getElem?_set_self (by simp [z_fl]; exact hf), hk]
      simp [z_fv, p2, va_rf]
    · rw [List.getElem?_set_ne hfk, z_flAt hf]
      unfold z_fv
      have hne : ¬ f = k := fun q => hfk q.symm
      split <;> simp [p2, hne]
  · rw [List.getElem?_eq_none (by simp [z_fl]; omega), List.getElem?_eq_none (by simp [z_fl]; omega)]
theorem z_celP {E : En} {o k a j : Nat} (hj : j ≠ o) : z_cel (lay, n, p2 P o k a) E I J j = z_cel (lay, n, P) E I J j := by
  have er : p2 P o k a j = P j := by funext f; simp [p2, hj]
  have e : ∀ c, z_fl E (p2 P o k a) I J c j = z_fl E P I J c j := fun c => by
    unfold z_fl
    apply List.map_congr_left
    intro f _
    unfold z_fv
    split <;> simp [er]
  unfold z_cel
  simp only [e, er]
theorem z_wsSetP {E : En} {P' : Rf} {k : Nat} {e : va_E} (he : z_cel (lay, n, P') E I J k = e) (ho : ∀ j, j ≠ k → z_cel (lay, n, P') E I J j = z_cel (lay, n, P) E I J j) : (z_ws (lay, n, P) E I J).set k (E.2.1 + k, e) = z_ws (lay, n, P') E I J := by
  apply List.ext_getElem?
  intro j
  by_cases hj : j < n
  · rw [z_wsAt (ω := (lay, n, P')) hj]
    by_cases hjk : k = j
    · subst hjk
      rw [List.getElem?_set_self (by simp [z_ws]; exact hj), he]
    · rw [List.getElem?_set_ne hjk, z_wsAt (ω := (lay, n, P)) hj, ho j (fun h => hjk h.symm)]
  · rw [List.getElem?_eq_none (by simp [z_ws]; omega), List.getElem?_eq_none (by simp [z_ws]; omega)]
/-- a final field of a reference -/
theorem n_putR {idx c k o a : Nat} (hd : decode M.2.1 pc = .ok (.putfield idx, 3)) (hf : z_Fl M.1.cls idx c k) (hfin : (z_T c k).2.2.2 = true) (hdc : (z_T c k).1 = M.1.cls) (hk : z_kd (z_ty c k) = 2) (hn1 : ∀ q, narrow (z_ty c k) (.ref q) = .ref q) (hn2 : ∀ q, fits (z_ty c k) (.ref q) = true) (ho : z_Ob (lay, n, P) o c) (h : GoN lay d N S M (pc + 3) ls st n cn sn (p2 P o k a) I J n' Q) : GoN lay d N S M pc ls (.ref a :: .ref o :: st) n cn sn P I J n' Q := by
  intro E p e s m args below meth c9 H arr locs hH hi hL hP hz hC hS
  show W p E.1 e (z_rmN d N S) s m args below meth c9 H locs cn sn _ (F0 m pc arr (.ref (z_am E a) :: .ref (z_am E o) :: st.map (z_rv E)))
  rw [z_amLow (k := o) ho.2.2.1]
  refine va_putF hH.1 hH.2.1 hH.2.2.2.2.2.1 (fun w hw => List.mem_cons_of_mem _ (z_in c ho.2.2.2 w hw)) (z_ty c) (z_tyok c ho.2.2.2) (z_nmok c ho.2.2.2) hH.2.2.2.2.1 hC.1.1 hP z_wsDN hS o (z_obAt ho) (z_clsAt c ho.2.2.2) k hf.1 (hH.2.2.2.2.2.1 _ (List.mem_cons_of_mem _ hf.2)) (fun x q => q) hfin hi hdc (z_tyok c ho.2.2.2 k hf.1) (hn1 _) (hn2 _) (by simp [z_fl]; exact hf.1) hd (fun H1 locs1 hP1 _ hS1 => ?_)
  have e1 : z_cel (lay, n, p2 P o k a) E I J o = .inr (c, (z_fl E P I J c o).set k (.ref (z_am E a))) := by
    rw [← z_flP hk]
    have hl : lay o = (0, c) := ho.1
    simp [z_cel, hl]
  have e2 : (z_ws (lay, n, P) E I J).set o (E.2.1 + o, .inr (c, (z_fl E P I J c o).set k (.ref (z_am E a)))) = z_ws (lay, n, p2 P o k a) E I J := z_wsSetP e1 (fun j hj => z_celP hj)
  have hP2 : va_P E.2.2.2.1 z_cls (z_ws (lay, n, p2 P o k a) E I J) H1 := by rw [← e2]; exact hP1
  exact h E p e s m args below meth c9 H1 arr locs1 hH hi hL hP2 hz hC hS1
end NS

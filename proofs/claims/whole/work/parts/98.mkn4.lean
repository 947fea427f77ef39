/-! making: the other steps -/
section NU
variable {lay : Nat → Nat × Nat} {d N S : Nat} {M : Mt} {pc : Nat} {ls : List (Nat × Value)} {st : List Value} {n cn sn n' : Nat} {P : Rf} {I : Ii} {J : Jj} {Q : QN}
theorem n_lconst {k : Fin 2} {v : Int64} (hd : decode M.2.1 pc = .ok (.lconst k, 1)) (hv : Int64.ofNat (k : Nat) = v) (h : GoN lay d N S M (pc + 1) ls (.long v :: st) n cn sn P I J n' Q) : GoN lay d N S M pc ls st n cn sn P I J n' Q :=
  fun E p e s m args below meth c H arr locs hH hi hL hP hz hC hS => lv_lconst hH.1 hH.2.1 hd hv (h E p e s m args below meth c H arr locs hH hi hL hP hz hC hS)
theorem n_iload_n {k : Fin 4} {x : Int32} (hd : decode M.2.1 pc = .ok (.iload_n k, 1)) (j i : Nat) (hi0 : (k : Nat) = i) (hj : ls[j]? = some (i, .int x)) (h : GoN lay d N S M (pc + 1) ls (.int x :: st) n cn sn P I J n' Q) : GoN lay d N S M pc ls st n cn sn P I J n' Q :=
  fun E p e s m args below meth c H arr locs hH hi hL hP hz hC hS => lv_iload_n hH.1 hH.2.1 hd hi0 (z_at hL hj) (h E p e s m args below meth c H arr locs hH hi hL hP hz hC hS)
theorem n_istore_n {k : Fin 4} {i : Nat} {x : Int32} {ls' : List (Nat × Value)} (hd : decode M.2.1 pc = .ok (.istore_n k, 1)) (hi0 : (k : Nat) = i) (hn : i < M.2.2.1) (hl : (i, Value.int x) :: ls.filter (fun q => !(q.1 == i) && !(q.1 + 1 == i && q.2.category == 2)) = ls') (h : GoN lay d N S M (pc + 1) ls' st n cn sn P I J n' Q) : GoN lay d N S M pc ls (.int x :: st) n cn sn P I J n' Q :=
  fun E p e s m args below meth c H arr locs hH hi hL hP hz hC hS => lv_istore_n (lv' := ls'.map (z_lv E)) hH.1 hH.2.1 hd hi0 hL hn (by subst hl; rw [z_fil1]; rfl) (fun arr hL => h E p e s m args below meth c H arr locs hH hi hL hP hz hC hS)
theorem n_goto {off : Int} {tgt : Nat} (hd : decode M.2.1 pc = .ok (.goto off, 3)) (ht : (pc : Int) + off = (tgt : Int)) (h : GoN lay d N S M tgt ls st n cn sn P I J n' Q) : GoN lay d N S M pc ls st n cn sn P I J n' Q :=
  fun E p e s m args below meth c H arr locs hH hi hL hP hz hC hS => lv_goto hH.1 hH.2.1 hd ht (h E p e s m args below meth c H arr locs hH hi hL hP hz hC hS)
/-- a field of references is read -/
theorem n_getP {idx c k o a : Nat} (hd : decode M.2.1 pc = .ok (.getfield idx, 3)) (hf : z_Fl M.1.cls idx c k) (hk : z_kd (z_ty c k) = 2) (ho : z_Ob (lay, n, P) o c) (hp : P o k = some a) (h : GoN lay d N S M (pc + 3) ls (.ref a :: st) n cn sn P I J n' Q) : GoN lay d N S M pc ls (.ref o :: st) n cn sn P I J n' Q := by
  intro E p e s m args below meth c9 H arr locs hH hi hL hP hz hC hS
  show W p E.1 e (z_rmN d N S) s m args below meth c9 H locs cn sn _ (F0 m pc arr (.ref (z_am E o) :: st.map (z_rv E)))
  rw [z_amLow ho.2.2.1]
  refine va_get hH.1 hH.2.1 hH.2.2.2.2.2.1 (fun w hw => List.mem_cons_of_mem _ (z_in c ho.2.2.2 w hw)) hH.2.2.2.2.1 hC.1.1 hP o (z_obAt ho) (z_clsAt c ho.2.2.2) k hf.1 (hH.2.2.2.2.2.1 _ (List.mem_cons_of_mem _ hf.2)) (fun x q => q) (z_flAt hf.1) hd ?_
  have ev : z_fv E P I J (z_kd (z_ty c k)) o k = .ref (z_am E a) := by rw [hk]; simp [z_fv, hp, va_rf]
  rw [show ((lay, n, P) : Wl).2.2 = P from rfl, ev]
  exact h E p e s m args below meth c9 H arr locs hH hi hL hP hz hC hS
theorem n_iast {a k : Nat} {i x : Int32} (hd : decode M.2.1 pc = .ok (.iastore, 1)) (ha : z_Ar (lay, n, P) a 1 k) (hi0 : vp_in i k) (h : GoN lay d N S M (pc + 1) ls st n cn sn P (u2 I a i.toNatClampNeg x) J n' Q) : GoN lay d N S M pc ls (.int x :: .int i :: .ref a :: st) n cn sn P I J n' Q := by
  intro E p e s m args below meth c9 H arr locs hH hi hL hP hz hC hS
  show W p E.1 e (z_rmN d N S) s m args below meth c9 H locs cn sn _ (F0 m pc arr (.int x :: .int i :: .ref (z_am E a) :: st.map (z_rv E)))
  rw [z_amLow ha.2.2]
  refine va_iast hH.1 hH.2.1 hC.1.1 hP z_wsDN hS a 0 (z_ar1 ha) rfl hi0 hd (fun H1 locs1 hP1 _ hS1 => ?_)
  have hl : lay a = (1, k) := ha.1
  have e1 : z_cel (lay, n, P) E (u2 I a i.toNatClampNeg x) J a = .inl (E.2.2.2.2 1, k, .inl (upd (I a) i.toNatClampNeg x)) := by
    simp only [z_cel, hl]
    congr 3
    first | (funext j; simp [u2, upd]; done) | (congr 1; funext j; simp [u2, upd]; done)
  rw [z_wsSet e1 (fun j hj => z_celRow (u2_row hj) rfl)] at hP1
  exact h E p e s m args below meth c9 H1 arr locs1 hH hi hL hP1 hz hC hS1
theorem n_putJ {idx c k o : Nat} {v : Int64} (hd : decode M.2.1 pc = .ok (.putfield idx, 3)) (hf : z_Fl M.1.cls idx c k) (hfin : (z_T c k).2.2.2 = false) (ht : z_ty c k = .long) (ho : z_Ob (lay, n, P) o c) (h : GoN lay d N S M (pc + 3) ls st n cn sn P I (w2 J o k v) n' Q) : GoN lay d N S M pc ls (.long v :: .ref o :: st) n cn sn P I J n' Q := by
  intro E p e s m args below meth c9 H arr locs hH hi hL hP hz hC hS
  show W p E.1 e (z_rmN d N S) s m args below meth c9 H locs cn sn _ (F0 m pc arr (.long v :: .ref (z_am E o) :: st.map (z_rv E)))
  rw [z_amLow (k := o) ho.2.2.1]
  refine va_put hH.1 hH.2.1 hH.2.2.2.2.2.1 (fun w hw => List.mem_cons_of_mem _ (z_in c ho.2.2.2 w hw)) (z_ty c) (z_tyok c ho.2.2.2) (z_nmok c ho.2.2.2) hH.2.2.2.2.1 hC.1.1 hP z_wsDN hS o (z_obAt ho) (z_clsAt c ho.2.2.2) k hf.1 (hH.2.2.2.2.2.1 _ (List.mem_cons_of_mem _ hf.2)) (fun x q => q) hfin (z_tyok c ho.2.2.2 k hf.1) (by rw [ht]; rfl) (by rw [ht]; rfl) (by simp [z_fl]; exact hf.1) hd (fun H1 locs1 hP1 _ hS1 => ?_)
  have e1 : z_cel (lay, n, P) E I (w2 J o k v) o = .inr (c, (z_fl E P I J c o).set k (.long v)) := by
    have e2 := z_flSet (E := E) (P := P) (I := I) (J := J) (I' := I) (J' := w2 J o k v) (c := c) (o := o) (k := k) (fun f _ => rfl) (fun f hf => w2_k hf)
    have e3 : z_fv E P I (w2 J o k v) (z_kd (z_ty c k)) o k = .long v := by rw [ht]; simp [z_kd, z_fv, w2]
    rw [e3] at e2
    rw [← e2]
    have hl : lay o = (0, c) := ho.1
    simp [z_cel, hl]
  rw [z_wsSet e1 (fun j hj => z_celRow rfl (w2_row hj))] at hP1
  exact h E p e s m args below meth c9 H1 arr locs1 hH hi hL hP1 hz hC hS1
/-- a method that makes nothing is called, of no answer -/
theorem n_calls {idx k : Nat} {M' : Mt} {As rest : List Value} {Q' : Qt} (hd : decode M.2.1 pc = .ok (.invokestatic idx, 3)) (hl : Cond.methodLink M.1.cls idx M'.1 ∈ z_Tg) (hm : z_Md M' k) (hv : Cond.static M'.1 ∈ z_Tg) (hn : As.length = k) (hst : st = As.reverse ++ rest) (hsum : (rest.map fun v => v.category).sum ≤ 8)
    (h : Cal (lay, n, P) d M' As I J Q') (hk : ∀ r I' J', Q' r I' J' → r = none ∧ GoN lay (d + 1) N S M (pc + 3) ls rest n cn sn P I' J' n' Q) (hN : cn ≤ N) (hS1 : sn ≤ S) : GoN lay (d + 1) N S M pc ls st n cn sn P I J n' Q := by
  subst hst
  intro E p e s m args below meth c9 H arr locs hH hi hL hP hz hC hS
  have hcw : ∀ w ∈ z_Tg, w.before args s = true := fun w hw => hH.2.2.2.2.2.1 w (List.mem_cons_of_mem _ hw)
  have e1 : (As.reverse ++ rest).map (z_rv E) = (As.map (z_rv E)).reverse ++ rest.map (z_rv E) := by simp
  have hAB : ∀ q, z_A (lay, n, P) E q → z_AN E q := fun q h => h.1
  have hps : PreS s H (va_Pc (As.map (z_rv E)) (fun U => z_Wd (lay, n, P) E I J U)) (As.map (z_rv E)) := ⟨z_blind, fun U hU hW => ⟨rfl, by rw [hU]; exact hP, (z_CN.moved hW (fun q h1 h2 => by rw [hU]; exact hS.2.1 q h1 h2) hC).1.narrow hAB⟩⟩
  have cb : CallB (z_rmN (d + 1) N S) s args M.1.cls idx M'.1 M'.2.1 M'.2.2.1 M'.2.2.2 (z_wsM M') (z_rm d) 0 0 k := callB_of k hH.2.2.2.2.2.1 (z_goodIn hm.1) rfl rfl rfl (hcw _ hm.2.1) (hcw _ hl) hm.2.2.1 (z_room hm.2.2.2)
  have run := va_runS (e := e) (below := below) (meth := meth) (As := As.map (z_rv E)) (rest := rest.map (z_rv E)) (g := F0 m pc arr ((As.reverse ++ rest).map (z_rv E))) (cells := cn) (slots := sn) (locs := locs) ⟨hH.1, hH.2.1, hH.2.2.2.1, hH.2.2.2.2.1, hH.2.2.2.2.2.1⟩ (h E) ⟨cb, hcw _ hv⟩ hps rfl (by rw [List.length_map]; exact hn) hL.1 e1 (lv_room (z_sumc hsum)) hd ⟨hN, hS1⟩
  intro T hT X
  obtain ⟨v, st₀, t, T', L, h0, X', hLf, e3, e4, ⟨⟨r, I', J', hq, hv2, hw⟩, hz2, hk2⟩, stp⟩ := run T hT X
  obtain ⟨rfl, hgo⟩ := hk r I' J' hq
  cases hv2
  rw [h0] at hz2 hk2
  have hS2 : va_S (z_AN E) s.heap T'.heap (locs ++ L) := ⟨Nat.le_trans hS.1 (by rw [e3]; exact hz2), fun q h1 h2 => by rw [e3, hk2 q (Nat.lt_of_lt_of_le h1 hS.1) (fun y => h2 (hAB q y))]; exact hS.2.1 q h1 h2, fun q hq => by
      rcases List.mem_append.mp hq with h | h
      · exact hS.2.2 q h
      · exact hAB _ (hLf q h)⟩
  obtain ⟨t2, a1, b1⟩ := hgo E p e s m args below meth c9 T'.heap arr (locs ++ L) hH hi hL (by rw [e3]; exact hw.1) hz hC hS2 T' rfl X'
  exact ⟨t2, stp t2 a1, b1⟩
theorem n_iinc {i : Nat} {k : Int} {x v : Int32} {ls' : List (Nat × Value)} (hd : decode M.2.1 pc = .ok (.iinc i k, 3)) (j : Nat) (hj : ls[j]? = some (i, .int x)) (hv : x + Int32.ofInt k = v) (hn : i < M.2.2.1) (hl : (i, Value.int v) :: ls.filter (fun q => !(q.1 == i) && !(q.1 + 1 == i && q.2.category == 2)) = ls') (h : GoN lay d N S M (pc + 3) ls' st n cn sn P I J n' Q) : GoN lay d N S M pc ls st n cn sn P I J n' Q :=
  fun E p e s m args below meth c H arr locs hH hi hL hP hz hC hS => lv_iinc (k := j) (lv' := ls'.map (z_lv E)) hH.1 hH.2.1 hd hL (by rw [List.getElem?_map, hj]; rfl) hv hn (by subst hl; rw [z_fil1]; rfl) (fun arr hL => h E p e s m args below meth c H arr locs hH hi hL hP hz hC hS)
theorem n_icmp_ge {x y : Int32} {off : Int} {tgt : Nat} (hd : decode M.2.1 pc = .ok (.if_icmp .ge off, 3)) (ht : (pc : Int) + off = (tgt : Int)) (h1 : y ≤ x → GoN lay d N S M tgt ls st n cn sn P I J n' Q) (h2 : ¬ y ≤ x → GoN lay d N S M (pc + 3) ls st n cn sn P I J n' Q) : GoN lay d N S M pc ls (.int y :: .int x :: st) n cn sn P I J n' Q :=
  fun E p e s m args below meth c H arr locs hH hi hL hP hz hC hS => lv_icmp_ge hH.1 hH.2.1 hd ht (fun q => h1 q E p e s m args below meth c H arr locs hH hi hL hP hz hC hS) (fun q => h2 q E p e s m args below meth c H arr locs hH hi hL hP hz hC hS)
end NU
/-- what a row will hold, as far as it is written -/
def rs2 (F : Ii) (n j : Nat) : Ii := fun a k => if a < n then F a k else if a = n ∧ k < j then F a k else 0
theorem rs2_s {F : Ii} {n j : Nat} : u2 (rs2 F n j) n j (F n j) = rs2 F n (j + 1) := by
  funext a k
  by_cases e : a = n
  · subst e
    by_cases e2 : k = j
    · subst e2; rw [u2_at]; unfold rs2; rw [if_neg (by omega), if_pos (by omega)]
    · rw [u2_k e2]
      unfold rs2
      simp only [Nat.lt_irrefl, if_false, true_and]
      by_cases e3 : k < j
      · rw [if_pos e3, if_pos (by omega)]
      · rw [if_neg e3, if_neg (by omega)]
  · rw [u2_row e]
    unfold rs2
    by_cases e3 : a < n
    · rw [if_pos e3, if_pos e3]
    · rw [if_neg e3, if_neg e3, if_neg (fun z => e z.1), if_neg (fun z => e z.1)]
theorem rs2_n {F : Ii} {n l : Nat} (h : ∀ k, l ≤ k → F n k = 0) : rs2 F n l = rs2 F (n + 1) 0 := by
  funext a k
  unfold rs2
  by_cases e : a < n
  · rw [if_pos e, if_pos (by omega)]
  · rw [if_neg e]
    by_cases e2 : a = n
    · subst e2
      rw [if_pos (show a < a + 1 by omega)]
      by_cases e3 : k < l
      · rw [if_pos ⟨rfl, e3⟩]
      · rw [if_neg (fun z => e3 z.2), h k (by omega)]
    · rw [if_neg (fun z => e2 z.1), if_neg (by omega), if_neg (by omega)]
theorem rs2_0 {F : Ii} {n : Nat} : rs2 F n 0 n = fun _ => 0 := by
  funext k
  unfold rs2
  rw [if_neg (by omega), if_neg (by omega)]

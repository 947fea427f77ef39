/-! making the class: nest mates' makers, arrays of State, constants of Word -/
section NV
variable {lay : Nat → Nat × Nat} {d N S : Nat} {M : Mt} {pc : Nat} {ls : List (Nat × Value)} {st : List Value} {n cn sn n' : Nat} {P : Rf} {I : Ii} {J : Jj} {Q : QN}
theorem n_callK {idx k o N1 S1 n1 : Nat} {M' : Mt} {As rest : List Value} {Q1 : QN} (hd : decode M.2.1 pc = .ok (.invokespecial idx, 3)) (hl : z_Lk M.1.cls idx M') (hm : z_Md M' k) (hr : M'.2.2.2 = none) (hnm : M'.1.name = "<init>") (hv : Cond.instanceMethod M'.1 ∈ z_Tg) (hn : As.length = k) (hst : st = As.reverse ++ .ref o :: rest) (hsum : (rest.map fun v => v.category).sum ≤ 8) (hN : cn + N1 ≤ N) (hS1 : sn + S1 ≤ S) (hn1 : n1 = n + N1)
    (h : CalN lay d N1 S1 M' (.ref o :: As) n P I J n1 Q1) (hk : ∀ P' I' J', Q1 P' I' J' → GoN lay (d + 1) N S M (pc + 3) ls rest n1 (cn + N1) (sn + S1) P' I' J' n' Q) : GoN lay (d + 1) N S M pc ls st n cn sn P I J n' Q := by
  rcases hl with hl | hl
  · exact n_callI hd hl hm hr hnm hv hn hst hsum hN hS1 hn1 h hk
  subst hst
  intro E p e s m args below meth c9 H arr locs hH hi hL hP hz hC hS
  have hcw : ∀ w ∈ z_Tg, w.before args s = true := fun w hw => hH.2.2.2.2.2.1 w (List.mem_cons_of_mem _ hw)
  refine W.sz (fun hsz => ?_)
  have hzz := z_szN hP hz hsz
  have e1 : (As.reverse ++ .ref o :: rest).map (z_rv E) = (As.map (z_rv E)).reverse ++ .ref (z_am E o) :: rest.map (z_rv E) := by
    simp [z_rv]
  have hps : PreS s H (va_Pc ((Value.ref o :: As).map (z_rv E)) (z_WN lay n P E I J)) (.ref (z_am E o) :: As.map (z_rv E)) := ⟨z_WN.blind, fun U hU hW => ⟨rfl, ⟨by rw [hU]; exact hP, z_CN.moved hW (fun q h1 h2 => by rw [hU]; exact hS.2.1 q h1 h2) hC⟩, by rw [hU]; exact hzz⟩⟩
  have cb : va_CN (z_rmN (d + 1) N S) s args M.1.cls idx M'.1 "PupilsPupil" M'.2.1 M'.2.2.1 M'.2.2.2 (z_wsM M') (z_rmN d N1 S1) N1 S1 k := va_cnB k hH.2.2.2.2.2.1 (z_goodIn hm.1) rfl rfl rfl (hC.1.2.1.1 _ hl) (hcw _ hm.2.1) hm.2.2.1 (z_room hm.2.2.2)
  rw [hr] at cb
  have run := va_runIN (e := e) (below := below) (meth := meth) (As := As.map (z_rv E)) (rest := rest.map (z_rv E)) (b := z_am E o) (g := F0 m pc arr ((As.reverse ++ .ref o :: rest).map (z_rv E))) (cells := cn) (slots := sn) (locs := locs) ⟨hH.1, hH.2.1, hH.2.2.2.1, hH.2.2.2.2.1, hH.2.2.2.2.2.1⟩ (h E) ⟨cb, hnm, hcw _ hv⟩ hps rfl (by rw [List.length_map]; exact hn) hL.1 e1 (lv_room (z_sumc hsum)) hd ⟨hN, hS1⟩
  intro T hT X
  obtain ⟨v, st₀, t, T', L, h0, X', hLf, e3, e4, ⟨⟨P', I', J', hq, hv2, hw⟩, hz2, hk2⟩, stp⟩ := run T hT X
  cases hv2
  rw [h0] at hz2 hk2
  have hS2 : va_S (z_AN E) s.heap T'.heap (locs ++ L) := ⟨Nat.le_trans hS.1 (by rw [e3]; exact hz2), fun q h1 h2 => by rw [e3, hk2 q (Nat.lt_of_lt_of_le h1 hS.1) h2]; exact hS.2.1 q h1 h2, fun q hq => by
      rcases List.mem_append.mp hq with h | h
      · exact hS.2.2 q h
      · exact hLf q h⟩
  obtain ⟨t2, a1, b1⟩ := hk P' I' J' hq E p e s m args below meth c9 T'.heap arr (locs ++ L) hH hi hL (by rw [e3]; exact hw.1.1) (by omega) hC hS2 T' rfl X'
  exact ⟨t2, stp t2 a1, b1⟩
theorem n_anew {v : Int32} {k idx : Nat} (hd : decode M.2.1 pc = .ok (.anewarray idx, 3)) (hl : Cond.classLink M.1.cls idx "PupilsPupil$State" ∈ z_Tg) (hlay : lay n = (4, k)) (hP0 : P n = fun _ => none) (hn : n < 10000) (hv : ¬ v < 0) (hk : v.toNatClampNeg = k) (hb : k ≤ 1000000) (hN : cn + 1 ≤ N) (hS1 : sn + k ≤ S) (h : GoN lay d N S M (pc + 3) ls (.ref n :: st) (n + 1) (cn + 1) (sn + k) P I J n' Q) : GoN lay d N S M pc ls (.int v :: st) n cn sn P I J n' Q := by
  intro E p e s m args below meth c H arr locs hH hi hL hP hz hC hS
  have hcw : ∀ w ∈ z_Tg, w.before args s = true := fun w hw => hH.2.2.2.2.2.1 w (List.mem_cons_of_mem _ hw)
  refine W.sz (fun hsz => ?_)
  have hzz := z_szN hP hz hsz
  subst hk
  refine W.anew hH.1 hH.2.1 hH.2.2.2.2.1 (hcw _ hl) (va_AO.use hC.2) rfl hd rfl hv (by omega) hN hS1 (fun cA kA comp f1 f2 f3 f4 => ?_)
  generalize hH1 : H.push ({ cls := cA, slots := Array.replicate v.toNatClampNeg .null, vm := .none } : Cell) = H1
  have z1 : H1.size = H.size + 1 := by rw [← hH1, Array.size_push]
  have e1 : H1[H.size]? = some (arrV cA v.toNatClampNeg (fun _ => .null)) := by rw [← hH1, Array.getElem?_push_size, ← arrV_new]
  have o1 : ∀ q : Nat, q < H.size → H1[q]? = H[q]? := fun q hq => by rw [← hH1, Array.getElem?_push, if_neg (Nat.ne_of_lt hq)]
  have hcA : cA = E.2.2.2.2 4 := by
    obtain ⟨-, -, -, -, -, h1⟩ := (hC.1.1.2 3 _ rfl).2
    exact Option.some.inj (f1.symm.trans h1)
  have hkp : ∀ (j : Nat) (x : Nat × va_E), (z_ws (lay, n, P) E I J)[j]? = some x → H1[x.1]? = H[x.1]? := fun j x hx => o1 x.1 (hP j x hx).lt
  have hP1 : va_P E.2.2.2.1 z_cls (z_ws (lay, n + 1, P) E I J) H1 := by
    rw [z_wsS]
    refine (hP.kept hkp).app (fun j x hx => ?_)
    have hz1 : j < 1 := (List.getElem?_eq_some_iff.mp hx).1
    rw [show j = 0 by omega] at hx
    cases hx
    have ec : z_cel (lay, n, P) E I J n = .inl (E.2.2.2.2 4, v.toNatClampNeg, .inr (.inr (.inr (.inr (fun _ => none))))) := by simp [z_cel, hlay, hP0]
    rw [ec]
    show H1[E.2.1 + n]? = some (vp_cell _ _)
    rw [← hzz, e1, hcA]
    rfl
  have hS2 : va_S (z_AN E) s.heap H1 locs := ⟨by rw [z1]; have := hS.1; omega, fun x h1 h2 => (o1 x (by have := hS.1; omega)).trans (hS.2.1 x h1 h2), hS.2.2⟩
  have := h E p e s m args below meth c H1 arr locs hH hi hL hP1 (by omega) hC hS2
  rw [show (Value.ref n :: st).map (z_rv E) = .ref H.size :: st.map (z_rv E) from by simp [z_rv, z_amLow hn, hzz]] at this
  exact this
theorem n_aast {a k o : Nat} {i : Int32} (hd : decode M.2.1 pc = .ok (.aastore, 1)) (ha : z_Ar (lay, n, P) a 4 k) (ho : z_Ob (lay, n, P) o 9) (hi0 : vp_in i k) (h : GoN lay d N S M (pc + 1) ls st n cn sn (p2 P a i.toNatClampNeg o) I J n' Q) : GoN lay d N S M pc ls (.ref o :: .int i :: .ref a :: st) n cn sn P I J n' Q := by
  intro E p e s m args below meth c9 H arr locs hH hi hL hP hz hC hS
  show W p E.1 e (z_rmN d N S) s m args below meth c9 H locs cn sn _ (F0 m pc arr (.ref (z_am E o) :: .int i :: .ref (z_am E a) :: st.map (z_rv E)))
  rw [z_amLow (k := o) ho.2.2.1, z_amLow (k := a) ha.2.2]
  refine va_astq hH.1 hH.2.1 hC.1.1 hP z_wsDN hS a 3 o 9 (z_ar4 ha) (r := (RX9, TX9, 9)) rfl (z_obAt ho) (z_clsAt 9 (by decide)) hi0 hd (fun H1 locs1 hP1 _ hS1 => ?_)
  have hl : lay a = (4, k) := ha.1
  have e1 : z_cel (lay, n, p2 P a i.toNatClampNeg o) E I J a = .inl (E.2.2.2.2 4, k, .inr (.inr (.inr (.inr (va_up (fun j => (P a j).map (z_am E)) i.toNatClampNeg (some (E.2.1 + o))))))) := by
    simp only [z_cel, hl]
    congr 7
    funext j
    unfold va_up p2
    by_cases e : j = i.toNatClampNeg
    · simp [e, z_amLow ho.2.2.1]
    · simp [e]
  have hP2 : va_P E.2.2.2.1 z_cls (z_ws (lay, n, p2 P a i.toNatClampNeg o) E I J) H1 := by rw [← z_wsSetP (P := P) e1 (fun j hj => z_celP hj)]; exact hP1
  exact h E p e s m args below meth c9 H1 arr locs1 hH hi hL hP2 hz hC hS1
theorem n_word {i idx : Nat} (hd : decode M.2.1 pc = .ok (.getstatic idx, 3)) (hw : Cond.fieldLink M.1.cls idx "PupilsPupil$Word" (z_wnm.getD i "") "LPupilsPupil$Word;" ∈ z_Tg) (hi0 : i < 34) (h : GoN lay d N S M (pc + 3) ls (.ref (10000 + i) :: st) n cn sn P I J n' Q) : GoN lay d N S M pc ls st n cn sn P I J n' Q := by
  intro E p e s m args below meth c9 H arr locs hH hi hL hP hz hC hS
  have hk : W p E.1 e (z_rmN d N S) s m args below meth c9 H locs cn sn _ (F0 m (pc + 3) arr (.ref (z_am E (10000 + i)) :: st.map (z_rv E))) := h E p e s m args below meth c9 H arr locs hH hi hL hP hz hC hS
  rw [z_amW (by omega), show 10000 + i - 10000 = i by omega] at hk
  exact va_gets hH.1 hH.2.1 (hC.1.2.2.1.1 i hi0).1 hS hH.2.2.2.2.1 (hH.2.2.2.2.2.1 _ (List.mem_cons_of_mem _ hw)) (fun x q => q) hd hk
theorem n_putW {idx c k o i : Nat} (hd : decode M.2.1 pc = .ok (.putfield idx, 3)) (hf : z_Fl M.1.cls idx c k) (hfin : (z_T c k).2.2.2 = false) (ht : z_ty c k = .object "PupilsPupil$Word") (hi0 : i < 34) (ho : z_Ob (lay, n, P) o c) (h : GoN lay d N S M (pc + 3) ls st n cn sn P (u2 I o k (nI i)) J n' Q) : GoN lay d N S M pc ls (.ref (10000 + i) :: .ref o :: st) n cn sn P I J n' Q := by
  intro E p e s m args below meth c9 H arr locs hH hi hL hP hz hC hS
  show W p E.1 e (z_rmN d N S) s m args below meth c9 H locs cn sn _ (F0 m pc arr (.ref (z_am E (10000 + i)) :: .ref (z_am E o) :: st.map (z_rv E)))
  rw [z_amLow (k := o) ho.2.2.1]
  refine va_put hH.1 hH.2.1 hH.2.2.2.2.2.1 (fun w hw => List.mem_cons_of_mem _ (z_in c ho.2.2.2 w hw)) (z_ty c) (z_tyok c ho.2.2.2) (z_nmok c ho.2.2.2) hH.2.2.2.2.1 hC.1.1 hP z_wsDN hS o (z_obAt ho) (z_clsAt c ho.2.2.2) k hf.1 (hH.2.2.2.2.2.1 _ (List.mem_cons_of_mem _ hf.2)) (fun x q => q) hfin (z_tyok c ho.2.2.2 k hf.1) (by rw [ht]; rfl) (by rw [ht]; rfl) (by simp [z_fl]; exact hf.1) hd (fun H1 locs1 hP1 _ hS1 => ?_)
  have e1 : z_cel (lay, n, P) E (u2 I o k (nI i)) J o = .inr (c, (z_fl E P I J c o).set k (.ref (z_am E (10000 + i)))) := by
    have e2 := z_flSet (E := E) (P := P) (I := I) (J := J) (I' := u2 I o k (nI i)) (J' := J) (c := c) (o := o) (k := k) (fun f hf => u2_k hf) (fun f _ => rfl)
    have e3 : z_fv E P (u2 I o k (nI i)) J (z_kd (z_ty c k)) o k = .ref (z_am E (10000 + i)) := by
      have h2 : z_wo (nI i) = some (10000 + i) := by
        have := z_wo_wn (x := some (10000 + i)) (z_wkS (by omega))
        rw [← this]
        simp [z_wn]
      rw [ht]
      simp [z_kd, z_fv, u2, h2, va_rf]
    rw [e3] at e2
    rw [← e2]
    have hl : lay o = (0, c) := ho.1
    simp [z_cel, hl]
  rw [z_wsSet e1 (fun j hj => z_celRow (u2_row hj) rfl)] at hP1
  exact h E p e s m args below meth c9 H1 arr locs1 hH hi hL hP1 hz hC hS1
end NV
/-! Arrays.fill in any world -/
section NF
variable {ω : Wl} {d : Nat} {I : Ii} {J : Jj}
theorem fw_0 {a0 n0 : Nat} (ha0 : z_Ar ω a0 1 n0) {v1 : Int32} {K : KV}
    (h : GoV ω d mJ7_fill_53178 5 [(0, .ref (a0)), (1, .int (v1)), (2, .int (0)), (3, .int (Int32.ofNat n0))] [] I J K) :
    GoV ω d mJ7_fill_53178 0 [(0, .ref (a0)), (1, .int (v1))] [] I J K :=
  (g_iconst dJ7_fill_53178_0 kc_0 (g_istore_n dJ7_fill_53178_1 rfl (by decide) rfl (g_aload_n dJ7_fill_53178_2 1 0 rfl rfl (g_alen (t := 0) dJ7_fill_53178_3 ha0 (by decide) (g_istore_n dJ7_fill_53178_4 rfl (by decide) rfl (g_sub [2, 3, 1, 0] rfl h))))))
theorem fw_5 {a0 n0 : Nat} (ha0 : z_Ar ω a0 1 n0) {v1 : Int32} {v2 : Int32} {v3 : Int32} {K : KV}
    (h : ((v3 ≤ v2) → (K I J)) ∧ ((¬ v3 ≤ v2) → (vp_in (v2) n0 ∧ (GoV ω d mJ7_fill_53178 5 [(0, .ref (a0)), (1, .int (v1)), (2, .int (v2 + 1)), (3, .int (v3))] [] (u2 I a0 v2.toNatClampNeg v1) J K)))) :
    GoV ω d mJ7_fill_53178 5 [(0, .ref (a0)), (1, .int (v1)), (2, .int (v2)), (3, .int (v3))] [] I J K :=
  (g_iload_n dJ7_fill_53178_5 2 2 rfl rfl (g_iload_n dJ7_fill_53178_6 3 3 rfl rfl (g_icmp_ge dJ7_fill_53178_7 rfl (fun q1 => (g_return dJ7_fill_53178_20 rfl ⟨rfl, (h.1 q1)⟩)) (fun q1 => (g_aload_n dJ7_fill_53178_10 0 0 rfl rfl (g_iload_n dJ7_fill_53178_11 2 2 rfl rfl (g_iload_n dJ7_fill_53178_12 1 1 rfl rfl (have b2 := (h.2 q1).1; g_iast dJ7_fill_53178_13 ha0 b2 (g_iinc dJ7_fill_53178_14 2 rfl rfl (by decide) rfl (g_goto dJ7_fill_53178_17 rfl (g_sub [1, 2, 0, 3] rfl (h.2 q1).2)))))))))))
theorem w_fill {a n : Nat} {v : Int32} {K : KV} (ha : z_Ar ω a 1 n) (hn : n < 10000) (h : ∀ I', (∀ b, b ≠ a → I' b = I b) → (∀ k, k < n → I' a k = v) → (∀ k, n ≤ k → I' a k = I a k) → K I' J) : CalV ω d mJ7_fill_53178 [.ref a, .int v] I J K := by
  refine Cal.ofF pf_fill (Nat.le_of_ble_eq_true rfl) (fw_0 ha ?_)
  have key : ∀ r k I1, k + r = n → (∀ b, b ≠ a → I1 b = I b) → (∀ j, j < k → I1 a j = v) → (∀ j, n ≤ j → I1 a j = I a j) → GoV ω d mJ7_fill_53178 5 [(0, .ref a), (1, .int v), (2, .int (nI k)), (3, .int (nI n))] [] I1 J K := by
    intro r
    induction r with
    | zero =>
      intro k I1 hk f1 hb hc
      obtain rfl : k = n := by omega
      exact fw_5 ha ⟨fun _ => h I1 f1 hb hc, fun q => absurd (Int32.le_refl _) q⟩
    | succ r ih =>
      intro k I1 hk f1 hb hc
      refine fw_5 ha ?_
      rw [nI_1, nI_clamp (by omega)]
      repeat' (first | (refine ⟨vp_in_nI (by omega) (by omega), ?_⟩) | (with_reducible refine And.intro ?_ ?_) | (with_reducible intro I9 e9; subst e9) | (with_reducible intro q9; try (simp (disch := omega) only [Int32.le_iff_toInt_le, Int32.lt_iff_toInt_lt, ← Int32.toInt_inj, nI_toInt, t_bq, t_pc8, t_bel, t_mI, t_ite, t_dec, sm_t, Int32.reduceToInt, t_m1, t_0, t_1, t_2, t_3, t_8, Int.natCast_eq_zero, Int.ofNat_le, Int.ofNat_lt, Int.ofNat_inj, not_true_eq_false, not_false_eq_true, forall_const] at q9); try (exfalso; omega)))
      refine ih (k + 1) _ (by omega) (fun b hb => by rw [u2_row hb]; exact f1 b hb) (fun j hj => ?_) (fun j hj => by rw [u2_k (by omega)]; exact hc j hj)
      by_cases e : j = k
      · subst e; rw [u2_at]
      · rw [u2_k e]; exact hb j (by omega)
  exact key n 0 I (by omega) (fun _ _ => rfl) (fun j hj => absurd hj (by omega)) (fun _ _ => rfl)
end NF

/-! the law makes both -/
theorem z_wsP {lay : Nat → Nat × Nat} {n : Nat} {P P' : Rf} {E : En} {I : Ii} {J : Jj} (h : ∀ a, a < n → P a = P' a) : z_ws (lay, n, P) E I J = z_ws (lay, n, P') E I J := by
  unfold z_ws
  apply List.map_congr_left
  intro a ha
  have e := h a (List.mem_range.mp ha)
  have ef : ∀ c, z_fl E P I J c a = z_fl E P' I J c a := fun c => by
    unfold z_fl
    apply List.map_congr_left
    intro f _
    unfold z_fv
    split <;> simp [e]
  unfold z_cel
  simp only [ef, e]
theorem z_wsP0 {lay : Nat → Nat × Nat} {n : Nat} {P P' : Rf} {E : En} {I : Ii} {J : Jj} (h : P 0 = P' 0) (hl : ∀ a, a < n → a ≠ 0 → (lay a).1 = 1 ∨ (lay a).1 = 2 ∨ (lay a).1 = 3) : z_ws (lay, n, P) E I J = z_ws (lay, n, P') E I J := by
  unfold z_ws
  apply List.map_congr_left
  intro a ha
  have ha : a < n := List.mem_range.mp ha
  by_cases e0 : a = 0
  · subst e0
    have ef : ∀ c, z_fl E P I J c 0 = z_fl E P' I J c 0 := fun c => by
      unfold z_fl
      apply List.map_congr_left
      intro f _
      unfold z_fv
      split <;> simp [h]
    unfold z_cel
    simp only [ef, h]
  · obtain ⟨t, k, hk⟩ : ∃ t k, lay a = (t, k) := ⟨_, _, rfl⟩
    have h3 := hl a ha e0
    rw [hk] at h3
    have h3 : t = 1 ∨ t = 2 ∨ t = 3 := h3
    rcases h3 with rfl | rfl | rfl <;> simp [z_cel, hk]
theorem l_make {lay : Nat → Nat × Nat} {Ea : En} {p : Program} {e : Env} {s : State} {m : MethodId} {below : List Frame} {meth : Method} {c : Code} {b L : Nat} {xs : Nat → Int32} {H : Heap} {arr : Array Slot} {locs : List Loc} {Qf : State → Prop} {cells slots : Nat} {ls : List (Nat × Value)} {pc idx idx2 d ci N1 S1 n1 : Nat} {M' : Mt} {P : Rf} {I : Ii} {J : Jj} {Q1 : QN}
    (hA : lw_At p s m meth c b L xs) (hC : z_CN (LA s) Ea s s.heap) (hbase : H.size = Ea.2.1) (hl0 : lv_has arr 4 ls) (hS : va_S (LA s) s.heap H locs)
    (hd0 : decode code pc = .ok (.new idx, 3)) (hd1 : decode code (pc + 3) = .ok (.dup, 1)) (hd2 : decode code (pc + 3 + 1) = .ok (.invokespecial idx2, 3))
    (hcl : Cond.classLink RL idx (z_R ci) ∈ z_Tg) (hin : Cond.instantiable (z_R ci) (z_nF ci) ∈ z_Tg) (hini : Cond.initialized (z_R ci) ∈ z_Tg) (hc : ci < 14) (hlay : lay 0 = (0, ci)) (hP0 : P 0 = fun _ => none) (hI0 : ∀ j, j < z_nF ci → I 0 j = if z_kd (z_ty ci j) = 3 then -1 else 0) (hJ0 : J 0 = fun _ => 0)
    (hlk : Cond.methodLink RL idx2 M'.1 ∈ z_Tg) (hm : z_Md M' 0) (hr : M'.2.2.2 = none) (hnm : M'.1.name = "<init>") (hv : Cond.instanceMethod M'.1 ∈ z_Tg) (hd9 : d ≤ 60) (hcs : cells + 1 + N1 ≤ 600000 ∧ slots + z_nF ci + S1 ≤ 7302250)
    (h : CalN lay d N1 S1 M' [.ref 0] 1 P I J n1 Q1)
    (hk : ∀ P' I' J' H1 locs1, Q1 P' I' J' → va_P Ea.2.2.2.1 z_cls (z_ws (lay, n1, P') Ea I' J') H1 → H1.size = Ea.2.1 + n1 → (∀ q, q < H.size → H1[q]? = H[q]?) → va_S (LA s) s.heap H1 locs1 → W p Ea.1 e room_1 s m #[Value.ref b] below meth c H1 locs1 (cells + 1 + N1) (slots + z_nF ci + S1) Qf (F0 m (pc + 3 + 1 + 3) arr [.ref Ea.2.1])) :
    W p Ea.1 e room_1 s m #[Value.ref b] below meth c H locs cells slots Qf (F0 m pc arr []) := by
  obtain ⟨hx, hb, hr0, hml, hown, hts, hX, hbl, hlocks, hgv⟩ := hA
  have hcw : ∀ w ∈ z_Tg, w.before #[Value.ref b] s = true := fun w hw => hts w (List.mem_filter.mp hw).1
  have hKn := hC.1.1.1 ci _ (z_clsAt ci hc)
  have hs0 := hS.1
  refine W.newcK hx hb hown (hcw _ hcl) (hcw _ hin) (hcw _ hini) rfl hd0 (by show cells + 1 ≤ 600000; omega) (by show slots + z_nF ci ≤ 7302250; omega) hKn.2.1 hbase (fun H1 kC hkC e1 z1 o1 => ?_)
  have hP1 : va_P Ea.2.2.2.1 z_cls (z_ws (lay, 1, P) Ea I J) H1 := by
    intro j x hx
    have hj : j < 1 := by
      have := (List.getElem?_eq_some_iff.mp hx).1
      simpa [z_ws] using this
    rw [show j = 0 by omega, z_wsAt (ω := (lay, 1, P)) (Nat.le_of_ble_eq_true rfl)] at hx
    cases hx
    have ec : z_cel (lay, 1, P) Ea I J 0 = .inr (ci, z_fl Ea P I J ci 0) := by simp [z_cel, hlay]
    rw [ec]
    refine ⟨_, z_clsAt ci hc, (u_born (z_ty ci) hcw (z_in ci hc) hKn hkC e1 (z_tyok ci hc)).to (fun j hj => ?_)⟩
    rw [z_dflt ci hc j hj]
    have ef : vp_V (z_fl Ea P I J ci 0) j = z_fv Ea P I J (z_kd (z_ty ci j)) 0 j := by
      unfold vp_V
      rw [List.getD_eq_getElem?_getD, z_flAt hj]
      rfl
    rw [ef]
    have e0 := hI0 j hj
    rcases z_kd4 (z_ty ci j) with k | k | k | k
    · rw [k] at e0 ⊢; simp at e0; simp [z_fv, e0]
    · rw [k]; simp [z_fv, hJ0]
    · rw [k]; simp [z_fv, hP0, va_rf]
    · rw [k] at e0 ⊢; simp at e0; simp [z_fv, e0, z_wo, va_rf]
  have hS1 : va_S (LA s) s.heap H1 locs := ⟨by omega, fun x h1 h2 => (o1 x (by omega)).trans (hS.2.1 x h1 h2), hS.2.2⟩
  refine W.eq (g2 := F0 m (pc + 3) arr [.ref Ea.2.1]) rfl ?_
  refine lv_dup hx hb hd1 rfl ?_
  have hCN : z_CN (z_AN Ea) Ea s s.heap := ⟨hC.1.narrow (fun q (hq : Ea.2.1 ≤ q) => show s.heap.size ≤ q by omega), hC.2⟩
  have e00 : z_am Ea 0 = Ea.2.1 := z_amLow (by decide)
  have hps : PreS s H1 (va_Pc ([Value.ref 0].map (z_rv Ea)) (z_WN lay 1 P Ea I J)) [.ref Ea.2.1] := ⟨z_WN.blind, fun U hU hW => ⟨by show #[Value.ref Ea.2.1] = #[Value.ref (z_am Ea 0)]; rw [e00], ⟨by rw [hU]; exact hP1, z_CN.moved hW (fun q h1 h2 => by rw [hU]; exact hS1.2.1 q h1 (Nat.not_le.mpr h1)) hCN⟩, by rw [hU]; exact z1⟩⟩
  have cb : CallB room_1 s #[Value.ref b] RL idx2 M'.1 M'.2.1 M'.2.2.1 M'.2.2.2 (z_wsM M') (z_rmN d N1 S1) N1 S1 0 := by
    refine callB_of 0 hts (z_goodL hm.1) rfl rfl rfl (hcw _ hm.2.1) (hcw _ hlk) hm.2.2.1 ⟨?_, ?_⟩
    · show d + 1 ≤ 2048; omega
    · have := hm.2.2.2
      show 8 + (M'.2.2.1 + 11) + 48 * d ≤ 84000; omega
  rw [hr] at cb
  have run := va_runI (e := e) (below := below) (meth := meth) (As := []) (rest := [.ref Ea.2.1]) (b := Ea.2.1) (g := F0 m (pc + 3 + 1) arr [.ref Ea.2.1, .ref Ea.2.1]) (cells := cells + 1) (slots := slots + z_nF ci) (locs := locs) ⟨hx, hb, hml, hown, hts⟩ (h Ea) ⟨cb, hnm, hcw _ hv⟩ hps rfl rfl hl0.1 rfl (lv_room (Nat.le_of_ble_eq_true rfl)) hd2 ⟨by show cells + 1 + N1 ≤ 600000; omega, by show slots + z_nF ci + S1 ≤ 7302250; omega⟩
  intro T hT X
  obtain ⟨v, st₀, t, T', L, h0, X', hLf, e3, e4, ⟨⟨P', I', J', hq, hv2, hw⟩, hz2, hk2⟩, stp⟩ := run T hT X
  cases hv2
  rw [h0] at hz2 hk2
  have hS2 : va_S (LA s) s.heap T'.heap (locs ++ L) := ⟨Nat.le_trans hS1.1 (by rw [e3]; exact hz2), fun q h1 h2 => by rw [e3, hk2 q (Nat.lt_of_lt_of_le h1 hS1.1) (fun (y : Ea.2.1 ≤ q) => by omega)]; exact hS1.2.1 q h1 h2, fun q hq => by
      rcases List.mem_append.mp hq with h | h
      · exact hS.2.2 q h
      · have h9 : Ea.2.1 ≤ q.base := hLf q h
        show s.heap.size ≤ q.base
        omega⟩
  obtain ⟨t2, a1, b1⟩ := hk P' I' J' T'.heap (locs ++ L) hq (by rw [e3]; exact hw.1.1) (by rw [e3]; exact hw.2) (fun q hq => by rw [e3, hk2 q (by omega) (fun (y : Ea.2.1 ≤ q) => by omega)]; exact o1 q (by omega)) hS2 T' rfl X'
  exact ⟨t2, stp t2 a1, b1⟩

/-! the law: both worlds in one heap, the class at E.2.1, the reference 201 cells behind it -/
abbrev Ct : Type := Program × Env × State × MethodId × List Frame × Method × Code × Nat × Nat × (Nat → Int32) × En
def z_E2 (E : En) : En := (E.1, E.2.1 + 201, E.2.2)
def LA (s : State) : Nat → Prop := fun q => s.heap.size ≤ q
def LC : Ct → Prop := fun (p, _, s, m, _, meth, c, b, L, xs, E) => lw_At p s m meth c b L xs ∧ L ≤ 3072 ∧ E.2.1 = s.heap.size ∧ z_C (LA s) E s s.heap
def LW (C : Ct) (pc : Nat) (ls : List (Nat × Value)) (st : List Value) (I1 : Ii) (J1 : Jj) (I2 : Ii) (J2 : Jj) : Prop := match C with
  | (p, e, s, m, below, meth, c, b, L, xs, E) => LC (p, e, s, m, below, meth, c, b, L, xs, E) → ∀ (H : Heap) (arr : Array Slot) (locs : List Loc), lv_has arr 4 ls → va_P E.2.2.2.1 z_cls (z_ws wX E I1 J1) H → va_P E.2.2.2.1 z_cls (z_ws wM (z_E2 E) I2 J2) H → va_S (LA s) s.heap H locs →
    W p E.1 e room_1 s m #[Value.ref b] below meth c H locs 280 22065 (lw_Z below #[Value.ref b] s) (F0 m pc arr st)
def Cb (C : Ct) : Nat := C.2.2.2.2.2.2.2.1
def CL (C : Ct) : Nat := C.2.2.2.2.2.2.2.2.1
def Cx (C : Ct) : Nat → Int32 := C.2.2.2.2.2.2.2.2.2.1
def Co (C : Ct) : Nat := C.2.2.2.2.2.2.2.2.2.2.2.1
/-- the law's own locals, i ints read -/
def lsC (C : Ct) (i : Nat) : List (Nat × Value) := [(0, .ref (Cb C)), (1, .ref (Co C)), (2, .ref (Co C + 201)), (3, .int (nI i))]
theorem z_goodL {M : Mt} (h : Cond.code M.1 M.2.1 M.2.2.1 M.2.2.2 ∈ z_Tg) : GoodIn lw_tbl (z_wsM M) := by
  have hs : ∀ w, w ∈ z_Tg → w ∈ lw_tbl := fun w hw => (List.mem_filter.mp hw).1
  intro w hw
  rcases List.mem_cons.mp hw with rfl | hw
  · exact ⟨hs _ h, z_good h⟩
  · exact ⟨hs _ hw, z_good hw⟩
/-- one world is called, the other stays -/
theorem l_call {ωa ωb : Wl} {Ea Eb : En} {p : Program} {e : Env} {s : State} {m : MethodId} {below : List Frame} {meth : Method} {c : Code} {b L : Nat} {xs : Nat → Int32} {H : Heap} {arr : Array Slot} {locs : List Loc} {Qf : State → Prop} {cells slots : Nat} {ls : List (Nat × Value)} {pc idx n d ci : Nat} {M' : Mt} {As rest : List Value} {Q' : Qt} {Ia Ib : Ii} {Ja Jb : Jj}
    (hA : lw_At p s m meth c b L xs) (hC : z_C (LA s) Ea s s.heap) (hin : ∀ q, z_A ωa Ea q → LA s q) (hdis : ∀ k, k < ωb.2.1 → ¬ z_A ωa Ea (Eb.2.1 + k)) (ho : z_Ob ωa 0 ci)
    (hl0 : lv_has arr 4 ls) (hPa : va_P Ea.2.2.2.1 z_cls (z_ws ωa Ea Ia Ja) H) (hPb : va_P Eb.2.2.2.1 z_cls (z_ws ωb Eb Ib Jb) H) (hS : va_S (LA s) s.heap H locs)
    (hd : decode code pc = .ok (.invokevirtual idx, 3)) (hl : Cond.methodLink RL idx M'.1 ∈ z_Tg) (hm : z_Md M' n) (hv : z_Mv M') (hc : z_R ci = M'.1.cls) (hn : As.length = n) (hAs : As.map (z_rv Ea) = As) (hsum : (rest.map fun v => v.category).sum ≤ 8) (hd9 : d ≤ 60) (hcs : cells ≤ 600000 ∧ slots ≤ 7302250)
    (h : Cal ωa d M' (.ref 0 :: As) Ia Ja Q')
    (hk : ∀ r I' J' H1 locs1, Q' r I' J' → va_P Ea.2.2.2.1 z_cls (z_ws ωa Ea I' J') H1 → va_P Eb.2.2.2.1 z_cls (z_ws ωb Eb Ib Jb) H1 → va_S (LA s) s.heap H1 locs1 → W p Ea.1 e room_1 s m #[Value.ref b] below meth c H1 locs1 cells slots Qf (F0 m (pc + 3) arr ((r.map (z_rv Ea)).toList ++ rest))) :
    W p Ea.1 e room_1 s m #[Value.ref b] below meth c H locs cells slots Qf (F0 m pc arr (As.reverse ++ .ref Ea.2.1 :: rest)) := by
  obtain ⟨hx, hb, hr, hml, hown, hts, hX, hbl, hlocks, hgv⟩ := hA
  have e0 : z_am Ea 0 = Ea.2.1 := z_amLow (by decide)
  have hcw : ∀ w ∈ z_Tg, w.before #[Value.ref b] s = true := fun w hw => hts w (List.mem_filter.mp hw).1
  have hrecv : ∃ cellB : Cell, H[Ea.2.1]? = some cellB ∧ cellB.vm.isStatics = false ∧ s.vm.findClass M'.1.cls = some cellB.cls := by
    rw [← hc]
    exact va_recv hC.1 hPa (z_clsAt ci ho.2.2.2) (z_obAt ho)
  have hpv : PreV s H M'.1.cls Ea.2.1 (va_Pc ((Value.ref 0 :: As).map (z_rv Ea)) (fun U => z_Wd ωa Ea Ia Ja U)) As := by
    refine ⟨z_blind, hrecv, fun U hU hW => ⟨?_, by rw [hU]; exact hPa, ?_⟩⟩
    · rw [List.map_cons, hAs]; show (Value.ref Ea.2.1 :: As).toArray = (Value.ref (z_am Ea 0) :: As).toArray; rw [e0]
    · exact (z_C.moved hW (fun q h1 h2 => by rw [hU]; exact hS.2.1 q h1 h2) hC).narrow hin
  have cb : CallB room_1 s #[Value.ref b] RL idx M'.1 M'.2.1 M'.2.2.1 M'.2.2.2 (z_wsM M') (z_rm d) 0 0 n := by
    refine callB_of n hts (z_goodL hm.1) rfl rfl rfl (hcw _ hm.2.1) (hcw _ hl) hm.2.2.1 ⟨?_, ?_⟩
    · show d + 1 ≤ 2048; omega
    · have := hm.2.2.2
      show 8 + (M'.2.2.1 + 11) + 48 * d ≤ 84000; omega
  have run := va_runV (e := e) (below := below) (meth := meth) (As := As) (rest := rest) (g := F0 m pc arr (As.reverse ++ .ref Ea.2.1 :: rest)) (cells := cells) (slots := slots) (locs := locs) ⟨hx, hb, hml, hown, hts⟩ (h Ea) ⟨cb, hcw _ hv.1, hcw _ hv.2⟩ hpv rfl hn hl0.1 rfl (lv_room hsum) hd ⟨by show cells + 0 ≤ 600000; omega, by show slots + 0 ≤ 7302250; omega⟩
  intro T hT X
  obtain ⟨v, st₀, t, T', L, h0, X', hLf, e3, e4, ⟨⟨r, I', J', hq, hv2, hw⟩, hz2, hk2⟩, stp⟩ := run T hT X
  cases hv2
  rw [h0] at hz2 hk2
  have hS2 : va_S (LA s) s.heap T'.heap (locs ++ L) := ⟨Nat.le_trans hS.1 (by rw [e3]; exact hz2), fun q h1 h2 => by rw [e3, hk2 q (Nat.lt_of_lt_of_le h1 hS.1) (fun y => h2 (hin q y))]; exact hS.2.1 q h1 h2, fun q hq => by
      rcases List.mem_append.mp hq with h | h
      · exact hS.2.2 q h
      · exact hin _ (hLf q h)⟩
  have hPb1 : va_P Eb.2.2.2.1 z_cls (z_ws ωb Eb Ib Jb) T'.heap := by
    refine hPb.kept (fun j x hx => ?_)
    have hj : j < ωb.2.1 := by
      have := (List.getElem?_eq_some_iff.mp hx).1
      simpa [z_ws] using this
    have hlt := (hPb j x hx).lt
    rw [z_wsAt hj] at hx
    cases hx
    rw [e3]
    exact hk2 _ hlt (hdis j hj)
  obtain ⟨t2, a1, b1⟩ := hk r I' J' T'.heap (locs ++ L) hq (by rw [e3]; exact hw.1) hPb1 hS2 T' rfl X'
  exact ⟨t2, stp t2 a1, b1⟩
theorem nmRL : ∀ q ∈ z_NM, q.1 ≠ RL := by decide +kernel
section LR
variable {C : Ct} {pc : Nat} {ls : List (Nat × Value)} {st : List Value} {I1 : Ii} {J1 : Jj} {I2 : Ii} {J2 : Jj}
theorem l_aload {k : Fin 4} {x : Nat} (hd : decode code pc = .ok (.aload_n k, 1)) (j i : Nat) (hi0 : (k : Nat) = i) (hj : ls[j]? = some (i, .ref x)) (h : LW C (pc + 1) ls (.ref x :: st) I1 J1 I2 J2) : LW C pc ls st I1 J1 I2 J2 := by
  obtain ⟨p, e, s, m, below, meth, c, b, L, xs, E⟩ := C
  intro hC H arr locs hl h1 h2 hS
  exact lv_aload_n hC.1.1 hC.1.2.1 hd hi0 (lv_at hl j hj) (h hC H arr locs hl h1 h2 hS)
theorem l_iload {k : Fin 4} {x : Int32} (hd : decode code pc = .ok (.iload_n k, 1)) (j i : Nat) (hi0 : (k : Nat) = i) (hj : ls[j]? = some (i, .int x)) (h : LW C (pc + 1) ls (.int x :: st) I1 J1 I2 J2) : LW C pc ls st I1 J1 I2 J2 := by
  obtain ⟨p, e, s, m, below, meth, c, b, L, xs, E⟩ := C
  intro hC H arr locs hl h1 h2 hS
  exact lv_iload_n hC.1.1 hC.1.2.1 hd hi0 (lv_at hl j hj) (h hC H arr locs hl h1 h2 hS)
theorem l_iconst {k : Int} {v : Int32} (hd : decode code pc = .ok (.iconst k, 1)) (hv : Int32.ofInt k = v) (h : LW C (pc + 1) ls (.int v :: st) I1 J1 I2 J2) : LW C pc ls st I1 J1 I2 J2 := by
  obtain ⟨p, e, s, m, below, meth, c, b, L, xs, E⟩ := C
  intro hC H arr locs hl h1 h2 hS
  exact lv_iconst hC.1.1 hC.1.2.1 hd hv (h hC H arr locs hl h1 h2 hS)
theorem l_bipush {k : Int} {v : Int32} (hd : decode code pc = .ok (.bipush k, 2)) (hv : (Int8.ofInt k).toInt32 = v) (h : LW C (pc + 2) ls (.int v :: st) I1 J1 I2 J2) : LW C pc ls st I1 J1 I2 J2 := by
  obtain ⟨p, e, s, m, below, meth, c, b, L, xs, E⟩ := C
  intro hC H arr locs hl h1 h2 hS
  exact lv_bipush hC.1.1 hC.1.2.1 hd hv (h hC H arr locs hl h1 h2 hS)
theorem l_iadd {x y z : Int32} (hd : decode code pc = .ok (.iadd, 1)) (hz : x + y = z) (h : LW C (pc + 1) ls (.int z :: st) I1 J1 I2 J2) : LW C pc ls (.int y :: .int x :: st) I1 J1 I2 J2 := by
  subst hz
  obtain ⟨p, e, s, m, below, meth, c, b, L, xs, E⟩ := C
  intro hC H arr locs hl h1 h2 hS
  exact lv_iadd hC.1.1 hC.1.2.1 hd (h hC H arr locs hl h1 h2 hS)
theorem l_isub {x y : Int32} (hd : decode code pc = .ok (.isub, 1)) (h : LW C (pc + 1) ls (.int (x - y) :: st) I1 J1 I2 J2) : LW C pc ls (.int y :: .int x :: st) I1 J1 I2 J2 := by
  obtain ⟨p, e, s, m, below, meth, c, b, L, xs, E⟩ := C
  intro hC H arr locs hl h1 h2 hS
  exact lv_isub hC.1.1 hC.1.2.1 hd (h hC H arr locs hl h1 h2 hS)
theorem l_iand {x y : Int32} (hd : decode code pc = .ok (.iand, 1)) (h : LW C (pc + 1) ls (.int (x &&& y) :: st) I1 J1 I2 J2) : LW C pc ls (.int y :: .int x :: st) I1 J1 I2 J2 := by
  obtain ⟨p, e, s, m, below, meth, c, b, L, xs, E⟩ := C
  intro hC H arr locs hl h1 h2 hS
  exact lv_iand hC.1.1 hC.1.2.1 hd (h hC H arr locs hl h1 h2 hS)
theorem l_lcmp {x y : Int64} (hd : decode code pc = .ok (.lcmp, 1)) (h : LW C (pc + 1) ls (.int (lg_cmp x y) :: st) I1 J1 I2 J2) : LW C pc ls (.long y :: .long x :: st) I1 J1 I2 J2 := by
  obtain ⟨p, e, s, m, below, meth, c, b, L, xs, E⟩ := C
  intro hC H arr locs hl h1 h2 hS
  exact W.lcmp hC.1.1 hC.1.2.1 hd (h hC H arr locs hl h1 h2 hS)
theorem l_goto {off : Int} {tgt : Nat} (hd : decode code pc = .ok (.goto off, 3)) (ht : (pc : Int) + off = (tgt : Int)) (h : LW C tgt ls st I1 J1 I2 J2) : LW C pc ls st I1 J1 I2 J2 := by
  obtain ⟨p, e, s, m, below, meth, c, b, L, xs, E⟩ := C
  intro hC H arr locs hl h1 h2 hS
  exact lv_goto hC.1.1 hC.1.2.1 hd ht (h hC H arr locs hl h1 h2 hS)
theorem l_icmp_gt {x y : Int32} {off : Int} {tgt : Nat} (hd : decode code pc = .ok (.if_icmp .gt off, 3)) (ht : (pc : Int) + off = (tgt : Int)) (ha : y < x → LW C tgt ls st I1 J1 I2 J2) (hb : ¬ y < x → LW C (pc + 3) ls st I1 J1 I2 J2) : LW C pc ls (.int y :: .int x :: st) I1 J1 I2 J2 := by
  obtain ⟨p, e, s, m, below, meth, c, b, L, xs, E⟩ := C
  intro hC H arr locs hl h1 h2 hS
  exact lv_icmp_gt hC.1.1 hC.1.2.1 hd ht (fun q => ha q hC H arr locs hl h1 h2 hS) (fun q => hb q hC H arr locs hl h1 h2 hS)
/-- both answers are the same -/
theorem l_same {x : Int32} {off : Int} {tgt : Nat} (hd : decode code pc = .ok (.if_icmp .eq off, 3)) (ht : (pc : Int) + off = (tgt : Int)) (ha : LW C tgt ls st I1 J1 I2 J2) : LW C pc ls (.int x :: .int x :: st) I1 J1 I2 J2 := by
  obtain ⟨p, e, s, m, below, meth, c, b, L, xs, E⟩ := C
  intro hC H arr locs hl h1 h2 hS
  exact lv_icmp_eq hC.1.1 hC.1.2.1 hd ht (fun _ => ha hC H arr locs hl h1 h2 hS) (fun q => absurd rfl q)
theorem l_zero {x : Int32} {off : Int} {tgt : Nat} (hd : decode code pc = .ok (.ifCond .eq off, 3)) (ht : (pc : Int) + off = (tgt : Int)) (hx : x = 0) (ha : LW C tgt ls st I1 J1 I2 J2) : LW C pc ls (.int x :: st) I1 J1 I2 J2 := by
  obtain ⟨p, e, s, m, below, meth, c, b, L, xs, E⟩ := C
  intro hC H arr locs hl h1 h2 hS
  exact lv_if_eq hC.1.1 hC.1.2.1 hd ht (fun _ => ha hC H arr locs hl h1 h2 hS) (fun q => absurd hx q)
theorem l_iald {k : Nat} (hd : decode code pc = .ok (.iaload, 1)) (hk : k < CL C) (hL : CL C ≤ 3072) (h : LW C (pc + 1) ls (.int (Cx C k) :: st) I1 J1 I2 J2) : LW C pc ls (.int (nI k) :: .ref (Cb C) :: st) I1 J1 I2 J2 := by
  obtain ⟨p, e, s, m, below, meth, c, b, L, xs, E⟩ := C
  have hk : k < L := hk
  have hL : L ≤ 3072 := hL
  intro hC H arr locs hl h1 h2 hS
  have hbl := hC.1.2.2.2.2.2.2.2.1
  refine va_sld hC.1.1 hC.1.2.1 hC.1.2.2.2.2.2.2.1 hbl (show ¬ LA s b from Nat.not_le.mpr hbl) hS (vp_in_nI hk (by omega)) hd ?_
  rw [nI_clamp (by omega)]
  exact h hC H arr locs hl h1 h2 hS
theorem l_len (hd : decode code pc = .ok (.arraylength, 1)) (h : LW C (pc + 1) ls (.int (nI (CL C)) :: st) I1 J1 I2 J2) : LW C pc ls (.ref (Cb C) :: st) I1 J1 I2 J2 := by
  obtain ⟨p, e, s, m, below, meth, c, b, L, xs, E⟩ := C
  intro hC H arr locs hl h1 h2 hS
  have hbl := hC.1.2.2.2.2.2.2.2.1
  exact va_slen hC.1.1 hC.1.2.1 hC.1.2.2.2.2.2.2.1 hbl (show ¬ LA s b from Nat.not_le.mpr hbl) hS hd (h hC H arr locs hl h1 h2 hS)
theorem l_tbl {dflt : Int} {offs : Array Int} {len j : Nat} {off : Int} {tgt : Nat} (hd : decode code pc = .ok (.tableswitch dflt 0 31 offs, len)) (hj : j < 32) (ho : offs[j]? = some off) (ht : (pc : Int) + off = (tgt : Int)) (h : LW C tgt ls st I1 J1 I2 J2) : LW C pc ls (.int (nI j) :: st) I1 J1 I2 J2 := by
  obtain ⟨p, e, s, m, below, meth, c, b, L, xs, E⟩ := C
  intro hC H arr locs hl h1 h2 hS
  have e : (nI j).toInt = (j : Int) := nI_toInt (by omega)
  exact lv_tableIn hC.1.1 hC.1.2.1 hd (by rw [e]; omega) (by rw [e]; omega) (by rw [e]; show offs[((j : Int) - 0).toNat]? = some off; rw [show ((j : Int) - 0).toNat = j by omega]; exact ho) ht (h hC H arr locs hl h1 h2 hS)
theorem l_iinc {i : Nat} (hd : decode code pc = .ok (.iinc 3 6, 3)) (h : LW C (pc + 3) (lsC C (i + 6)) st I1 J1 I2 J2) : LW C pc (lsC C i) st I1 J1 I2 J2 := by
  obtain ⟨p, e, s, m, below, meth, c, b, L, xs, E⟩ := C
  intro hC H arr locs hl h1 h2 hS
  exact lv_iinc (k := 3) (v := nI (i + 6)) (lv' := [(3, .int (nI (i + 6))), (0, .ref b), (1, .ref E.2.1), (2, .ref (E.2.1 + 201))]) hC.1.1 hC.1.2.1 hd hl rfl (by show nI i + nI 6 = nI (i + 6); exact nI_add i 6) (by decide) rfl (fun ls' hl' => h hC H ls' locs (lv_sub hl' [1, 2, 3, 0] rfl) h1 h2 hS)
theorem l_end (h1d : decode code pc = .ok (.iconst 1, 1)) (hd : decode code (pc + 1) = .ok (.ireturn, 1)) : LW C pc ls [] I1 J1 I2 J2 := by
  obtain ⟨p, e, s, m, below, meth, c, b, L, xs, E⟩ := C
  intro hC H arr locs hl h1 h2 hS
  refine lv_iconst (v := 1) hC.1.1 hC.1.2.1 h1d (by decide) ?_
  refine va_forget (fun q hq => hS.2.2 q hq) ?_
  refine W.widen (k := 600000) (n := 7302250) (by decide) (by decide) ?_
  exact lw_ret hC.1.1 hC.1.2.1 hC.1.2.2.1 hC.1.2.2.2.2.2.2.2.2.1 hd
theorem l_callX {idx n d : Nat} {M' : Mt} {As rest : List Value} {Q' : Qt} (hd : decode code pc = .ok (.invokevirtual idx, 3)) (hlk : z_Lk RL idx M') (hm : z_Md M' n) (hv : z_Mv M') (hc : RX12 = M'.1.cls) (hn : As.length = n) (hAs : ∀ E : En, As.map (z_rv E) = As) (hst : st = As.reverse ++ .ref (Co C) :: rest) (hsum : (rest.map fun v => v.category).sum ≤ 8) (hd9 : d ≤ 60)
    (h : Cal wX d M' (.ref 0 :: As) I1 J1 Q') (hk : ∀ r I' J', Q' r I' J' → (∀ E : En, r.map (z_rv E) = r) ∧ LW C (pc + 3) ls (r.toList ++ rest) I' J' I2 J2) : LW C pc ls st I1 J1 I2 J2 := by
  subst hst
  obtain ⟨p, e, s, m, below, meth, c, b, L, xs, E⟩ := C
  intro hC H arr locs hl0 h1 h2 hS
  have hb1 : E.2.1 = s.heap.size := hC.2.2.1
  have hl : Cond.methodLink RL idx M'.1 ∈ z_Tg := hlk.resolve_right (fun h => nmRL _ h rfl)
  refine l_call (ωa := wX) (ωb := wM) (Ea := E) (Eb := z_E2 E) (ci := 12) hC.1 hC.2.2.2 (fun q hq => ?_) (fun k _ hq => ?_) obX_0 hl0 h1 h2 hS hd hl hm hv hc hn (hAs E) hsum hd9 (by decide) h (fun r I' J' H1 locs1 hq hP1 hP2 hS1 => ?_)
  · have h3 : E.2.1 ≤ q := hq.1
    show s.heap.size ≤ q
    omega
  · have h3 : (E.2.1 + 201) + k < E.2.1 + 201 := hq.2
    omega
  · obtain ⟨hr, hk⟩ := hk r I' J' hq
    rw [hr E]
    exact hk hC H1 arr locs1 hl0 hP1 hP2 hS1
theorem l_callM {idx n d : Nat} {M' : Mt} {As rest : List Value} {Q' : Qt} (hd : decode code pc = .ok (.invokevirtual idx, 3)) (hlk : z_Lk RL idx M') (hm : z_Md M' n) (hv : z_Mv M') (hc : RX13 = M'.1.cls) (hn : As.length = n) (hAs : ∀ E : En, As.map (z_rv E) = As) (hst : st = As.reverse ++ .ref (Co C + 201) :: rest) (hsum : (rest.map fun v => v.category).sum ≤ 8) (hd9 : d ≤ 60)
    (h : Cal wM d M' (.ref 0 :: As) I2 J2 Q') (hk : ∀ r I' J', Q' r I' J' → (∀ E : En, r.map (z_rv E) = r) ∧ LW C (pc + 3) ls (r.toList ++ rest) I1 J1 I' J') : LW C pc ls st I1 J1 I2 J2 := by
  subst hst
  obtain ⟨p, e, s, m, below, meth, c, b, L, xs, E⟩ := C
  intro hC H arr locs hl0 h1 h2 hS
  have hb1 : E.2.1 = s.heap.size := hC.2.2.1
  have hl : Cond.methodLink RL idx M'.1 ∈ z_Tg := hlk.resolve_right (fun h => nmRL _ h rfl)
  refine l_call (ωa := wM) (ωb := wX) (Ea := z_E2 E) (Eb := E) (ci := 13) hC.1 hC.2.2.2 (fun q hq => ?_) (fun k hk1 hq => ?_) obM_0 hl0 h2 h1 hS hd hl hm hv hc hn (hAs (z_E2 E)) hsum hd9 (by decide) h (fun r I' J' H1 locs1 hq hP2 hP1 hS1 => ?_)
  · have h3 : E.2.1 + 201 ≤ q := hq.1
    show s.heap.size ≤ q
    omega
  · have h3 : E.2.1 + 201 ≤ E.2.1 + k := hq.1
    have h4 : k < 201 := hk1
    omega
  · obtain ⟨hr, hk⟩ := hk r I' J' hq
    rw [hr (z_E2 E)]
    exact hk hC H1 arr locs1 hl0 hP1 hP2 hS1
end LR

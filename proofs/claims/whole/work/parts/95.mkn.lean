/-! making: a machine that also makes cells, one after another -/
abbrev Rf : Type := Nat → Nat → Option Nat
abbrev QN : Type := Rf → Ii → Jj → Prop
def z_AN (E : En) : Nat → Prop := fun q => E.2.1 ≤ q
/-- and an array of State can be made -/
def z_CN (A : Nat → Prop) (E : En) (U : State) (H : Heap) : Prop := z_C A E U H ∧ va_AO "PupilsPupil$State" U
theorem z_CN.moved {A : Nat → Prop} {E : En} {u U : State} {H H1 : Heap} (hW : u.WarmedH U.vm) (hq : ∀ a : Nat, a < H.size → ¬ A a → H1[a]? = H[a]?) (h : z_CN A E u H) : z_CN A E U H1 := ⟨z_C.moved hW hq h.1, va_AO.moved hW.alike h.2⟩
def z_rmN (d N S : Nat) : Room := { frames := d, cells := N, slots := S, locals := 48 * d }
def z_WN (lay : Nat → Nat × Nat) (n : Nat) (P : Rf) (E : En) (I : Ii) (J : Jj) (U : State) : Prop := (va_P E.2.2.2.1 z_cls (z_ws (lay, n, P) E I J) U.heap ∧ z_CN (z_AN E) E U U.heap) ∧ U.heap.size = E.2.1 + n
def z_QN (lay : Nat → Nat × Nat) (n : Nat) (E : En) (Q : QN) : Array Value → State → Outcome → State → Prop := fun _ st oc t => (∃ P I J, Q P I J ∧ oc = .returned none ∧ z_WN lay n P E I J t) ∧ va_F (z_AN E) st t
/-- a maker's contract: N cells of S slots in all, n places before, n' after -/
def CalN (lay : Nat → Nat × Nat) (d N S : Nat) (M : Mt) (av : List Value) (n : Nat) (P : Rf) (I : Ii) (J : Jj) (n' : Nat) (Q : QN) : Prop :=
  ∀ E : En, Met E.1 M.1 (z_wsM M) (z_rmN d N S) (va_Pc (av.map (z_rv E)) (z_WN lay n P E I J)) (z_QN lay n' E Q) N S (z_AN E)
def GoN (lay : Nat → Nat × Nat) (d N S : Nat) (M : Mt) (pc : Nat) (ls : List (Nat × Value)) (st : List Value) (n cn sn : Nat) (P : Rf) (I : Ii) (J : Jj) (n' : Nat) (Q : QN) : Prop :=
  ∀ (E : En) (p : Program) (e : Env) (s : State) (m : MethodId) (args : Array Value) (below : List Frame) (meth : Method) (c : Code) (H : Heap) (arr : Array Slot) (locs : List Loc),
    z_Ho M p s m args meth c → meth.name = "<init>" → lv_has arr M.2.2.1 (ls.map (z_lv E)) → va_P E.2.2.2.1 z_cls (z_ws (lay, n, P) E I J) H → (1 ≤ n ∧ s.heap.size + cn = E.2.1 + n) → z_CN (z_AN E) E s s.heap → va_S (z_AN E) s.heap H locs →
    W p E.1 e (z_rmN d N S) s m args below meth c H locs cn sn (MQ below (z_QN lay n' E Q) args s N S (z_AN E)) (F0 m pc arr (st.map (z_rv E)))
theorem z_wsDN {ω : Wl} {E : En} {I : Ii} {J : Jj} : va_D (z_AN E) (z_ws ω E I J) := (z_wsD (ω := ω) (E := E) (I := I) (J := J)).weaken (fun _ _ _ h => h.1)
theorem z_wsS {lay : Nat → Nat × Nat} {n : Nat} {P : Rf} {E : En} {I : Ii} {J : Jj} : z_ws (lay, n + 1, P) E I J = z_ws (lay, n, P) E I J ++ [(E.2.1 + n, z_cel (lay, n, P) E I J n)] := by
  unfold z_ws
  rw [show ((lay, n + 1, P) : Wl).2.1 = n + 1 from rfl, List.range_succ, List.map_append]
  rfl
theorem W.sz {p : Program} {l : Launch} {e : Env} {R : Room} {s : State} {m : MethodId} {args : Array Value} {below : List Frame} {meth : Method} {c : Code} {H : Heap} {locs : List Loc} {cells slots : Nat} {Qf : State → Prop} {gf : JFrame} (k : H.size ≤ s.heap.size + cells → W p l e R s m args below meth c H locs cells slots Qf gf) : W p l e R s m args below meth c H locs cells slots Qf gf :=
  fun T hT X => k (by rw [← hT]; exact X.same.2.2.1) T hT X
theorem z_szN {lay : Nat → Nat × Nat} {n cn sz : Nat} {P : Rf} {E : En} {I : Ii} {J : Jj} {H : Heap} (hP : va_P E.2.2.2.1 z_cls (z_ws (lay, n, P) E I J) H) (hz : 1 ≤ n ∧ sz + cn = E.2.1 + n) (h : H.size ≤ sz + cn) : H.size = E.2.1 + n := by
  have h1 := (hP (n - 1) _ (z_wsAt (ω := (lay, n, P)) (k := n - 1) (by show n - 1 < n; omega))).lt
  have h2 : E.2.1 + (n - 1) < H.size := h1
  omega
section NR
variable {lay : Nat → Nat × Nat} {d N S : Nat} {M : Mt} {pc : Nat} {ls : List (Nat × Value)} {st : List Value} {n cn sn n' : Nat} {P : Rf} {I : Ii} {J : Jj} {Q : QN}
theorem n_iconst {k : Int} {v : Int32} (hd : decode M.2.1 pc = .ok (.iconst k, 1)) (hv : Int32.ofInt k = v) (h : GoN lay d N S M (pc + 1) ls (.int v :: st) n cn sn P I J n' Q) : GoN lay d N S M pc ls st n cn sn P I J n' Q :=
  fun E p e s m args below meth c H arr locs hH hi hL hP hz hC hS => lv_iconst hH.1 hH.2.1 hd hv (h E p e s m args below meth c H arr locs hH hi hL hP hz hC hS)
theorem n_bipush {k : Int} {v : Int32} (hd : decode M.2.1 pc = .ok (.bipush k, 2)) (hv : (Int8.ofInt k).toInt32 = v) (h : GoN lay d N S M (pc + 2) ls (.int v :: st) n cn sn P I J n' Q) : GoN lay d N S M pc ls st n cn sn P I J n' Q :=
  fun E p e s m args below meth c H arr locs hH hi hL hP hz hC hS => lv_bipush hH.1 hH.2.1 hd hv (h E p e s m args below meth c H arr locs hH hi hL hP hz hC hS)
theorem n_sipush {k : Int} {v : Int32} (hd : decode M.2.1 pc = .ok (.sipush k, 3)) (hv : (Int16.ofInt k).toInt32 = v) (h : GoN lay d N S M (pc + 3) ls (.int v :: st) n cn sn P I J n' Q) : GoN lay d N S M pc ls st n cn sn P I J n' Q :=
  fun E p e s m args below meth c H arr locs hH hi hL hP hz hC hS => lv_sipush hH.1 hH.2.1 hd hv (h E p e s m args below meth c H arr locs hH hi hL hP hz hC hS)
theorem n_dup {v : Value} (hd : decode M.2.1 pc = .ok (.dup, 1)) (hv : v.category = 1) (h : GoN lay d N S M (pc + 1) ls (v :: v :: st) n cn sn P I J n' Q) : GoN lay d N S M pc ls (v :: st) n cn sn P I J n' Q :=
  fun E p e s m args below meth c H arr locs hH hi hL hP hz hC hS => lv_dup hH.1 hH.2.1 hd ((z_cat E v).trans hv) (h E p e s m args below meth c H arr locs hH hi hL hP hz hC hS)
theorem n_aload_n {k : Fin 4} {x : Nat} (hd : decode M.2.1 pc = .ok (.aload_n k, 1)) (j i : Nat) (hi0 : (k : Nat) = i) (hj : ls[j]? = some (i, .ref x)) (h : GoN lay d N S M (pc + 1) ls (.ref x :: st) n cn sn P I J n' Q) : GoN lay d N S M pc ls st n cn sn P I J n' Q :=
  fun E p e s m args below meth c H arr locs hH hi hL hP hz hC hS => lv_aload_n hH.1 hH.2.1 hd hi0 (z_at hL hj) (h E p e s m args below meth c H arr locs hH hi hL hP hz hC hS)
theorem n_obj {idx a : Nat} (hd : decode M.2.1 pc = .ok (.invokespecial idx, 3)) (hl : Cond.methodLink M.1.cls idx Lib.objectInit ∈ z_Tg) (hi1 : Cond.instanceMethod Lib.objectInit ∈ z_Tg) (hc1 : Cond.code Lib.objectInit ⟨#[0xb1]⟩ 1 none ∈ z_Tg) (hd1 : 1 ≤ d) (h : GoN lay d N S M (pc + 3) ls [] n cn sn P I J n' Q) : GoN lay d N S M pc ls [.ref a] n cn sn P I J n' Q := by
  intro E p e s m args below meth c H arr locs hH hi hL hP hz hC hS
  have hcw : ∀ w ∈ z_Tg, w.before args s = true := fun w hw => hH.2.2.2.2.2.1 w (List.mem_cons_of_mem _ hw)
  refine W.objInit hH.1 hH.2.1 hH.2.2.2.2.1 (hcw _ hl) (hcw _ hi1) (hcw _ hc1) rfl (by rw [hH.2.2.2.1]; exact hL.1) rfl hd hd1 (by show 2 * 0 + 0 + 12 ≤ 48 * d; omega) ?_
  exact h E p e s m args below meth c H arr locs hH hi hL hP hz hC hS
theorem n_newI {v : Int32} {k : Nat} (hd : decode M.2.1 pc = .ok (.newarray .int, 2)) (hw : Cond.arrayClass .int ∈ z_Tg) (hlay : lay n = (1, k)) (hI : I n = fun _ => 0) (hn : n < 10000) (hv : ¬ v < 0) (hk : v.toNatClampNeg = k) (hb : k ≤ 1000000) (hN : cn + 1 ≤ N) (hS1 : sn + k ≤ S) (h : GoN lay d N S M (pc + 2) ls (.ref n :: st) (n + 1) (cn + 1) (sn + k) P I J n' Q) : GoN lay d N S M pc ls (.int v :: st) n cn sn P I J n' Q := by
  intro E p e s m args below meth c H arr locs hH hi hL hP hz hC hS
  have hcw : ∀ w ∈ z_Tg, w.before args s = true := fun w hw => hH.2.2.2.2.2.1 w (List.mem_cons_of_mem _ hw)
  refine W.sz (fun hsz => ?_)
  have hzz := z_szN hP hz hsz
  refine va_newaK (atype := .int) (N := k) hH.1 hH.2.1 (hcw _ hw) rfl hd rfl hv hk (by show k * 4 ≤ 536870912; omega) hN hS1 hzz (fun H1 cA e1 z1 o1 hAr hNm => ?_)
  have hcA : cA = E.2.2.2.2 1 := by
    have h1 : s.vm.findClass ("[" ++ (FieldType.int).toString) = some (E.2.2.2.2 1) := (hC.1.1.2 0 _ rfl).2
    exact Option.some.inj (hNm.symm.trans h1)
  have hkp : ∀ (j : Nat) (x : Nat × va_E), (z_ws (lay, n, P) E I J)[j]? = some x → H1[x.1]? = H[x.1]? := fun j x hx => o1 x.1 (by have := (hP j x hx).lt; omega)
  have hP1 : va_P E.2.2.2.1 z_cls (z_ws (lay, n + 1, P) E I J) H1 := by
    rw [z_wsS]
    refine (hP.kept hkp).app (fun j x hx => ?_)
    have hz1 : j < 1 := (List.getElem?_eq_some_iff.mp hx).1
    rw [show j = 0 by omega] at hx
    cases hx
    have ec : z_cel (lay, n, P) E I J n = .inl (E.2.2.2.2 1, k, .inl (I n)) := by simp [z_cel, hlay]
    rw [ec]
    show H1[E.2.1 + n]? = some (vp_cell _ _)
    rw [e1, hcA, hI]
    rfl
  have hS2 : va_S (z_AN E) s.heap H1 locs := ⟨by rw [z1]; have := hS.1; omega, fun x h1 h2 => (o1 x (by have := hS.1; omega)).trans (hS.2.1 x h1 h2), hS.2.2⟩
  have := h E p e s m args below meth c H1 arr locs hH hi hL hP1 (by omega) hC hS2
  rw [show (Value.ref n :: st).map (z_rv E) = .ref (E.2.1 + n) :: st.map (z_rv E) from by simp [z_rv, z_amLow hn]] at this
  exact this
theorem n_return (hd : decode M.2.1 pc = .ok (.return_, 1)) (hr : M.2.2.2 = none) (hN : cn ≤ N) (hS1 : sn ≤ S) (h : Q P I J) : GoN lay d N S M pc ls [] n cn sn P I J n Q := by
  intro E p e s m args below meth c H arr locs hH hi hL hP hz hC hS
  refine W.sz (fun hsz => ?_)
  have hzz := z_szN hP hz hsz
  refine W.widen hN hS1 ?_
  exact W.vret hH.1 hH.2.1 (hH.2.2.1.trans hr) (fun t ht hW => ⟨⟨P, I, J, h, rfl, ⟨by rw [ht]; exact hP, z_CN.moved hW (fun q h1 h2 => by rw [ht]; exact hS.2.1 q h1 h2) hC⟩, by rw [ht]; exact hzz⟩, hS.F ht⟩) hS.2.2 hd hH.2.2.2.2.2.2
theorem CalN.of {av : List Value} (h1n : 1 ≤ n) (hy : plainName M.1.cls = true) (hy2 : M.1.name = "<init>") (hlen : (lg_sl av).length ≤ M.2.2.1) (h : GoN lay d N S M 0 (lv_args 0 av) [] n 0 0 P I J n' Q) : CalN lay d N S M av n P I J n' Q := by
  intro E
  refine Met.ofW (cc := M.2.1) (maxL := M.2.2.1) (ret := M.2.2.2) hy rfl ?_
  intro p e s m args below meth c s₁ B hml hv
  obtain ⟨rfl, hw⟩ := hv
  have hts := atoms_spec (ws := z_wsM M) B.pre
  have hown : s.vm.findClass M.1.cls = some m.cls := findClass_of_methodNamed B.named
  have hin : meth.name = "<init>" := (name_of_methodNamed B.named B.method).1.trans hy2
  have hl := lv_entry (av.map (z_rv E)) (n := M.2.2.1) (by rw [z_slLen]; exact hlen)
  rw [lg_entry_eq]
  rw [z_argsMap] at hl
  exact h E p e s m _ below meth c s.heap _ [] ⟨B.exec, B.bytes, B.returns, hml, hown, hts, B.notSynchronized⟩ hin hl hw.1.1 ⟨h1n, hw.2⟩ hw.1.2 va_S.rf
end NR

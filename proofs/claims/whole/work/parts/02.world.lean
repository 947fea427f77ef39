/-! tables, by program: classes, fields, nest words, the constants of Word -/
def z_R (c : Nat) : String := match c with
  | 0 => RX12
  | 1 => RX1
  | 2 => RX2
  | 3 => RX3
  | 4 => RX4
  | 5 => RX5
  | 6 => RX6
  | 7 => RX7
  | 8 => RX8
  | 9 => RX9
  | 10 => RX10
  | 11 => RX12
  | 12 => RX12
  | _ => RX13
def z_T (c : Nat) : u_T := match c with
  | 0 => TX12
  | 1 => TX1
  | 2 => TX2
  | 3 => TX3
  | 4 => TX4
  | 5 => TX5
  | 6 => TX6
  | 7 => TX7
  | 8 => TX8
  | 9 => TX9
  | 10 => TX10
  | 11 => TX12
  | 12 => TX12
  | _ => TX13
def z_ty (c : Nat) : Nat → FieldType := match c with
  | 0 => tyX12
  | 1 => tyX1
  | 2 => tyX2
  | 3 => tyX3
  | 4 => tyX4
  | 5 => tyX5
  | 6 => tyX6
  | 7 => tyX7
  | 8 => tyX8
  | 9 => tyX9
  | 10 => tyX10
  | 11 => tyX12
  | 12 => tyX12
  | _ => tyX13
def z_nF (c : Nat) : Nat := match c with
  | 0 => 0
  | 1 => 4
  | 2 => 6
  | 3 => 5
  | 4 => 3
  | 5 => 7
  | 6 => 10
  | 7 => 11
  | 8 => 3
  | 9 => 9
  | 10 => 9
  | 11 => 0
  | 12 => 16
  | _ => 105
abbrev z_cls : List vw_C := [(RX12, TX12, 0), (RX1, TX1, 4), (RX2, TX2, 6), (RX3, TX3, 5), (RX4, TX4, 3), (RX5, TX5, 7), (RX6, TX6, 10), (RX7, TX7, 11), (RX8, TX8, 3), (RX9, TX9, 9), (RX10, TX10, 9), (RX12, TX12, 0), (RX12, TX12, 16), (RX13, TX13, 105)]
theorem z_clsAt : ∀ c, c < 14 → z_cls[c]? = some (z_R c, z_T c, z_nF c)
  | 0, _ => rfl
  | 1, _ => rfl
  | 2, _ => rfl
  | 3, _ => rfl
  | 4, _ => rfl
  | 5, _ => rfl
  | 6, _ => rfl
  | 7, _ => rfl
  | 8, _ => rfl
  | 9, _ => rfl
  | 10, _ => rfl
  | 11, _ => rfl
  | 12, _ => rfl
  | 13, _ => rfl
  | n + 14, h => absurd h (by omega)
theorem z_tyok : ∀ c, c < 14 → ∀ k, k < z_nF c → parseFieldDescriptor (z_T c k).2.2.1 = some (z_ty c k)
  | 0, _ => fun k h => absurd h (Nat.not_lt_zero k)
  | 1, _ => tyX1_ok
  | 2, _ => tyX2_ok
  | 3, _ => tyX3_ok
  | 4, _ => tyX4_ok
  | 5, _ => tyX5_ok
  | 6, _ => tyX6_ok
  | 7, _ => tyX7_ok
  | 8, _ => tyX8_ok
  | 9, _ => tyX9_ok
  | 10, _ => tyX10_ok
  | 11, _ => fun k h => absurd h (Nat.not_lt_zero k)
  | 12, _ => tyX12_ok
  | 13, _ => tyX13_ok
  | n + 14, h => absurd h (by omega)
theorem z_nmok : ∀ c, c < 14 → ∀ a, a < z_nF c → ∀ b, b < z_nF c → a ≠ b → (z_T c a).2.1 ≠ (z_T c b).2.1
  | 0, _ => fun k h => absurd h (Nat.not_lt_zero k)
  | 1, _ => nmX1
  | 2, _ => nmX2
  | 3, _ => nmX3
  | 4, _ => nmX4
  | 5, _ => nmX5
  | 6, _ => nmX6
  | 7, _ => nmX7
  | 8, _ => nmX8
  | 9, _ => nmX9
  | 10, _ => nmX10
  | 11, _ => fun k h => absurd h (Nat.not_lt_zero k)
  | 12, _ => nmX12
  | 13, _ => nmX13
  | n + 14, h => absurd h (by omega)
def z_wnm : List String := ["FACT", "PERSON", "TAUGHT", "BY", "TAKES", "GARBLE", "SITS", "PASS", "TRIES", "ILL", "OR", "AND", "NOT", "ALL", "MIN", "MAX", "CALM", "RIGHT", "WRONG", "YEAR", "WORTH", "CLASS", "MCALM", "LEFT", "MARKS", "NUMBER", "KNOWS", "ERRS", "FIRST", "LAST", "OFTEN", "TOTAL", "MOST", "LEAST"]
def z_wF : List (String × String × String × List Int32) := [("java/lang/Enum", "ordinal", "I", [0, 1, 2, 3, 4, 5, 6, 7, 8, 9, 10, 11, 12, 13, 14, 15, 16, 17, 18, 19, 20, 21, 22, 23, 24, 25, 26, 27, 28, 29, 30, 31, 32, 33]), ("PupilsPupil$Word", "packed", "I", [658470, 486131888, 679728180, 802, 20098100, 180439079, 643379, 642096, 20096596, 12681, 591, 4545, 20974, 12673, 14637, 24621, 438307, 21241138, 7814743, 591033, 9062903, 20546947, 14025837, 661676, 20301869, 609302190, 20692427, 641605, 21612838, 674860, 14864591, 12636660, 675309, 21595308]), ("PupilsPupil$Word", "own", "Z", [1, 1, 1, 1, 1, 1, 1, 1, 1, 1, 1, 1, 1, 1, 1, 1, 1, 1, 1, 1, 1, 1, 1, 1, 1, 1, 1, 1, 0, 0, 0, 0, 0, 0]), ("PupilsPupil$Word", "slot", "I", [0, 0, 0, 0, 0, 0, 0, 0, 0, 0, 0, 0, 0, 0, 0, 0, 0, 1, 2, 3, 4, 5, 6, 7, 8, 9, 10, 11, 0, 0, 0, 0, 0, 0]), ("PupilsPupil$Word", "scopes", "I", [0, 0, 0, 0, 0, 0, 0, 0, 0, 0, 0, 0, 0, 0, 0, 0, 7, 7, 7, 7, 5, 1, 1, 6, 6, 4, 4, 4, 0, 0, 0, 0, 0, 0])]
def z_wsw : List Int32 := [1, 2, 5, 0, 6, 7, 8, 9, 10, 11, 0, 0, 0, 0, 0, 0, 0, 0, 0, 0, 0, 0, 0, 0, 0, 0, 3, 4, 0, 0, 0, 0, 0, 0]
def z_NM : List (String × Nat × MethodName) := [("PupilsPupil", 11, ⟨"PupilsPupil$Text", "<init>", "()V"⟩), ("PupilsPupil", 18, ⟨"PupilsPupil$School", "<init>", "()V"⟩), ("PupilsPupil$School", 42, ⟨"PupilsPupil$Formula", "<init>", "()V"⟩), ("PupilsPupil$SchoolReader", 11, ⟨"PupilsPupil$School", "<init>", "()V"⟩), ("PupilsPupil$Question", 11, ⟨"PupilsPupil$Formula", "<init>", "()V"⟩), ("PupilsPupil$State", 60, ⟨"PupilsPupil", "hasBit", "(II)Z"⟩), ("PupilsPupil$SchoolReader", 200, ⟨"PupilsPupil$Grammar", "readTest", "(I)Z"⟩), ("PupilsPupil$Calendar", 31, ⟨"PupilsPupil", "hasBit", "(II)Z"⟩), ("PupilsPupil$Formula", 54, ⟨"PupilsPupil", "hasBit", "(II)Z"⟩), ("PupilsPupil$Foresight", 65, ⟨"PupilsPupil", "hasBit", "(II)Z"⟩), ("PupilsPupil$Foresight", 78, ⟨"PupilsPupil", "whoHas", "([II)I"⟩), ("PupilsPupil$Rumour", 65, ⟨"PupilsPupil", "whoHas", "([II)I"⟩), ("PupilsPupil$Rumour", 72, ⟨"PupilsPupil", "hasBit", "(II)Z"⟩), ("PupilsPupil$Question", 94, ⟨"PupilsPupil$Grammar", "readTest", "(I)Z"⟩), ("PupilsPupil$Question", 98, ⟨"PupilsPupil$Grammar", "readSum", "(I)Z"⟩), ("PupilsPupil$Question", 143, ⟨"PupilsPupil", "whoHas", "([II)I"⟩)]
def z_NF : List (String × Nat × String × String × String) := [("PupilsPupil$Text", 66, "PupilsPupil$Word", "own", "Z"), ("PupilsPupil$Text", 43, "PupilsPupil$Word", "packed", "I"), ("PupilsPupil$Grammar", 113, "PupilsPupil$Word", "scopes", "I"), ("PupilsPupil$Grammar", 116, "PupilsPupil$Word", "slot", "I")]
/-! the abstract machine over the kit: memory as numbers, places as numbers -/
abbrev Mt : Type := MethodName × ByteArray × Nat × Option FieldType
abbrev Ii : Type := Nat → Nat → Int32
abbrev Jj : Type := Nat → Nat → Int64
abbrev Wl : Type := (Nat → Nat × Nat) × Nat × (Nat → Nat → Option Nat)
abbrev En : Type := Launch × Nat × (Nat → Nat) × va_G × (Nat → ClassId)
abbrev Qt : Type := Option Value → Ii → Jj → Prop
def z_Tg : List Cond := lw_tbl.filter goodWord
theorem z_mi {w : Cond} (i : Nat) (h : tables_1[i]? = some w) (g : goodWord w = true) : w ∈ z_Tg := by
  refine List.mem_filter.mpr ⟨?_, g⟩
  unfold lw_tbl
  exact List.mem_append_right _ (List.mem_of_getElem? h)
theorem z_mp {w : Cond} (i : Nat) (h : (k2_sels lw_privs)[i]? = some w) (g : goodWord w = true) : w ∈ z_Tg := by
  refine List.mem_filter.mpr ⟨?_, g⟩
  unfold lw_tbl
  exact List.mem_append_left _ (List.mem_of_getElem? h)
theorem z_good {w : Cond} (h : w ∈ z_Tg) : (w.onTables && w.keeps) = true ∨ ∃ ty, w = .arrayClass ty := good_of_word (List.mem_filter.mp h).2
def z_wsM (M : Mt) : List Cond := Cond.code M.1 M.2.1 M.2.2.1 M.2.2.2 :: z_Tg
theorem z_goodIn {M M' : Mt} (h : Cond.code M'.1 M'.2.1 M'.2.2.1 M'.2.2.2 ∈ z_Tg) : GoodIn (z_wsM M) (z_wsM M') := by
  intro w hw
  rcases List.mem_cons.mp hw with rfl | hw
  · exact ⟨List.mem_cons_of_mem _ h, z_good h⟩
  · exact ⟨List.mem_cons_of_mem _ hw, z_good hw⟩
def z_am (E : En) (k : Nat) : Nat := if k < 10000 then E.2.1 + k else E.2.2.1 (k - 10000)
def z_rv (E : En) : Value → Value
  | .ref k => .ref (z_am E k)
  | .null => .null
  | .int x => .int x
  | .long x => .long x
  | .float x => .float x
  | .double x => .double x
  | .retAddr x => .retAddr x
theorem z_cat (E : En) (v : Value) : (z_rv E v).category = v.category := by cases v <;> rfl
theorem z_rvf (E : En) (r : Option Nat) : z_rv E (va_rf r) = va_rf (r.map (z_am E)) := by cases r <;> rfl
def z_lv (E : En) (q : Nat × Value) : Nat × Value := (q.1, z_rv E q.2)
/-- the constants of Word as numbers: -1 is null -/
def z_wo (x : Int32) : Option Nat := if x = -1 then none else some (10000 + x.toNatClampNeg)
def z_kd (t : FieldType) : Nat := match t with
  | .long => 1
  | .object n => if n = "PupilsPupil$Word" then 3 else 2
  | .array _ => 2
  | _ => 0
def z_fv (E : En) (P : Nat → Nat → Option Nat) (I : Ii) (J : Jj) (t k f : Nat) : Value := match t with
  | 1 => .long (J k f)
  | 2 => va_rf ((P k f).map (z_am E))
  | 3 => va_rf ((z_wo (I k f)).map (z_am E))
  | _ => .int (I k f)
def z_fl (E : En) (P : Nat → Nat → Option Nat) (I : Ii) (J : Jj) (c k : Nat) : List Value := (List.range (z_nF c)).map (fun f => z_fv E P I J (z_kd (z_ty c f)) k f)
def z_cel (ω : Wl) (E : En) (I : Ii) (J : Jj) (k : Nat) : va_E := match (ω.1 k).1 with
  | 0 => .inr ((ω.1 k).2, z_fl E ω.2.2 I J (ω.1 k).2 k)
  | 1 => .inl (E.2.2.2.2 1, (ω.1 k).2, .inl (I k))
  | 2 => .inl (E.2.2.2.2 2, (ω.1 k).2, .inl (I k))
  | 3 => .inl (E.2.2.2.2 3, (ω.1 k).2, .inr (.inl (J k)))
  | _ => .inl (E.2.2.2.2 4, (ω.1 k).2, .inr (.inr (.inr (.inr (fun i => (ω.2.2 k i).map (z_am E))))))
def z_ws (ω : Wl) (E : En) (I : Ii) (J : Jj) : va_W := (List.range ω.2.1).map (fun k => (E.2.1 + k, z_cel ω E I J k))
def z_A (ω : Wl) (E : En) : Nat → Prop := fun q => E.2.1 ≤ q ∧ q < E.2.1 + ω.2.1
def z_tys (E : En) : List (ClassId × FieldType) := [(E.2.2.2.2 1, .int), (E.2.2.2.2 2, .char), (E.2.2.2.2 3, .long), (E.2.2.2.2 4, .object "PupilsPupil$State")]
/-- the start's constants: Word's, WORDS, the switch's table -/
def z_St (A : Nat → Prop) (E : En) (U : State) (H : Heap) : Prop :=
  va_En "PupilsPupil$Word" "LPupilsPupil$Word;" z_wnm z_wF E.2.2.1 A U H ∧
  (va_Z "PupilsPupil$Word" "WORDS" "[LPupilsPupil$Word;" (.ref (E.2.2.1 10000)) A U H ∧ va_T (.object "PupilsPupil$Word") (E.2.2.1 10000) 34 (fun j => .ref (E.2.2.1 j)) A U H) ∧
  va_Z "PupilsPupil$1" "$SwitchMap$PupilsPupil$Word" "[I" (.ref (E.2.2.1 10001)) A U H ∧ va_T .int (E.2.2.1 10001) 34 (fun j => .int (z_wsw.getD j 0)) A U H
def z_C (A : Nat → Prop) (E : En) (U : State) (H : Heap) : Prop :=
  va_K E.2.2.2.1 z_cls (z_tys E) U ∧ ((∀ q ∈ z_NM, va_Nw (.methodLinkNest q.1 q.2.1 q.2.2 "PupilsPupil") U) ∧ ∀ q ∈ z_NF, va_Nw (.fieldLinkNest q.1 q.2.1 q.2.2.1 q.2.2.2.1 q.2.2.2.2 "PupilsPupil") U) ∧ z_St A E U H
theorem z_St.moved {A : Nat → Prop} {E : En} {u U : State} {H H1 : Heap} (hvm : u.vm.Alike U.vm) (hq : ∀ a : Nat, a < H.size → ¬ A a → H1[a]? = H[a]?) (h : z_St A E u H) : z_St A E U H1 :=
  ⟨(va_En.moved hvm h.1).kept hq, ⟨(va_Z.moved hvm h.2.1.1).kept hq, (va_T.moved hvm h.2.1.2).kept hq⟩, (va_Z.moved hvm h.2.2.1).kept hq, (va_T.moved hvm h.2.2.2).kept hq⟩
theorem z_C.moved {A : Nat → Prop} {E : En} {u U : State} {H H1 : Heap} (hW : u.WarmedH U.vm) (hq : ∀ a : Nat, a < H.size → ¬ A a → H1[a]? = H[a]?) (h : z_C A E u H) : z_C A E U H1 :=
  ⟨va_K.moved hW.alike h.1, ⟨fun q hq => va_Nw.warmM hW (h.2.1.1 q hq), fun q hq => va_Nw.warmF hW (h.2.1.2 q hq)⟩, h.2.2.moved hW.alike hq⟩
def z_Wd (ω : Wl) (E : En) (I : Ii) (J : Jj) (U : State) : Prop := va_P E.2.2.2.1 z_cls (z_ws ω E I J) U.heap ∧ z_C (z_A ω E) E U U.heap
theorem z_Wd.blind {ω : Wl} {E : En} {I : Ii} {J : Jj} {U : State} {g : JFrame} {mk : MethodId} {a : Array Value} (h : z_Wd ω E I J U) : z_Wd ω E I J (U.calling g mk a) :=
  ⟨h.1, z_C.moved (u := U) (U := U.calling g mk a) (State.WarmedH.refl U) (fun _ _ _ => rfl) h.2⟩
def z_rm (d : Nat) : Room := { frames := d, cells := 0, slots := 0, locals := 48 * d }
def z_Qc (ω : Wl) (E : En) (Q : Qt) : Array Value → State → Outcome → State → Prop := fun _ st oc t => (∃ r I J, Q r I J ∧ oc = .returned (r.map (z_rv E)) ∧ z_Wd ω E I J t) ∧ va_F (z_A ω E) st t
/-- a method's contract -/
def Cal (ω : Wl) (d : Nat) (M : Mt) (av : List Value) (I : Ii) (J : Jj) (Q : Qt) : Prop :=
  ∀ E : En, Met E.1 M.1 (z_wsM M) (z_rm d) (va_Pc (av.map (z_rv E)) (fun U => z_Wd ω E I J U)) (z_Qc ω E Q) 0 0 (z_A ω E)
def z_Ho (M : Mt) (p : Program) (s : State) (m : MethodId) (args : Array Value) (meth : Method) (c : Code) : Prop :=
  p.tables.exec = Jvm.exec ∧ c.code = M.2.1 ∧ meth.sig.returnType = M.2.2.2 ∧ c.maxLocals = M.2.2.1 ∧ s.vm.findClass M.1.cls = some m.cls ∧ (∀ w ∈ z_wsM M, w.before args s = true) ∧ meth.locks = false
/-- the machine within a method -/
def Go (ω : Wl) (d : Nat) (M : Mt) (pc : Nat) (ls : List (Nat × Value)) (st : List Value) (I : Ii) (J : Jj) (Q : Qt) : Prop :=
  ∀ (E : En) (p : Program) (e : Env) (s : State) (m : MethodId) (args : Array Value) (below : List Frame) (meth : Method) (c : Code) (H : Heap) (arr : Array Slot) (locs : List Loc),
    z_Ho M p s m args meth c → lv_has arr M.2.2.1 (ls.map (z_lv E)) → va_P E.2.2.2.1 z_cls (z_ws ω E I J) H → z_C (z_A ω E) E s s.heap → va_S (z_A ω E) s.heap H locs →
    W p E.1 e (z_rm d) s m args below meth c H locs 0 0 (MQ below (z_Qc ω E Q) args s 0 0 (z_A ω E)) (F0 m pc arr (st.map (z_rv E)))
/-- places -/
def z_Ob (ω : Wl) (o c : Nat) : Prop := ω.1 o = (0, c) ∧ o < ω.2.1 ∧ o < 10000 ∧ c < 14
def z_Ar (ω : Wl) (a t n : Nat) : Prop := ω.1 a = (t, n) ∧ a < ω.2.1 ∧ a < 10000
theorem z_wsAt {ω : Wl} {E : En} {I : Ii} {J : Jj} {k : Nat} (h : k < ω.2.1) : (z_ws ω E I J)[k]? = some (E.2.1 + k, z_cel ω E I J k) := by
  simp [z_ws, h]
theorem z_wsD {ω : Wl} {E : En} {I : Ii} {J : Jj} : va_D (z_A ω E) (z_ws ω E I J) := by
  have key : ∀ (k : Nat) (q : Nat × va_E), (z_ws ω E I J)[k]? = some q → k < ω.2.1 ∧ q.1 = E.2.1 + k := by
    intro k q h
    have hk : k < ω.2.1 := by
      have := (List.getElem?_eq_some_iff.mp h).1
      simpa [z_ws] using this
    rw [z_wsAt hk] at h
    cases h
    exact ⟨hk, rfl⟩
  refine ⟨fun i j p q hi hj hpq => ?_, fun k q h => ?_⟩
  · have h1 := key i p hi
    have h2 := key j q hj
    omega
  · have h1 := key k q h
    show E.2.1 ≤ q.1 ∧ q.1 < E.2.1 + ω.2.1
    omega
theorem z_wsSet {ω : Wl} {E : En} {I I' : Ii} {J J' : Jj} {k : Nat} {e : va_E} (he : z_cel ω E I' J' k = e) (ho : ∀ j, j ≠ k → z_cel ω E I' J' j = z_cel ω E I J j) : (z_ws ω E I J).set k (E.2.1 + k, e) = z_ws ω E I' J' := by
  apply List.ext_getElem?
  intro j
  by_cases hj : j < ω.2.1
  · rw [z_wsAt (I := I') (J := J') hj]
    by_cases hjk : k = j
    · subst hjk
      rw [List.getElem?_set_self (by simp [z_ws]; exact hj), he]
    · rw [List.getElem?_set_ne hjk, z_wsAt hj, ho j (fun h => hjk h.symm)]
  · rw [List.getElem?_eq_none (by simp [z_ws]; omega), List.getElem?_eq_none (by simp [z_ws]; omega)]
theorem z_amLow {E : En} {k : Nat} (h : k < 10000) : z_am E k = E.2.1 + k := by simp [z_am, h]
theorem z_ins {ws : List Cond} (ps : List Nat) (h : ws.map some = ps.map (fun i => tables_1[i]?)) (g : ws.all goodWord = true) : ∀ w ∈ ws, w ∈ z_Tg := by
  intro w hw
  have h1 : some w ∈ ps.map (fun i => tables_1[i]?) := by rw [← h]; exact List.mem_map.mpr ⟨w, hw, rfl⟩
  obtain ⟨i, -, hi⟩ := List.mem_map.mp h1
  exact z_mi i hi (List.all_eq_true.mp g w hw)
theorem z_cm {w : Cond} (h : w ∈ tables_1) (g : goodWord w = true) : w ∈ z_Tg := by
  refine List.mem_filter.mpr ⟨?_, g⟩
  unfold lw_tbl
  exact List.mem_append_right _ h
theorem z_c1 {w : Cond} (i : Nat) (h : tables_1_1[i]? = some w) (g : goodWord w = true) : w ∈ z_Tg := z_cm (by unfold tables_1; exact List.mem_append_left _ (List.mem_of_getElem? h)) g
theorem z_c2 {w : Cond} (i : Nat) (h : tables_1_2[i]? = some w) (g : goodWord w = true) : w ∈ z_Tg := z_cm (by unfold tables_1; exact List.mem_append_right _ (List.mem_append_left _ (List.mem_of_getElem? h))) g
theorem z_c3 {w : Cond} (i : Nat) (h : tables_1_3[i]? = some w) (g : goodWord w = true) : w ∈ z_Tg := z_cm (by unfold tables_1; exact List.mem_append_right _ (List.mem_append_right _ (List.mem_append_left _ (List.mem_of_getElem? h)))) g
theorem z_c4 {w : Cond} (i : Nat) (h : tables_1_4[i]? = some w) (g : goodWord w = true) : w ∈ z_Tg := z_cm (by unfold tables_1; exact List.mem_append_right _ (List.mem_append_right _ (List.mem_append_right _ (List.mem_append_left _ (List.mem_of_getElem? h))))) g
theorem z_c5 {w : Cond} (i : Nat) (h : tables_1_5[i]? = some w) (g : goodWord w = true) : w ∈ z_Tg := z_cm (by unfold tables_1; exact List.mem_append_right _ (List.mem_append_right _ (List.mem_append_right _ (List.mem_append_right _ (List.mem_append_left _ (List.mem_of_getElem? h)))))) g
theorem z_c6 {w : Cond} (i : Nat) (h : tables_1_6[i]? = some w) (g : goodWord w = true) : w ∈ z_Tg := z_cm (by unfold tables_1; exact List.mem_append_right _ (List.mem_append_right _ (List.mem_append_right _ (List.mem_append_right _ (List.mem_append_right _ (List.mem_append_left _ (List.mem_of_getElem? h))))))) g
theorem z_c7 {w : Cond} (i : Nat) (h : tables_1_7[i]? = some w) (g : goodWord w = true) : w ∈ z_Tg := z_cm (by unfold tables_1; exact List.mem_append_right _ (List.mem_append_right _ (List.mem_append_right _ (List.mem_append_right _ (List.mem_append_right _ (List.mem_append_right _ (List.mem_append_left _ (List.mem_of_getElem? h)))))))) g
theorem z_c8 {w : Cond} (i : Nat) (h : tables_1_8[i]? = some w) (g : goodWord w = true) : w ∈ z_Tg := z_cm (by unfold tables_1; exact List.mem_append_right _ (List.mem_append_right _ (List.mem_append_right _ (List.mem_append_right _ (List.mem_append_right _ (List.mem_append_right _ (List.mem_append_right _ (List.mem_append_left _ (List.mem_of_getElem? h))))))))) g
theorem z_c9 {w : Cond} (i : Nat) (h : tables_1_9[i]? = some w) (g : goodWord w = true) : w ∈ z_Tg := z_cm (by unfold tables_1; exact List.mem_append_right _ (List.mem_append_right _ (List.mem_append_right _ (List.mem_append_right _ (List.mem_append_right _ (List.mem_append_right _ (List.mem_append_right _ (List.mem_append_right _ (List.mem_of_getElem? h))))))))) g
theorem z_in0 : ∀ w ∈ u_ws RX12 TX12 0, w ∈ z_Tg := z_ins [] (by decide +kernel) (by decide +kernel)
theorem z_in1 : ∀ w ∈ u_ws RX1 TX1 4, w ∈ z_Tg := z_ins [248, 250, 252, 254] (by decide +kernel) (by decide +kernel)
theorem z_in2 : ∀ w ∈ u_ws RX2 TX2 6, w ∈ z_Tg := z_ins [273, 275, 277, 279, 281, 283] (by decide +kernel) (by decide +kernel)
theorem z_in3 : ∀ w ∈ u_ws RX3 TX3 5, w ∈ z_Tg := z_ins [90, 92, 94, 96, 98] (by decide +kernel) (by decide +kernel)
theorem z_in4 : ∀ w ∈ u_ws RX4 TX4 3, w ∈ z_Tg := z_ins [347, 349, 351] (by decide +kernel) (by decide +kernel)
theorem z_in5 : ∀ w ∈ u_ws RX5 TX5 7, w ∈ z_Tg := z_ins [384, 386, 388, 390, 392, 394, 396] (by decide +kernel) (by decide +kernel)
theorem z_in6 : ∀ w ∈ u_ws RX6 TX6 10, w ∈ z_Tg := z_ins [307, 309, 311, 313, 315, 317, 319, 321, 323, 325] (by decide +kernel) (by decide +kernel)
theorem z_in7 : ∀ w ∈ u_ws RX7 TX7 11, w ∈ z_Tg := z_ins [212, 214, 216, 218, 220, 222, 224, 226, 228, 230, 232] (by decide +kernel) (by decide +kernel)
theorem z_in8 : ∀ w ∈ u_ws RX8 TX8 3, w ∈ z_Tg := z_ins [358, 360, 362] (by decide +kernel) (by decide +kernel)
theorem z_in9 : ∀ w ∈ u_ws RX9 TX9 9, w ∈ z_Tg := z_ins [146, 148, 150, 152, 154, 156, 158, 160, 162] (by decide +kernel) (by decide +kernel)
theorem z_in10 : ∀ w ∈ u_ws RX10 TX10 9, w ∈ z_Tg := z_ins [53, 55, 57, 59, 61, 63, 65, 67, 69] (by decide +kernel) (by decide +kernel)
theorem z_in11 : ∀ w ∈ u_ws RX12 TX12 0, w ∈ z_Tg := z_ins [] (by decide +kernel) (by decide +kernel)
theorem z_in12 : ∀ w ∈ u_ws RX12 TX12 16, w ∈ z_Tg := z_ins [415, 417, 419, 421, 423, 425, 427, 429, 431, 433, 435, 437, 439, 441, 443, 445] (by decide +kernel) (by decide +kernel)
theorem z_in13 : ∀ w ∈ u_ws RX13 TX13 105, w ∈ z_Tg := z_ins [1232, 1234, 1236, 1238, 1240, 1242, 1244, 1246, 1248, 1250, 1252, 1254, 1256, 1258, 1260, 1262, 1264, 1266, 1268, 1270, 1272, 1274, 1276, 1278, 1280, 1282, 1284, 1286, 1288, 1290, 1292, 1294, 1296, 1298, 1300, 1302, 1304, 1306, 1308, 1310, 1312, 1314, 1316, 1318, 1320, 1322, 1324, 1326, 1328, 1330, 1332, 1334, 1336, 1338, 1340, 1342, 1344, 1346, 1348, 1350, 1352, 1354, 1356, 1358, 1360, 1362, 1364, 1366, 1368, 1370, 1372, 1374, 1376, 1378, 1380, 1382, 1384, 1386, 1388, 1390, 1392, 1394, 1396, 1398, 1400, 1402, 1404, 1406, 1408, 1410, 1412, 1414, 1416, 1418, 1420, 1422, 1424, 1426, 1428, 1430, 1432, 1434, 1436, 1438, 1440] (by decide +kernel) (by decide +kernel)
theorem z_in : ∀ c, c < 14 → ∀ w ∈ u_ws (z_R c) (z_T c) (z_nF c), w ∈ z_Tg
  | 0, _ => z_in0
  | 1, _ => z_in1
  | 2, _ => z_in2
  | 3, _ => z_in3
  | 4, _ => z_in4
  | 5, _ => z_in5
  | 6, _ => z_in6
  | 7, _ => z_in7
  | 8, _ => z_in8
  | 9, _ => z_in9
  | 10, _ => z_in10
  | 11, _ => z_in11
  | 12, _ => z_in12
  | 13, _ => z_in13
  | n + 14, h => absurd h (by omega)

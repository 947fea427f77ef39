/-! making the class: how far it is, as numbers -/
def FXl : List (List Int32) := [[0, 0, 0, 0, 0, 0, 0, 0, 0, 0, 0, 0, 0, 0, 0, 1], [0, 0, 0, -1, 0, 0, -1, 0, 0], [], [0, 0, 10, 3, 0], [], [], [], [], [], [], [], [], [], [], [-1, -1, -1, -1, -1, -1, -1, -1], [], [], [], [], [], [-1, -1, -1, -1, -1, -1, -1, -1], [], [], [], [], [], [-1, -1, -1, -1, -1, -1, -1, -1], [], [], [], [], [], [], [], [], [], [0, 0, 0, 0, -1, -1], [], [-1, -1, -1, -1, -1, -1, -1, -1], [], [], [], [], [0, 0, 0, 0, 0, 0, 0, 0, -1, -1], [], [-1, -1, -1, -1, -1, -1, -1, -1], [], [], [], [], [], [], [], [], [0, 0, 10, 3, 0], [], [], [], [], [], [], [], [], [], [], [-1, -1, -1, -1, -1, -1, -1, -1], [], [], [], [], [], [0, 0, 0, 0, 0, 0, 30], [], [], [], [], [], [], [0, 0, 4], [], [], [], [-1, -1, -1, -1, -1, -1, -1, -1], [], [], [], [], [], [-1, -1, -1, -1, -1, -1, -1, -1], [], [], [], [], [], [-1, -1, -1, -1, -1, -1, -1, -1], [], [], [], [], [], [-1, -1, -1, -1, -1, -1, -1, -1], [], [], [], [], [], [-1, -1, -1, -1, -1, -1, -1, -1], [], [], [], [], [], [-1, -1, -1, -1, -1, -1, -1, -1], [], [], [], [], [], [-1, -1, -1, -1, -1, -1, -1, -1], [], [], [], [], [], [-1, -1, -1, -1, -1, -1, -1, -1], [], [], [], [], [], [-1, -1, -1, -1, -1, -1, -1, -1], [], [], [], [], [], [-1, -1, -1, -1, -1, -1, -1, -1], [], [], [], [], [], [-1, -1, -1, -1, -1, -1, -1, -1], [], [], [], [], [], [-1, -1, -1, -1, -1, -1, -1, -1], [], [], [], [], [], [-1, -1, -1, -1, -1, -1, -1, -1], [], [], [], [], [], [-1, -1, -1, -1, -1, -1, -1, -1], [], [], [], [], [], [-1, -1, -1, -1, -1, -1, -1, -1], [], [], [], [], [], [-1, -1, -1, -1, -1, -1, -1, -1], [], [], [], [], [], [-1, -1, -1, -1, -1, -1, -1, -1], [], [], [], [], [], [-1, -1, -1, -1, -1, -1, -1, -1], [], [], [], [], [], [-1, -1, -1, -1, -1, -1, -1, -1], [], [], [], [], [], [-1, -1, -1, -1, -1, -1, -1, -1], [], [], [], []]
/-- memory at birth, and when all is made -/
def I0l (a : Nat) : List Int32 := if a = 71 then [0, 0, 0, 0, 0, 0, -1] else []
def I0x : Ii := fun a j => (I0l a).getD j 0
def FX : Ii := fun a j => (FXl.getD a []).getD j 0
def J0x : Jj := fun _ _ => 0
/-- the references when all is made, but of the past only w -/
def PXw (w : Nat) : Rf := fun a => if a = 31 then (fun j => if j < w then some (81 + 6 * j) else none) else wX.2.2 a
/-- while the object at o is made: below it PL, its own row pl, its parts up to n as they will be -/
def pS (w o n : Nat) (PL : Rf) (pl : List (Option Nat)) : Rf := fun a => if a < o then PL a else if a = o then (fun j => pl.getD j none) else if a < n then PXw w a else fun _ => none
def iS (o n : Nat) (IL : Ii) (rl : List Int32) : Ii := fun a => if a < o then IL a else if a = o then (fun j => rl.getD j 0) else if a < n then FX a else I0x a
def pE (w o n : Nat) (PL : Rf) : Rf := fun a => if a < o then PL a else if a < n then PXw w a else fun _ => none
def iE (o n : Nat) (IL : Ii) : Ii := fun a => if a < o then IL a else if a < n then FX a else I0x a
theorem lgeq {α : Type} {l l' : List α} {x : α} (n : Nat) (h1 : l.length ≤ n) (h2 : l'.length ≤ n) (h : ∀ j, j < n → l.getD j x = l'.getD j x) : (fun j => l.getD j x) = fun j => l'.getD j x := by
  funext j
  by_cases e : j < n
  · exact h j e
  · rw [List.getD_eq_getElem?_getD, List.getD_eq_getElem?_getD, List.getElem?_eq_none (by omega), List.getElem?_eq_none (by omega)]
theorem FX_nil {a : Nat} (h : FXl.getD a [] = []) : FX a = fun _ => 0 := by
  funext j; unfold FX; rw [h]; rfl
theorem I0_nil {a : Nat} (h : a ≠ 71) : I0x a = fun _ => 0 := by
  funext j; unfold I0x I0l; rw [if_neg h]; rfl
theorem PX_nil {w a : Nat} (h : z_PXl.getD a [] = []) (h2 : a ≠ 31) : PXw w a = fun _ => none := by
  unfold PXw; rw [if_neg h2]; funext j; show (z_PXl.getD a []).getD j none = none; rw [h]; rfl
theorem rp_nil {α : Type} {m : Nat} {x : α} : (fun j => (List.replicate m x).getD j x) = fun _ => x := by
  funext j
  rw [List.getD_eq_getElem?_getD, List.getElem?_replicate]
  split <;> rfl
section CS
variable {w o n : Nat} {PL : Rf} {IL : Ii} {pl : List (Option Nat)} {rl : List Int32}
theorem pS_put {k a : Nat} (hk : k < pl.length) : p2 (pS w o n PL pl) o k a = pS w o n PL (pl.set k (some a)) := by
  funext b j
  unfold p2 pS
  by_cases e : b = o
  · subst e
    simp only [Nat.lt_irrefl, if_false, if_true, true_and]
    by_cases e2 : j = k
    · subst e2; rw [if_pos rfl, List.getD_eq_getElem?_getD, List.getElem?_set_self hk]; rfl
    · rw [if_neg e2, List.getD_eq_getElem?_getD, List.getD_eq_getElem?_getD, List.getElem?_set_ne (fun q => e2 q.symm)]
  · rw [if_neg (fun q => e q.1)]
    simp only [e, if_false]
theorem iS_put {k : Nat} {v : Int32} (hk : k < rl.length) : u2 (iS o n IL rl) o k v = iS o n IL (rl.set k v) := by
  funext b j
  by_cases e : b = o
  · subst e
    by_cases e2 : j = k
    · subst e2; rw [u2_at]; unfold iS; simp only [Nat.lt_irrefl, if_false, if_true]; rw [List.getD_eq_getElem?_getD, List.getElem?_set_self hk]; rfl
    · rw [u2_k e2]; unfold iS; simp only [Nat.lt_irrefl, if_false, if_true]; rw [List.getD_eq_getElem?_getD, List.getD_eq_getElem?_getD, List.getElem?_set_ne (fun q => e2 q.symm)]
  · rw [u2_row e]
    unfold iS
    simp only [e, if_false]
theorem pS_at (ho : o < n) : pS w o n PL pl n = fun _ => none := by
  unfold pS; rw [if_neg (by omega), if_neg (by omega), if_neg (by omega)]
theorem iS_at (ho : o < n) : iS o n IL rl n = I0x n := by
  unfold iS; rw [if_neg (by omega), if_neg (by omega), if_neg (by omega)]
theorem pS_new (ho : o < n) (h : PXw w n = fun _ => none) : pS w o n PL pl = pS w o (n + 1) PL pl := by
  funext a
  by_cases e : a = n
  · subst e
    rw [pS_at ho]; unfold pS; rw [if_neg (by omega), if_neg (by omega), if_pos (by omega), h]
  · unfold pS
    by_cases e2 : a < n
    · simp only [e2, show a < n + 1 by omega]
    · simp only [e2, show ¬ a < n + 1 by omega]
theorem iS_new (ho : o < n) (h : FX n = I0x n) : iS o n IL rl = iS o (n + 1) IL rl := by
  funext a
  by_cases e : a = n
  · subst e
    rw [iS_at ho]; unfold iS; rw [if_neg (by omega), if_neg (by omega), if_pos (by omega), h]
  · unfold iS
    by_cases e2 : a < n
    · simp only [e2, show a < n + 1 by omega]
    · simp only [e2, show ¬ a < n + 1 by omega]
theorem pS_in {m : Nat} (ho : o < n) : pS w o n PL pl = pS w n (n + 1) (pS w o n PL pl) (List.replicate m none) := by
  funext a
  by_cases e : a < n
  · rw [show pS w n (n + 1) (pS w o n PL pl) (List.replicate m none) a = pS w o n PL pl a from if_pos e]
  · by_cases e2 : a = n
    · subst e2
      rw [pS_at ho]
      unfold pS
      rw [if_neg e, if_pos rfl, rp_nil]
    · unfold pS
      rw [if_neg (show ¬ a < o by omega), if_neg (show ¬ a = o by omega), if_neg e, if_neg e, if_neg e2, if_neg (by omega)]
theorem iS_in {bl : List Int32} (ho : o < n) (hb : (fun j => bl.getD j 0) = I0x n) : iS o n IL rl = iS n (n + 1) (iS o n IL rl) bl := by
  funext a
  by_cases e : a < n
  · rw [show iS n (n + 1) (iS o n IL rl) bl a = iS o n IL rl a from if_pos e]
  · by_cases e2 : a = n
    · subst e2
      rw [iS_at ho]
      unfold iS
      rw [if_neg e, if_pos rfl, hb]
    · unfold iS
      rw [if_neg (show ¬ a < o by omega), if_neg (show ¬ a = o by omega), if_neg e, if_neg e, if_neg e2, if_neg (by omega)]
theorem pE_out {n1 : Nat} (ho : o < n) (hn : n ≤ n1) : pE w n n1 (pS w o n PL pl) = pS w o n1 PL pl := by
  funext a
  unfold pE pS
  by_cases e : a < n
  · rw [if_pos e]
    by_cases e2 : a < n1
    · simp only [e, e2]
    · omega
  · rw [if_neg e, if_neg (show ¬ a < o by omega), if_neg (show ¬ a = o by omega)]
theorem iE_out {n1 : Nat} (ho : o < n) (hn : n ≤ n1) : iE n n1 (iS o n IL rl) = iS o n1 IL rl := by
  funext a
  unfold iE iS
  by_cases e : a < n
  · rw [if_pos e]
    by_cases e2 : a < n1
    · simp only [e, e2]
    · omega
  · rw [if_neg e, if_neg (show ¬ a < o by omega), if_neg (show ¬ a = o by omega)]
theorem pS_end (ho : o < n) (h : (fun j => pl.getD j none) = PXw w o) : pS w o n PL pl = pE w o n PL := by
  funext a
  unfold pE pS
  by_cases e : a = o
  · subst e; rw [if_neg (by omega), if_pos rfl, if_neg (by omega), if_pos ho, h]
  · simp only [e, if_false]
theorem iS_end (ho : o < n) (h : (fun j => rl.getD j 0) = FX o) : iS o n IL rl = iE o n IL := by
  funext a
  unfold iE iS
  by_cases e : a = o
  · subst e; rw [if_neg (by omega), if_pos rfl, if_neg (by omega), if_pos ho, h]
  · simp only [e, if_false]
variable {d N S : Nat} {M : Mt} {pc : Nat} {ls : List (Nat × Value)} {st : List Value} {cn sn n' : Nat} {Q : QN}
theorem c_newI {v : Int32} {k : Nat} (hd : decode M.2.1 pc = .ok (.newarray .int, 2)) (ho : o < n) (hlay : wX.1 n = (1, k)) (hf : FXl.getD n [] = []) (h7 : n ≠ 71 ∧ n ≠ 31 ∧ n < 10000) (hp : z_PXl.getD n [] = []) (hv : ¬ v < 0) (hk : v.toNatClampNeg = k) (hb : k ≤ 1000000) (hN : cn + 1 ≤ N) (hS1 : sn + k ≤ S) (h : GoN wX.1 d N S M (pc + 2) ls (.ref n :: st) (n + 1) (cn + 1) (sn + k) (pS w o (n + 1) PL pl) (iS o (n + 1) IL rl) J0x n' Q) : GoN wX.1 d N S M pc ls (.int v :: st) n cn sn (pS w o n PL pl) (iS o n IL rl) J0x n' Q := by
  have e1 : pS w o n PL pl = pS w o (n + 1) PL pl := pS_new ho (PX_nil hp h7.2.1)
  have e2 : iS o n IL rl = iS o (n + 1) IL rl := iS_new ho ((FX_nil hf).trans (I0_nil h7.1).symm)
  refine n_newI hd (z_c1 72 (by decide +kernel) rfl) hlay ((iS_at ho).trans (I0_nil h7.1)) h7.2.2 hv hk hb hN hS1 ?_
  rw [e1, e2]
  exact h
theorem c_putR {idx c k a : Nat} (pl' : List (Option Nat)) (hd : decode M.2.1 pc = .ok (.putfield idx, 3)) (hf : z_Fl M.1.cls idx c k) (hfin : (z_T c k).2.2.2 = true) (hdc : (z_T c k).1 = M.1.cls) (hk : z_kd (z_ty c k) = 2) (hn1 : ∀ q, narrow (z_ty c k) (.ref q) = .ref q) (hn2 : ∀ q, fits (z_ty c k) (.ref q) = true) (ho : wX.1 o = (0, c) ∧ o < n ∧ o < 10000 ∧ c < 14) (hl : k < pl.length) (hs : pl.set k (some a) = pl') (h : GoN wX.1 d N S M (pc + 3) ls st n cn sn (pS w o n PL pl') (iS o n IL rl) J0x n' Q) : GoN wX.1 d N S M pc ls (.ref a :: .ref o :: st) n cn sn (pS w o n PL pl) (iS o n IL rl) J0x n' Q := by
  subst hs
  refine n_putR hd hf hfin hdc hk hn1 hn2 ho ?_
  rw [pS_put hl]
  exact h
theorem c_putI {idx c k : Nat} {v : Int32} (rl' : List Int32) (hd : decode M.2.1 pc = .ok (.putfield idx, 3)) (hf : z_Fl M.1.cls idx c k) (hfin : (z_T c k).2.2.2 = false) (hk : z_kd (z_ty c k) = 0) (hn1 : narrow (z_ty c k) (.int v) = .int v) (hn2 : fits (z_ty c k) (.int v) = true) (ho : wX.1 o = (0, c) ∧ o < n ∧ o < 10000 ∧ c < 14) (hl : k < rl.length) (hs : rl.set k v = rl') (h : GoN wX.1 d N S M (pc + 3) ls st n cn sn (pS w o n PL pl) (iS o n IL rl') J0x n' Q) : GoN wX.1 d N S M pc ls (.int v :: .ref o :: st) n cn sn (pS w o n PL pl) (iS o n IL rl) J0x n' Q := by
  subst hs
  refine n_putI hd hf hfin hk hn1 hn2 ho ?_
  rw [iS_put hl]
  exact h
theorem c_newo {idx c : Nat} (hd : decode M.2.1 pc = .ok (.new idx, 3)) (ho : o < n) (hl : Cond.classLink M.1.cls idx (z_R c) ∈ z_Tg) (hin : Cond.instantiable (z_R c) (z_nF c) ∈ z_Tg) (hini : Cond.initialized (z_R c) ∈ z_Tg) (hc : c < 14) (hlay : wX.1 n = (0, c)) (hI0 : ∀ j, j < z_nF c → (I0l n).getD j 0 = if z_kd (z_ty c j) = 3 then -1 else 0) (hn : n < 10000) (hN : cn + 1 ≤ N) (hS1 : sn + z_nF c ≤ S) (h : GoN wX.1 d N S M (pc + 3) ls (.ref n :: st) (n + 1) (cn + 1) (sn + z_nF c) (pS w o n PL pl) (iS o n IL rl) J0x n' Q) : GoN wX.1 d N S M pc ls st n cn sn (pS w o n PL pl) (iS o n IL rl) J0x n' Q :=
  n_new hd hl hin hini hc hlay (pS_at ho) (fun j hj => by rw [iS_at ho]; exact hI0 j hj) rfl hn hN hS1 h
theorem c_call {idx k m N1 S1 n1 : Nat} {M' : Mt} {As rest : List Value} {bl : List Int32} (hd : decode M.2.1 pc = .ok (.invokespecial idx, 3)) (hl : z_Lk M.1.cls idx M') (hm : z_Md M' k) (hr : M'.2.2.2 = none) (hnm : M'.1.name = "<init>") (hv : Cond.instanceMethod M'.1 ∈ z_Tg) (hn : As.length = k) (hst : st = As.reverse ++ .ref n :: rest) (hsum : (rest.map fun v => v.category).sum ≤ 8) (hN : cn + N1 ≤ N) (hS1 : sn + S1 ≤ S) (ho : o < n) (hn1 : n1 = n + 1 + N1) (hb : (fun j => bl.getD j 0) = I0x n)
    (h : ∀ {PL : Rf} {IL : Ii} {Q1 : QN}, Q1 (pE w n n1 PL) (iE n n1 IL) J0x → CalN wX.1 d N1 S1 M' (.ref n :: As) (n + 1) (pS w n (n + 1) PL (List.replicate m none)) (iS n (n + 1) IL bl) J0x n1 Q1)
    (hk : GoN wX.1 (d + 1) N S M (pc + 3) ls rest n1 (cn + N1) (sn + S1) (pS w o n1 PL pl) (iS o n1 IL rl) J0x n' Q) : GoN wX.1 (d + 1) N S M pc ls st (n + 1) cn sn (pS w o n PL pl) (iS o n IL rl) J0x n' Q := by
  have h2 := h (PL := pS w o n PL pl) (IL := iS o n IL rl) (Q1 := fun P' I' J' => P' = pE w n n1 (pS w o n PL pl) ∧ I' = iE n n1 (iS o n IL rl) ∧ J' = J0x) ⟨rfl, rfl, rfl⟩
  rw [← pS_in ho, ← iS_in ho hb] at h2
  refine n_callK hd hl hm hr hnm hv hn hst hsum hN hS1 hn1 h2 (fun P' I' J' q => ?_)
  obtain ⟨rfl, rfl, rfl⟩ := q
  rw [pE_out ho (by omega), iE_out ho (by omega)]
  exact hk
theorem c_get {idx c k a : Nat} (hd : decode M.2.1 pc = .ok (.getfield idx, 3)) (hf : z_Fl M.1.cls idx c k) (hk : z_kd (z_ty c k) = 2) (ho : wX.1 o = (0, c) ∧ o < n ∧ o < 10000 ∧ c < 14) (hp : pl.getD k none = some a) (h : GoN wX.1 d N S M (pc + 3) ls (.ref a :: st) n cn sn (pS w o n PL pl) (iS o n IL rl) J0x n' Q) : GoN wX.1 d N S M pc ls (.ref o :: st) n cn sn (pS w o n PL pl) (iS o n IL rl) J0x n' Q :=
  n_getP hd hf hk ho (by unfold pS; rw [if_neg (by omega), if_pos rfl]; exact hp) h
theorem c_ret (hd : decode M.2.1 pc = .ok (.return_, 1)) (hr : M.2.2.2 = none) (hN : cn ≤ N) (hS1 : sn ≤ S) (ho : o < n) (hp : (fun j => pl.getD j none) = PXw w o) (hi : (fun j => rl.getD j 0) = FX o) (h : Q (pE w o n PL) (iE o n IL) J0x) : GoN wX.1 d N S M pc ls [] n cn sn (pS w o n PL pl) (iS o n IL rl) J0x n Q := by
  refine n_return hd hr hN hS1 ?_
  rw [pS_end ho hp, iS_end ho hi]
  exact h
end CS

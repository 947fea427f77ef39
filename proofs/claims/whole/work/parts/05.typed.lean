section ZT
variable {ω : Wl} {d : Nat} {M : Mt} {pc : Nat} {ls : List (Nat × Value)} {st : List Value} {I : Ii} {J : Jj} {Q : Qt}
abbrev KI : Type := Int32 → Ii → Jj → Prop
abbrev KL : Type := Int64 → Ii → Jj → Prop
abbrev KV : Type := Ii → Jj → Prop
abbrev KR : Type := Option Nat → Ii → Jj → Prop
abbrev qI (K : KI) : Qt := fun r I J => ∃ x, r = some (.int x) ∧ K x I J
abbrev qL (K : KL) : Qt := fun r I J => ∃ x, r = some (.long x) ∧ K x I J
abbrev qV (K : KV) : Qt := fun r I J => r = none ∧ K I J
abbrev qR (K : KR) : Qt := fun r I J => ∃ x, r = some (va_rf x) ∧ K x I J
def CalI (ω : Wl) (d : Nat) (M : Mt) (av : List Value) (I : Ii) (J : Jj) (K : KI) : Prop := Cal ω d M av I J (qI K)
def CalL (ω : Wl) (d : Nat) (M : Mt) (av : List Value) (I : Ii) (J : Jj) (K : KL) : Prop := Cal ω d M av I J (qL K)
def CalV (ω : Wl) (d : Nat) (M : Mt) (av : List Value) (I : Ii) (J : Jj) (K : KV) : Prop := Cal ω d M av I J (qV K)
def CalR (ω : Wl) (d : Nat) (M : Mt) (av : List Value) (I : Ii) (J : Jj) (K : KR) : Prop := Cal ω d M av I J (qR K)
theorem CalI.mono {av : List Value} {K K' : KI} (h : CalI ω d M av I J K) (hq : ∀ x I' J', K x I' J' → K' x I' J') : CalI ω d M av I J K' := Cal.mono h (fun r I' J' q => by obtain ⟨x, e, q⟩ := q; exact ⟨x, e, hq _ _ _ q⟩)
theorem CalL.mono {av : List Value} {K K' : KL} (h : CalL ω d M av I J K) (hq : ∀ x I' J', K x I' J' → K' x I' J') : CalL ω d M av I J K' := Cal.mono h (fun r I' J' q => by obtain ⟨x, e, q⟩ := q; exact ⟨x, e, hq _ _ _ q⟩)
theorem CalV.mono {av : List Value} {K K' : KV} (h : CalV ω d M av I J K) (hq : ∀ I' J', K I' J' → K' I' J') : CalV ω d M av I J K' := Cal.mono h (fun r I' J' q => ⟨q.1, hq _ _ q.2⟩)
theorem CalR.mono {av : List Value} {K K' : KR} (h : CalR ω d M av I J K) (hq : ∀ x I' J', K x I' J' → K' x I' J') : CalR ω d M av I J K' := Cal.mono h (fun r I' J' q => by obtain ⟨x, e, q⟩ := q; exact ⟨x, e, hq _ _ _ q⟩)
abbrev GoI (ω : Wl) (d : Nat) (M : Mt) (pc : Nat) (ls : List (Nat × Value)) (st : List Value) (I : Ii) (J : Jj) (K : KI) : Prop := Go ω d M pc ls st I J (qI K)
abbrev GoL (ω : Wl) (d : Nat) (M : Mt) (pc : Nat) (ls : List (Nat × Value)) (st : List Value) (I : Ii) (J : Jj) (K : KL) : Prop := Go ω d M pc ls st I J (qL K)
abbrev GoV (ω : Wl) (d : Nat) (M : Mt) (pc : Nat) (ls : List (Nat × Value)) (st : List Value) (I : Ii) (J : Jj) (K : KV) : Prop := Go ω d M pc ls st I J (qV K)
abbrev GoR (ω : Wl) (d : Nat) (M : Mt) (pc : Nat) (ls : List (Nat × Value)) (st : List Value) (I : Ii) (J : Jj) (K : KR) : Prop := Go ω d M pc ls st I J (qR K)
variable {idx n o c : Nat} {M' : Mt} {As rest : List Value}
theorem g_callvI (hd : decode M.2.1 pc = .ok (.invokevirtual idx, 3)) (hl : z_Lk M.1.cls idx M') (hm : z_Md M' n) (hv : z_Mv M') (ho : z_Ob ω o c) (hc : z_R c = M'.1.cls) (hn : As.length = n) (hst : st = As.reverse ++ .ref o :: rest) (hsum : (rest.map fun v => v.category).sum ≤ 8)
    (h : CalI ω d M' (.ref o :: As) I J (fun x I' J' => Go ω (d + 1) M (pc + 3) ls (.int x :: rest) I' J' Q)) : Go ω (d + 1) M pc ls st I J Q := g_callv hd hl hm hv ho hc hn hst hsum h (fun r I' J' q => by obtain ⟨x, rfl, h2⟩ := q; exact h2)
theorem g_callvL (hd : decode M.2.1 pc = .ok (.invokevirtual idx, 3)) (hl : z_Lk M.1.cls idx M') (hm : z_Md M' n) (hv : z_Mv M') (ho : z_Ob ω o c) (hc : z_R c = M'.1.cls) (hn : As.length = n) (hst : st = As.reverse ++ .ref o :: rest) (hsum : (rest.map fun v => v.category).sum ≤ 8)
    (h : CalL ω d M' (.ref o :: As) I J (fun x I' J' => Go ω (d + 1) M (pc + 3) ls (.long x :: rest) I' J' Q)) : Go ω (d + 1) M pc ls st I J Q := g_callv hd hl hm hv ho hc hn hst hsum h (fun r I' J' q => by obtain ⟨x, rfl, h2⟩ := q; exact h2)
theorem g_callvR (hd : decode M.2.1 pc = .ok (.invokevirtual idx, 3)) (hl : z_Lk M.1.cls idx M') (hm : z_Md M' n) (hv : z_Mv M') (ho : z_Ob ω o c) (hc : z_R c = M'.1.cls) (hn : As.length = n) (hst : st = As.reverse ++ .ref o :: rest) (hsum : (rest.map fun v => v.category).sum ≤ 8)
    (h : CalR ω d M' (.ref o :: As) I J (fun x I' J' => Go ω (d + 1) M (pc + 3) ls (va_rf x :: rest) I' J' Q)) : Go ω (d + 1) M pc ls st I J Q := g_callv hd hl hm hv ho hc hn hst hsum h (fun r I' J' q => by obtain ⟨x, rfl, h2⟩ := q; exact h2)
theorem g_callvV (hd : decode M.2.1 pc = .ok (.invokevirtual idx, 3)) (hl : z_Lk M.1.cls idx M') (hm : z_Md M' n) (hv : z_Mv M') (ho : z_Ob ω o c) (hc : z_R c = M'.1.cls) (hn : As.length = n) (hst : st = As.reverse ++ .ref o :: rest) (hsum : (rest.map fun v => v.category).sum ≤ 8)
    (h : CalV ω d M' (.ref o :: As) I J (fun I' J' => Go ω (d + 1) M (pc + 3) ls rest I' J' Q)) : Go ω (d + 1) M pc ls st I J Q := g_callv hd hl hm hv ho hc hn hst hsum h (fun r I' J' q => by obtain ⟨rfl, h2⟩ := q; exact h2)
theorem g_callsI (hd : decode M.2.1 pc = .ok (.invokestatic idx, 3)) (hl : z_Lk M.1.cls idx M') (hm : z_Md M' n) (hv : Cond.static M'.1 ∈ z_Tg) (hn : As.length = n) (hst : st = As.reverse ++ rest) (hsum : (rest.map fun v => v.category).sum ≤ 8)
    (h : CalI ω d M' As I J (fun x I' J' => Go ω (d + 1) M (pc + 3) ls (.int x :: rest) I' J' Q)) : Go ω (d + 1) M pc ls st I J Q := g_calls hd hl hm hv hn hst hsum h (fun r I' J' q => by obtain ⟨x, rfl, h2⟩ := q; exact h2)
theorem g_callsL (hd : decode M.2.1 pc = .ok (.invokestatic idx, 3)) (hl : z_Lk M.1.cls idx M') (hm : z_Md M' n) (hv : Cond.static M'.1 ∈ z_Tg) (hn : As.length = n) (hst : st = As.reverse ++ rest) (hsum : (rest.map fun v => v.category).sum ≤ 8)
    (h : CalL ω d M' As I J (fun x I' J' => Go ω (d + 1) M (pc + 3) ls (.long x :: rest) I' J' Q)) : Go ω (d + 1) M pc ls st I J Q := g_calls hd hl hm hv hn hst hsum h (fun r I' J' q => by obtain ⟨x, rfl, h2⟩ := q; exact h2)
theorem g_callsR (hd : decode M.2.1 pc = .ok (.invokestatic idx, 3)) (hl : z_Lk M.1.cls idx M') (hm : z_Md M' n) (hv : Cond.static M'.1 ∈ z_Tg) (hn : As.length = n) (hst : st = As.reverse ++ rest) (hsum : (rest.map fun v => v.category).sum ≤ 8)
    (h : CalR ω d M' As I J (fun x I' J' => Go ω (d + 1) M (pc + 3) ls (va_rf x :: rest) I' J' Q)) : Go ω (d + 1) M pc ls st I J Q := g_calls hd hl hm hv hn hst hsum h (fun r I' J' q => by obtain ⟨x, rfl, h2⟩ := q; exact h2)
theorem g_callsV (hd : decode M.2.1 pc = .ok (.invokestatic idx, 3)) (hl : z_Lk M.1.cls idx M') (hm : z_Md M' n) (hv : Cond.static M'.1 ∈ z_Tg) (hn : As.length = n) (hst : st = As.reverse ++ rest) (hsum : (rest.map fun v => v.category).sum ≤ 8)
    (h : CalV ω d M' As I J (fun I' J' => Go ω (d + 1) M (pc + 3) ls rest I' J' Q)) : Go ω (d + 1) M pc ls st I J Q := g_calls hd hl hm hv hn hst hsum h (fun r I' J' q => by obtain ⟨rfl, h2⟩ := q; exact h2)
theorem narZ {v : Int32} (h : v = 0 ∨ v = 1) : narrow .boolean (.int v) = .int v := by rcases h with rfl | rfl <;> rfl
theorem lgc_lt (x y : Int64) : lg_cmp x y < 0 ↔ x < y := by
  unfold lg_cmp
  by_cases h1 : y < x
  · simp only [h1, if_true]
    exact ⟨fun h => absurd h (by decide), fun h => absurd h1 (Int64.not_lt.mpr (Int64.le_of_lt h))⟩
  · by_cases h2 : x = y
    · subst h2
      simp
    · simp only [h1, h2, if_false]
      exact ⟨fun _ => Int64.lt_of_le_of_ne (Int64.not_lt.mp h1) h2, fun _ => by decide⟩
theorem lgc_gt (x y : Int64) : 0 < lg_cmp x y ↔ y < x := by
  unfold lg_cmp
  by_cases h1 : y < x
  · simp only [h1, if_true]
    exact ⟨fun _ => trivial, fun _ => by decide⟩
  · by_cases h2 : x = y
    · subst h2
      simp
    · simp only [h1, h2, if_false]
      exact ⟨fun h => absurd h (by decide), fun h => h.elim⟩
theorem lgc_eq (x y : Int64) : lg_cmp x y = 0 ↔ x = y := by
  unfold lg_cmp
  by_cases h1 : y < x
  · simp only [h1, if_true]
    exact ⟨fun h => absurd h (by decide), fun h => by subst h; exact absurd h1 (by simp)⟩
  · by_cases h2 : x = y
    · subst h2
      simp
    · simp only [h1, h2, if_false]
      exact ⟨fun h => absurd h (by decide), fun h => h.elim⟩
theorem lgc_le (x y : Int64) : lg_cmp x y ≤ 0 ↔ x ≤ y := by
  have := lgc_gt x y
  rw [← Int32.not_lt, this, Int64.not_lt]
theorem lgc_ge (x y : Int64) : 0 ≤ lg_cmp x y ↔ y ≤ x := by
  have := lgc_lt x y
  rw [← Int32.not_lt, this, Int64.not_lt]
end ZT

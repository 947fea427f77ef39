/-! formulas: neutral codes (the reference's numbers), their value; the class's Formula.value -/
def iI (z : Int) : Int32 := Int32.ofInt z
def lI (z : Int) : Int64 := Int64.ofInt z
theorem iI_t {z : Int} (h1 : -2147483648 ≤ z) (h2 : z < 2147483648) : (iI z).toInt = z := Int32.toInt_ofInt_of_le h1 h2
theorem lI_t {z : Int} (h1 : -9223372036854775808 ≤ z) (h2 : z < 9223372036854775808) : (lI z).toInt = z := Int64.toInt_ofInt_of_le h1 h2
theorem iI_n (n : Nat) : iI (n : Int) = nI n := Int32.ofInt_eq_ofNat
theorem lI_n (n : Nat) : lI (n : Int) = lN n := Int64.ofInt_eq_ofNat
theorem i32_ext {x y : Int32} (h : x.toInt = y.toInt) : x = y := Int32.toInt_inj.mp h
theorem i64_ext {x y : Int64} (h : x.toInt = y.toInt) : x = y := Int64.toInt_inj.mp h
/-- numbers that stay small -/
def sm (z : Int) : Prop := -1000000 ≤ z ∧ z ≤ 1000000
theorem sm_t {z : Int} (h : sm z) : (iI z).toInt = z := iI_t (by have := h.1; omega) (by have := h.2; omega)
theorem iI_lt {a b : Int} (ha : sm a) (hb : sm b) : iI a < iI b ↔ a < b := by rw [Int32.lt_iff_toInt_lt, sm_t ha, sm_t hb]
theorem iI_le {a b : Int} (ha : sm a) (hb : sm b) : iI a ≤ iI b ↔ a ≤ b := by rw [Int32.le_iff_toInt_le, sm_t ha, sm_t hb]
theorem iI_eq {a b : Int} (ha : sm a) (hb : sm b) : iI a = iI b ↔ a = b := by rw [← Int32.toInt_inj, sm_t ha, sm_t hb]
def clp (z : Int) : Int := if 1000000 < z then 1000000 else if z < -1000000 then -1000000 else z
theorem clp_sm (z : Int) : sm (clp z) := by unfold clp sm; split <;> (try split) <;> omega
def fdv (a b : Int) : Int := if b = 0 then 0 else a.fdiv b
def jn (c : Nat) (a b : Int) : Int := match c with
  | 1 => clp (a + b)
  | 2 => clp (a - b)
  | 3 => clp (a * b)
  | 4 => fdv a b
  | 5 => if a < b then a else b
  | 6 => if b < a then a else b
  | 7 => if a < b then 1 else 0
  | 8 => if b < a then 1 else 0
  | 9 => if a = b then 1 else 0
  | 10 => a * b
  | _ => if 0 < a + b then 1 else 0
/-- the class's step for a code -/
def trc (c : Nat) : Int := if 1000 ≤ c then (c : Int) - 1000 else if c = 60 then -32 else if 40 ≤ c then 39 - (c : Int) else if c = 13 then 1 else if c = 12 then -31 else -19 - (c : Int)
def ev1 (σ : Nat → Int) (who c : Nat) (st : List Int) : List Int :=
  if 1000 ≤ c then ((c : Int) - 1000) :: st
  else if c = 60 then (match st with
    | a :: t => (if 0 ≤ a ∧ a < 8 ∧ bq who a.toNat = 1 then 1 else 0) :: t
    | [] => [])
  else if 40 ≤ c then σ (c - 40) :: st
  else if c = 13 then 1 :: st
  else if c = 12 then (match st with
    | a :: t => (1 - a) :: t
    | [] => [])
  else (match st with
    | b :: a :: t => jn c a b :: t
    | t => t)
def tc1 (c : Nat) (ts : List Bool) : Option (List Bool) :=
  if 1000 ≤ c then (if c ≤ 10999 then some (false :: ts) else none)
  else if c = 60 then (match ts with
    | false :: t => some (false :: t)
    | _ => none)
  else if 40 ≤ c then (if c < 52 then some (false :: ts) else none)
  else if c = 13 then some (true :: ts)
  else if c = 12 then (match ts with
    | true :: t => some (true :: t)
    | _ => none)
  else if 1 ≤ c ∧ c ≤ 6 then (match ts with
    | false :: false :: t => some (false :: t)
    | _ => none)
  else if 7 ≤ c ∧ c ≤ 9 then (match ts with
    | false :: false :: t => some (true :: t)
    | _ => none)
  else if 10 ≤ c ∧ c ≤ 11 then (match ts with
    | true :: true :: t => some (true :: t)
    | _ => none)
  else none
def evs (σ : Nat → Int) (who : Nat) (cs : List Nat) (st : List Int) : List Int := cs.foldl (fun st c => ev1 σ who c st) st
def tcs : List Nat → List Bool → Option (List Bool)
  | [], ts => some ts
  | c :: cs, ts => match tc1 c ts with
    | some t => if t.length ≤ 60 then tcs cs t else none
    | none => none
def okv (t : Bool) (v : Int) : Prop := if t then v = 0 ∨ v = 1 else sm v
def okst : List Bool → List Int → Prop
  | [], [] => True
  | t :: ts, v :: vs => okv t v ∧ okst ts vs
  | _, _ => False
theorem okst_len : ∀ {ts : List Bool} {st : List Int}, okst ts st → st.length = ts.length
  | [], [], _ => rfl
  | t :: ts, v :: vs, h => by simp [okst_len h.2]
theorem sm01 {v : Int} (h : v = 0 ∨ v = 1) : sm v := by unfold sm; omega
theorem okv_sm {t : Bool} {v : Int} (h : okv t v) : sm v := by
  cases t
  · exact h
  · exact sm01 h
theorem fdv_sm {a b : Int} (ha : sm a) (hb : sm b) : sm (fdv a b) := by
  unfold fdv
  by_cases h : b = 0
  · simp [h, sm]
  · simp only [h, if_false]
    unfold sm at ha hb ⊢
    have hq : (a.fdiv b).natAbs ≤ 1000000 := by
      rcases Int.lt_or_gt_of_ne h with hb0 | hb0
      · have e : a.fdiv b = (-a).fdiv (-b) := by rw [Int.neg_fdiv_neg]
        rw [e, Int.fdiv_eq_ediv_of_nonneg _ (by omega)]
        have l1 := Int.ediv_mul_le (-a) (b := -b) (by omega)
        have l2 := Int.lt_ediv_add_one_mul_self (-a) (b := -b) (by omega)
        have hn : 1 ≤ -b := by omega
        generalize (-a) / (-b) = q at l1 l2 ⊢
        generalize -b = n at l1 l2 hn
        have : q ≤ 1000000 := by
          rcases Int.lt_or_le 1000000 q with z | z
          · have : 1000001 * 1 ≤ q * n := Int.mul_le_mul (by omega) hn (by omega) (by omega)
            omega
          · exact z
        have : -1000000 ≤ q := by
          rcases Int.lt_or_le q (-1000000) with z | z
          · have : (q + 1) * n ≤ (-1000000) * 1 := by
              have := Int.mul_le_mul_of_nonneg_right (show q + 1 ≤ -1000000 by omega) (show 0 ≤ n by omega)
              have h3 : (-1000000 : Int) * n ≤ -1000000 * 1 := by omega
              omega
            omega
          · exact z
        omega
      · rw [Int.fdiv_eq_ediv_of_nonneg _ (by omega)]
        have l1 := Int.ediv_mul_le a (b := b) (by omega)
        have l2 := Int.lt_ediv_add_one_mul_self a (b := b) (by omega)
        have hn : 1 ≤ b := by omega
        generalize a / b = q at l1 l2 ⊢
        have : q ≤ 1000000 := by
          rcases Int.lt_or_le 1000000 q with z | z
          · have : 1000001 * 1 ≤ q * b := Int.mul_le_mul (by omega) hn (by omega) (by omega)
            omega
          · exact z
        have : -1000000 ≤ q := by
          rcases Int.lt_or_le q (-1000000) with z | z
          · have : (q + 1) * b ≤ (-1000000) * b := Int.mul_le_mul_of_nonneg_right (show q + 1 ≤ -1000000 by omega) (show 0 ≤ b by omega)
            omega
          · exact z
        omega
    omega
theorem ev_ok {σ : Nat → Int} {who c : Nat} {ts ts' : List Bool} {st : List Int} (hσ : ∀ k, k < 12 → sm (σ k)) (h : okst ts st) (hc : tc1 c ts = some ts') : okst ts' (ev1 σ who c st) := by
  unfold tc1 at hc
  unfold ev1
  split at hc
  · next h1 =>
    simp only [h1, if_true]
    split at hc
    · next h2 => cases hc; refine ⟨?_, h⟩; show sm _; unfold sm; omega
    · cases hc
  · next h1 =>
    simp only [h1, if_false]
    split at hc
    · next h2 =>
      simp only [h2, if_true]
      match ts, st, h with
      | false :: t, v :: vs, h =>
        cases hc
        refine ⟨?_, h.2⟩
        show sm _
        split <;> (unfold sm; omega)
      | true :: t, v :: vs, h => cases hc
      | [], [], h => cases hc
    · next h2 =>
      simp only [h2, if_false]
      split at hc
      · next h3 =>
        simp only [h3, if_true]
        split at hc
        · next h4 => cases hc; exact ⟨hσ _ (by omega), h⟩
        · cases hc
      · next h3 =>
        simp only [h3, if_false]
        split at hc
        · next h4 => simp only [h4, if_true]; cases hc; exact ⟨Or.inr rfl, h⟩
        · next h4 =>
          simp only [h4, if_false]
          split at hc
          · next h5 =>
            simp only [h5, if_true]
            match ts, st, h with
            | true :: t, v :: vs, h =>
              cases hc
              refine ⟨?_, h.2⟩
              have h6 : v = 0 ∨ v = 1 := h.1
              show 1 - v = 0 ∨ 1 - v = 1
              omega
            | false :: t, v :: vs, h => cases hc
            | [], [], h => cases hc
          · next h5 =>
            simp only [h5, if_false]
            split at hc
            · next h6 =>
              match ts, st, h with
              | false :: false :: t, b :: a :: vs, h =>
                cases hc
                refine ⟨?_, h.2.2⟩
                have hb : sm b := h.1
                have ha : sm a := h.2.1
                show sm (jn c a b)
                rcases (show c = 1 ∨ c = 2 ∨ c = 3 ∨ c = 4 ∨ c = 5 ∨ c = 6 by omega) with rfl | rfl | rfl | rfl | rfl | rfl
                · exact clp_sm _
                · exact clp_sm _
                · exact clp_sm _
                · exact fdv_sm ha hb
                · show sm (if a < b then a else b); split <;> assumption
                · show sm (if b < a then a else b); split <;> assumption
              | true :: t, v :: vs, h => cases hc
              | false :: true :: t, b :: a :: vs, h => cases hc
              | [false], [v], h => cases hc
              | [], [], h => cases hc
            · next h6 =>
              split at hc
              · next h7 =>
                match ts, st, h with
                | false :: false :: t, b :: a :: vs, h =>
                  cases hc
                  refine ⟨?_, h.2.2⟩
                  show jn c a b = 0 ∨ jn c a b = 1
                  rcases (show c = 7 ∨ c = 8 ∨ c = 9 by omega) with rfl | rfl | rfl
                  · show (if a < b then (1 : Int) else 0) = 0 ∨ _; split <;> simp [jn, *]
                  · show (if b < a then (1 : Int) else 0) = 0 ∨ _; split <;> simp [jn, *]
                  · show (if a = b then (1 : Int) else 0) = 0 ∨ _; split <;> simp [jn, *]
                | true :: t, v :: vs, h => cases hc
                | false :: true :: t, b :: a :: vs, h => cases hc
                | [false], [v], h => cases hc
                | [], [], h => cases hc
              · next h7 =>
                split at hc
                · next h8 =>
                  match ts, st, h with
                  | true :: true :: t, b :: a :: vs, h =>
                    cases hc
                    refine ⟨?_, h.2.2⟩
                    have hb : b = 0 ∨ b = 1 := h.1
                    have ha : a = 0 ∨ a = 1 := h.2.1
                    show jn c a b = 0 ∨ jn c a b = 1
                    rcases (show c = 10 ∨ c = 11 by omega) with rfl | rfl
                    · rcases ha with rfl | rfl <;> rcases hb with rfl | rfl <;> simp [jn]
                    · rcases ha with rfl | rfl <;> rcases hb with rfl | rfl <;> simp [jn]
                  | false :: t, v :: vs, h => cases hc
                  | true :: false :: t, b :: a :: vs, h => cases hc
                  | [true], [v], h => cases hc
                  | [], [], h => cases hc
                · cases hc

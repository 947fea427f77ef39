/-! a pile of waiting signs comes to what the grammar says: sums -/
def epT : List Nat → List Nat
  | [] => []
  | x :: t => if x = 60 then epT t else x :: t
def epN : List Nat → Nat
  | [] => 0
  | x :: t => if x = 60 then epN t + 1 else 0
def isK (x : Nat) : Bool := decide (20 ≤ x ∧ x ≤ 24)
def brk : List Nat → Nat
  | [] => 0
  | x :: t => if isK x then x else brk t
def abv : List Nat → List Nat
  | [] => []
  | x :: t => if isK x then [] else x :: abv t
def blw : List Nat → List Nat
  | [] => []
  | x :: t => if isK x then t else blw t
def tw (p : Nat → Bool) : List Nat → List Nat
  | [] => []
  | x :: t => if p x then x :: tw p t else []
def dw (p : Nat → Bool) : List Nat → List Nat
  | [] => []
  | x :: t => if p x then dw p t else x :: t
def p34 (x : Nat) : Bool := decide (x = 3 ∨ x = 4)
def p14 (x : Nat) : Bool := decide (1 ≤ x ∧ x ≤ 4)
abbrev Mc : Type := Nat → List Nat → List Nat → Nat → Prop
section YB
variable (g : Sx) (sco : Nat) (PT GO : Mc) (FT : Nat → Nat → Prop) (EN : Nat → List Nat → Prop)
def GE : Mc := fun q C T o => GO q (C ++ List.replicate (epN T) 60) (epT T) (o - epN T)
def GOP : Mc := fun q C T o =>
  if tk g q = 41 ∧ (brk T = 20 ∨ brk T = 23 ∨ brk T = 24) then GE GO (adv g q) (C ++ abv T ++ (if brk T = 20 then [] else if brk T = 23 then [5] else [6])) (blw T) (o - 1)
  else if opP g q ≠ 0 then PT (adv g q) (C ++ tw p34 T) (opP g q :: dw p34 T) o
  else if opS g q ≠ 0 then PT (adv g q) (C ++ tw p14 T) (opS g q :: dw p14 T) o
  else if brk T = 21 ∨ brk T = 22 then (if tk g q = 44 then PT (adv g q) (C ++ abv T) ((brk T + 2) :: blw T) o else FT 1 q)
  else if brk T ≠ 0 then FT 1 q else EN q (C ++ T)
def PTP : Mc := fun q C T o =>
  if tk g q = 40 then (if o = 6 then FT 4 q else PT (adv g q) C (20 :: T) (o + 1))
  else if wd g q = 14 ∨ wd g q = 15 then (if tk g (adv g q) = 40 then (if o = 6 then FT 4 (adv g q) else PT (adv g (adv g q)) C ((if wd g q = 14 then 21 else 22) :: T) (o + 1)) else FT 1 (adv g q))
  else if wd g q = 3 ∧ sco = 4 then (if o = 6 then FT 4 q else PT (adv g q) C (60 :: T) (o + 1))
  else if alw sco (wd g q) then GE GO (adv g q) (C ++ [24 + wd g q]) T o
  else if (nmf g 0 9999 q).1 = 0 then GE GO (adv g q) (C ++ [1000 + tvl g q]) T o
  else FT (nmf g 0 9999 q).1 (nmf g 0 9999 q).2
end YB
section YC
variable {g : Sx} {sco : Nat} {PT GO : Mc} {FT : Nat → Nat → Prop} {EN : Nat → List Nat → Prop}
theorem GOP_34 {q o x : Nat} {C T : List Nat} (hx : x = 3 ∨ x = 4) (h0 : opP g q = 0) (h : GOP g PT GO FT EN q (C ++ [x]) T o) : GOP g PT GO FT EN q C (x :: T) o := by
  have hk : isK x = false := by unfold isK; exact decide_eq_false (by omega)
  have h14 : p14 x = true := by unfold p14; exact decide_eq_true (by omega)
  have eb : brk (x :: T) = brk T := by simp [brk, hk]
  have ea : abv (x :: T) = x :: abv T := by simp [abv, hk]
  have ew : blw (x :: T) = blw T := by simp [blw, hk]
  have et : tw p14 (x :: T) = x :: tw p14 T := by simp [tw, h14]
  have ed : dw p14 (x :: T) = dw p14 T := by simp [dw, h14]
  unfold GOP at h ⊢
  rw [eb, ea, ew, et, ed]
  simp only [h0, ne_eq, not_true_eq_false, if_false] at h ⊢
  simpa using h
theorem GOP_12 {q o x : Nat} {C T : List Nat} (hx : x = 1 ∨ x = 2) (h0 : opP g q = 0) (h1 : opS g q = 0) (h : GOP g PT GO FT EN q (C ++ [x]) T o) : GOP g PT GO FT EN q C (x :: T) o := by
  have hk : isK x = false := by unfold isK; exact decide_eq_false (by omega)
  have eb : brk (x :: T) = brk T := by simp [brk, hk]
  have ea : abv (x :: T) = x :: abv T := by simp [abv, hk]
  have ew : blw (x :: T) = blw T := by simp [blw, hk]
  unfold GOP at h ⊢
  rw [eb, ea, ew]
  simp only [h0, h1, ne_eq, not_true_eq_false, if_false] at h ⊢
  simpa using h
def GPe (g : Sx) (PT GO : Mc) (FT : Nat → Nat → Prop) (EN : Nat → List Nat → Prop) : Mc := fun q C T o => GOP g PT GO FT EN q (C ++ List.replicate (epN T) 60) (epT T) (o - epN T)
theorem GPe_GE {q o : Nat} {C T : List Nat} (hG : ∀ q C T o, GOP g PT GO FT EN q C T o → GO q C T o) (h : GPe g PT GO FT EN q C T o) : GE GO q C T o := hG _ _ _ _ h
theorem GPe_n {q o x : Nat} {C T : List Nat} (hx : x ≠ 60) : GPe g PT GO FT EN q C (x :: T) o ↔ GOP g PT GO FT EN q C (x :: T) o := by
  unfold GPe
  simp [epN, epT, hx]
theorem GPe_0 {q o : Nat} {C : List Nat} : GPe g PT GO FT EN q C [] o ↔ GOP g PT GO FT EN q C [] o := by
  unfold GPe
  simp [epN, epT]
theorem GPe_60 {q o : Nat} {C T : List Nat} : GPe g PT GO FT EN q C (60 :: T) (o + 1) ↔ GPe g PT GO FT EN q (C ++ [60]) T o := by
  unfold GPe
  simp only [epN, epT, if_true]
  rw [List.replicate_succ, show o + 1 - (epN T + 1) = o - epN T by omega]
  simp
/-- a part's contract -/
def Bp (g : Sx) (PT GO : Mc) (FT : Nat → Nat → Prop) (EN : Nat → List Nat → Prop) (p : Nat → Res) (o : Nat) : Prop := ∀ q C T, q ≤ g 0 0 → ((p q).1 = 0 → GPe g PT GO FT EN (p q).2.1 (C ++ (p q).2.2) T o) → ((p q).1 ≠ 0 → FT (p q).1 (p q).2.1) → PT q C T o
def ntop (p : Nat → Bool) (T : List Nat) : Prop := match T with
  | [] => True
  | x :: _ => p x = false
theorem tw_n {p : Nat → Bool} {T : List Nat} (h : ntop p T) : tw p T = [] ∧ dw p T = T := by
  cases T with
  | nil => exact ⟨rfl, rfl⟩
  | cons x t => have h : p x = false := h; simp [tw, dw, h]
def pT (x : Nat) : Bool := decide (x = 3 ∨ x = 4 ∨ x = 60)
def pU (x : Nat) : Bool := decide ((1 ≤ x ∧ x ≤ 4) ∨ x = 60)
theorem GPe_T {q o : Nat} {C T : List Nat} (h : ntop (fun x => decide (x = 60)) T) : GPe g PT GO FT EN q C T o ↔ GOP g PT GO FT EN q C T o := by
  cases T with
  | nil => exact GPe_0
  | cons x t => have h : decide (x = 60) = false := h; exact GPe_n (by simpa using h)
/-- products -/
theorem B_prod {p : Nat → Res} {o : Nat} (h16 : g 0 0 ≤ 1600) (hp : Bp g PT GO FT EN p o) (hGd : Gd g p) (q : Nat) (C T : List Nat) (hq : q ≤ g 0 0) (hT : ntop pT T)
    (h1 : (rLp g p (opP g) q).1 = 0 → opP g (rLp g p (opP g) q).2.1 = 0 → GOP g PT GO FT EN (rLp g p (opP g) q).2.1 (C ++ (rLp g p (opP g) q).2.2) T o) (h0 : (rLp g p (opP g) q).1 ≠ 0 → FT (rLp g p (opP g) q).1 (rLp g p (opP g) q).2.1) : PT q C T o := by
  have hT60 : ntop (fun x => decide (x = 60)) T := by
    cases T with
    | nil => trivial
    | cons x t =>
      have hT : pT x = false := hT
      show decide (x = 60) = false
      unfold pT at hT
      simp only [decide_eq_false_iff_not] at hT ⊢
      omega
  have hT34 : ntop p34 T := by
    cases T with
    | nil => trivial
    | cons x t =>
      have hT : pT x = false := hT
      show p34 x = false
      unfold pT at hT
      unfold p34
      simp only [decide_eq_false_iff_not] at hT ⊢
      omega
  have key : ∀ f (r : Res) (C' pend : List Nat), r.1 = 0 → r.2.1 ≤ g 0 0 → g 0 0 ≤ r.2.1 + f → (pend = [] ∨ pend = [3] ∨ pend = [4]) → C' ++ pend = C ++ r.2.2 →
      ((pLoop g p (opP g) f r).1 = 0 → opP g (pLoop g p (opP g) f r).2.1 = 0 → GOP g PT GO FT EN (pLoop g p (opP g) f r).2.1 (C ++ (pLoop g p (opP g) f r).2.2) T o) → ((pLoop g p (opP g) f r).1 ≠ 0 → FT (pLoop g p (opP g) f r).1 (pLoop g p (opP g) f r).2.1) → GOP g PT GO FT EN r.2.1 C' (pend ++ T) o := by
    intro f
    induction f with
    | zero =>
      intro r C' pend hr hle hf hpe hC k1 k0
      have e0 : opP g r.2.1 = 0 := by
        rcases Nat.eq_zero_or_pos (opP g r.2.1) with z | z
        · exact z
        · exact absurd (opP_lt (g := g) (q := r.2.1) (by omega)) (by omega)
      have := k1 hr e0
      simp only [pLoop] at this
      rw [← hC] at this
      rcases hpe with rfl | rfl | rfl
      · simpa using this
      · exact GOP_34 (Or.inl rfl) e0 this
      · exact GOP_34 (Or.inr rfl) e0 this
    | succ f ih =>
      intro r C' pend hr hle hf hpe hC k1 k0
      by_cases e0 : opP g r.2.1 = 0
      · have el : pLoop g p (opP g) (f + 1) r = r := by simp only [pLoop]; rw [if_neg (fun z => z.2 e0)]
        rw [el] at k1
        have := k1 hr e0
        rw [← hC] at this
        rcases hpe with rfl | rfl | rfl
        · simpa using this
        · exact GOP_34 (Or.inl rfl) e0 this
        · exact GOP_34 (Or.inr rfl) e0 this
      · have el : pLoop g p (opP g) (f + 1) r = pLoop g p (opP g) f ((p (adv g r.2.1)).1, (p (adv g r.2.1)).2.1, r.2.2 ++ (p (adv g r.2.1)).2.2 ++ [opP g r.2.1]) := by
          show (if r.1 = 0 ∧ opP g r.2.1 ≠ 0 then _ else r) = _
          rw [if_pos ⟨hr, e0⟩]
        rw [el] at k1 k0
        have hlt := opP_lt e0
        have ha := adv_le (g := g) (q := r.2.1) (by omega)
        have h41 : ¬ tk g r.2.1 = 41 := fun z => e0 (by simp [opP, z])
        have etw : tw p34 (pend ++ T) = pend ∧ dw p34 (pend ++ T) = T := by
          have := tw_n hT34
          rcases hpe with rfl | rfl | rfl
          · simpa using this
          · simp [tw, dw, p34, this.1, this.2]
          · simp [tw, dw, p34, this.1, this.2]
        have hop : opP g r.2.1 = 3 ∨ opP g r.2.1 = 4 := by
          unfold opP at e0 ⊢
          split
          · exact Or.inl rfl
          · next z1 =>
            rw [if_neg z1] at e0
            split
            · exact Or.inr rfl
            · next z2 => rw [if_neg z2] at e0; exact absurd rfl e0
        unfold GOP
        rw [if_neg (fun z => h41 z.1), if_pos e0, etw.1, etw.2, hC]
        refine hp (adv g r.2.1) _ _ ha.1 (fun z => ?_) (fun z => ?_)
        · have hgd := hGd (adv g r.2.1) ha.1 z
          rw [GPe_n (by omega)]
          have := ih ((p (adv g r.2.1)).1, (p (adv g r.2.1)).2.1, r.2.2 ++ (p (adv g r.2.1)).2.2 ++ [opP g r.2.1]) (C ++ r.2.2 ++ (p (adv g r.2.1)).2.2) [opP g r.2.1] z hgd.2 (by have := ha.2.2 hlt; simp only; omega) (by rcases hop with y | y <;> simp [y]) (by simp) k1 k0
          exact this
        · rw [pLoop_f (by exact z)] at k0
          exact k0 z
  refine hp q C T hq (fun z => ?_) (fun z => ?_)
  · rw [GPe_T hT60]
    have hgd := hGd q hq z
    have := key 1600 (p q) (C ++ (p q).2.2) [] z hgd.2 (by omega) (Or.inl rfl) (by simp) h1 h0
    simpa using this
  · have el : rLp g p (opP g) q = p q := by unfold rLp; exact pLoop_f z
    rw [el] at h0
    exact h0 z
/-- sums -/
theorem B_sum {p : Nat → Res} {o : Nat} (h16 : g 0 0 ≤ 1600) (hp : Bp g PT GO FT EN p o) (hGd : Gd g p) (q : Nat) (C T : List Nat) (hq : q ≤ g 0 0) (hT : ntop pU T)
    (h1 : (pSumL g p q).1 = 0 → opP g (pSumL g p q).2.1 = 0 → opS g (pSumL g p q).2.1 = 0 → GOP g PT GO FT EN (pSumL g p q).2.1 (C ++ (pSumL g p q).2.2) T o) (h0 : (pSumL g p q).1 ≠ 0 → FT (pSumL g p q).1 (pSumL g p q).2.1) : PT q C T o := by
  have hTT : ntop pT T := by
    cases T with
    | nil => trivial
    | cons x t =>
      have hT : pU x = false := hT
      show pT x = false
      unfold pU at hT
      unfold pT
      simp only [decide_eq_false_iff_not] at hT ⊢
      omega
  have hT14 : ntop p14 T := by
    cases T with
    | nil => trivial
    | cons x t =>
      have hT : pU x = false := hT
      show p14 x = false
      unfold pU at hT
      unfold p14
      simp only [decide_eq_false_iff_not] at hT ⊢
      omega
  have hGp : Gd g (rLp g p (opP g)) := Gd_rLp hGd (fun _ => opP_lt)
  generalize hpp : rLp g p (opP g) = pp at *
  have hpr : ∀ (q : Nat) (C T : List Nat), q ≤ g 0 0 → ntop pT T → ((pp q).1 = 0 → opP g (pp q).2.1 = 0 → GOP g PT GO FT EN (pp q).2.1 (C ++ (pp q).2.2) T o) → ((pp q).1 ≠ 0 → FT (pp q).1 (pp q).2.1) → PT q C T o := by
    intro q C T hq hT k1 k0
    rw [← hpp] at k1 k0
    exact B_prod h16 hp hGd q C T hq hT k1 k0
  have eS : pSumL g p q = rLp g pp (opS g) q := by rw [← hpp]; rfl
  rw [eS] at h1 h0
  have key : ∀ f (r : Res) (C' pend : List Nat), r.1 = 0 → opP g r.2.1 = 0 → r.2.1 ≤ g 0 0 → g 0 0 ≤ r.2.1 + f → (pend = [] ∨ pend = [1] ∨ pend = [2]) → C' ++ pend = C ++ r.2.2 →
      ((pLoop g pp (opS g) f r).1 = 0 → opP g (pLoop g pp (opS g) f r).2.1 = 0 → opS g (pLoop g pp (opS g) f r).2.1 = 0 → GOP g PT GO FT EN (pLoop g pp (opS g) f r).2.1 (C ++ (pLoop g pp (opS g) f r).2.2) T o) → ((pLoop g pp (opS g) f r).1 ≠ 0 → FT (pLoop g pp (opS g) f r).1 (pLoop g pp (opS g) f r).2.1) → GOP g PT GO FT EN r.2.1 C' (pend ++ T) o := by
    intro f
    induction f with
    | zero =>
      intro r C' pend hr hP0 hle hf hpe hC k1 k0
      have e0 : opS g r.2.1 = 0 := by
        rcases Nat.eq_zero_or_pos (opS g r.2.1) with z | z
        · exact z
        · exact absurd (opS_lt (g := g) (q := r.2.1) (by omega)) (by omega)
      have := k1 hr hP0 e0
      simp only [pLoop] at this
      rw [← hC] at this
      rcases hpe with rfl | rfl | rfl
      · simpa using this
      · exact GOP_12 (Or.inl rfl) hP0 e0 this
      · exact GOP_12 (Or.inr rfl) hP0 e0 this
    | succ f ih =>
      intro r C' pend hr hP0 hle hf hpe hC k1 k0
      by_cases e0 : opS g r.2.1 = 0
      · have el : pLoop g pp (opS g) (f + 1) r = r := by simp only [pLoop]; rw [if_neg (fun z => z.2 e0)]
        rw [el] at k1
        have := k1 hr hP0 e0
        rw [← hC] at this
        rcases hpe with rfl | rfl | rfl
        · simpa using this
        · exact GOP_12 (Or.inl rfl) hP0 e0 this
        · exact GOP_12 (Or.inr rfl) hP0 e0 this
      · have el : pLoop g pp (opS g) (f + 1) r = pLoop g pp (opS g) f ((pp (adv g r.2.1)).1, (pp (adv g r.2.1)).2.1, r.2.2 ++ (pp (adv g r.2.1)).2.2 ++ [opS g r.2.1]) := by
          show (if r.1 = 0 ∧ opS g r.2.1 ≠ 0 then _ else r) = _
          rw [if_pos ⟨hr, e0⟩]
        rw [el] at k1 k0
        have hlt := opS_lt e0
        have ha := adv_le (g := g) (q := r.2.1) (by omega)
        have h41 : ¬ tk g r.2.1 = 41 := fun z => e0 (by simp [opS, z])
        have etw : tw p14 (pend ++ T) = pend ∧ dw p14 (pend ++ T) = T := by
          have := tw_n hT14
          rcases hpe with rfl | rfl | rfl
          · simpa using this
          · simp [tw, dw, p14, this.1, this.2]
          · simp [tw, dw, p14, this.1, this.2]
        have hop : opS g r.2.1 = 1 ∨ opS g r.2.1 = 2 := by
          unfold opS at e0 ⊢
          split
          · exact Or.inl rfl
          · next z1 =>
            rw [if_neg z1] at e0
            split
            · exact Or.inr rfl
            · next z2 => rw [if_neg z2] at e0; exact absurd rfl e0
        unfold GOP
        rw [if_neg (fun z => h41 z.1), if_neg (fun z => z hP0), if_pos e0, etw.1, etw.2, hC]
        refine hpr (adv g r.2.1) _ _ ha.1 (by show pT (opS g r.2.1) = false; unfold pT; rcases hop with y | y <;> rw [y] <;> decide) (fun z zP => ?_) (fun z => ?_)
        · have hgd := hGp (adv g r.2.1) ha.1 z
          have := ih ((pp (adv g r.2.1)).1, (pp (adv g r.2.1)).2.1, r.2.2 ++ (pp (adv g r.2.1)).2.2 ++ [opS g r.2.1]) (C ++ r.2.2 ++ (pp (adv g r.2.1)).2.2) [opS g r.2.1] z zP hgd.2 (by have := ha.2.2 hlt; simp only; omega) (by rcases hop with y | y <;> simp [y]) (by simp) k1 k0
          exact this
        · rw [pLoop_f (by exact z)] at k0
          exact k0 z
  refine hpr q C T hq hTT (fun z zP => ?_) (fun z => ?_)
  · have hgd := hGp q hq z
    have := key 1600 (pp q) (C ++ (pp q).2.2) [] z zP hgd.2 (by omega) (Or.inl rfl) (by simp) h1 h0
    simpa using this
  · have el : rLp g pp (opS g) q = pp q := by unfold rLp; exact pLoop_f z
    rw [el] at h0
    exact h0 z
/-- what a bracket's inside must come to -/
theorem B_in {p : Nat → Res} {o b : Nat} {q : Nat} {C T : List Nat} (h16 : g 0 0 ≤ 1600) (hp : Bp g PT GO FT EN p o) (hGd : Gd g p) (hq : q ≤ g 0 0) (hb : 20 ≤ b ∧ b ≤ 24)
    (h1 : (pSumL g p q).1 = 0 → opP g (pSumL g p q).2.1 = 0 → opS g (pSumL g p q).2.1 = 0 → GOP g PT GO FT EN (pSumL g p q).2.1 (C ++ (pSumL g p q).2.2) (b :: T) o) (h0 : (pSumL g p q).1 ≠ 0 → FT (pSumL g p q).1 (pSumL g p q).2.1) : PT q C (b :: T) o :=
  B_sum h16 hp hGd q C (b :: T) hq (by show pU b = false; unfold pU; exact decide_eq_false (by omega)) h1 h0
end YC

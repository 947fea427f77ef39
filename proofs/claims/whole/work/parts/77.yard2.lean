/-! a pile of waiting signs: parts; tests -/
section YD
variable {g : Sx} {sco : Nat} {PT GO : Mc} {FT : Nat → Nat → Prop} {EN : Nat → List Nat → Prop}
theorem brk_c {b : Nat} {T : List Nat} (hb : 20 ≤ b ∧ b ≤ 24) : brk (b :: T) = b ∧ abv (b :: T) = [] ∧ blw (b :: T) = T := by
  have hk : isK b = true := by unfold isK; exact decide_eq_true hb
  simp [brk, abv, blw, hk]
theorem wd_t {q w : Nat} (h : wd g q = w) (hw : w < 34) : tk g q = 256 := by
  unfold wd at h
  split at h
  · assumption
  · omega
theorem nmf_p {q : Nat} : nmf g 0 9999 q = if tk g q = 257 then (if tsp g q - q ≤ 4 then (0, 0) else (1, q + 4)) else (1, q) := by
  unfold nmf
  have := tvl_lt (g := g) q
  split
  · split
    · rw [if_pos (by omega)]
    · rfl
  · rfl
/-- inside a bracket b, and what closes it -/
theorem B_close {p : Nat → Res} {o b : Nat} {q : Nat} {C T : List Nat} (h16 : g 0 0 ≤ 1600) (hG : ∀ q C T o, GOP g PT GO FT EN q C T o → GO q C T o) (hp : Bp g PT GO FT EN p (o + 1)) (hGd : Gd g p) (hq : q ≤ g 0 0) (hb : b = 20 ∨ b = 23 ∨ b = 24) {cd : List Nat} (hcd : cd = if b = 20 then [] else if b = 23 then [5] else [6])
    (h1 : (xSg g 41 (pSumL g p q)).1 = 0 → GPe g PT GO FT EN (xSg g 41 (pSumL g p q)).2.1 (C ++ (xSg g 41 (pSumL g p q)).2.2 ++ cd) T o) (h0 : (xSg g 41 (pSumL g p q)).1 ≠ 0 → FT (xSg g 41 (pSumL g p q)).1 (xSg g 41 (pSumL g p q)).2.1) : PT q C (b :: T) (o + 1) := by
  obtain ⟨eb, ea, ew⟩ := brk_c (b := b) (T := T) (by omega)
  refine B_in h16 hp hGd hq (by omega) (fun z zP zS => ?_) (fun z => ?_)
  · unfold xSg at h1 h0
    rw [if_pos z] at h1 h0
    unfold GOP
    rw [eb, ea, ew]
    by_cases z41 : tk g (pSumL g p q).2.1 = 41
    · rw [if_pos z41] at h1 h0
      rw [if_pos ⟨z41, hb⟩, List.append_nil, ← hcd]
      exact GPe_GE hG (h1 rfl)
    · rw [if_neg z41] at h1 h0
      rw [if_neg (fun y => z41 y.1), if_neg (fun y => y zP), if_neg (fun y => y zS), if_neg (by omega), if_pos (by omega)]
      exact h0 (by simp)
  · have e : xSg g 41 (pSumL g p q) = pSumL g p q := by unfold xSg; rw [if_neg z]
    rw [e] at h0
    exact h0 z
theorem xTh_op {m q : Nat} {p : Nat → Res} (hm : m ≠ 0) : xTh (xOp g m q) p = p (adv g q) := by
  unfold xOp
  rw [if_neg hm]
  unfold xTh
  rw [if_pos rfl]
  simp
theorem B_part (h16 : g 0 0 ≤ 1600) (hP : ∀ q C T o, PTP g sco PT GO FT q C T o → PT q C T o) (hG : ∀ q C T o, GOP g PT GO FT EN q C T o → GO q C T o) : ∀ m o, o + m = 6 → Bp g PT GO FT EN (pPart g sco m) o := by
  have step : ∀ m o (rs rp : Nat → Res), o + m = 6 → (m ≠ 0 → ∃ p, Bp g PT GO FT EN p (o + 1) ∧ Gd g p ∧ rs = pSumL g p ∧ rp = p) → Bp g PT GO FT EN (pPartF g sco rs rp m) o := by
    intro m o rs rp hom hrec q C T hq k1 k0
    refine hP q C T o ?_
    unfold PTP
    by_cases t40 : tk g q = 40
    · rw [if_pos t40]
      have ep : pPartF g sco rs rp m q = xSg g 41 (xTh (xOp g m q) rs) := by unfold pPartF; rw [if_neg (by omega), if_pos t40]
      rw [ep] at k1 k0
      by_cases m0 : m = 0
      · rw [if_pos (by omega)]
        have e4 : xSg g 41 (xTh (xOp g m q) rs) = (4, q, []) := by subst m0; simp [xOp, xTh, xSg]
        rw [e4] at k0
        exact k0 (by simp)
      · rw [if_neg (by omega)]
        obtain ⟨p, hp, hGd, rfl, -⟩ := hrec m0
        rw [xTh_op m0] at k1 k0
        exact B_close h16 hG hp hGd (adv_le hq).1 (Or.inl rfl) (cd := []) rfl (by simpa using k1) k0
    rw [if_neg t40]
    by_cases w1 : wd g q = 14 ∨ wd g q = 15
    · rw [if_pos w1]
      have ht : tk g q = 256 := by rcases w1 with y | y <;> exact wd_t y (by omega)
      have ha := adv_le (g := g) (q := q) hq
      have ep : pPartF g sco rs rp m q = pPair g rs m (if wd g q = 14 then 5 else 6) (adv g q) := by
        unfold pPartF
        rw [if_neg (by omega), if_neg t40]
        rcases w1 with y | y
        · rw [if_pos y, if_pos y]
        · rw [if_neg (by omega), if_pos y, if_neg (by omega)]
      rw [ep] at k1 k0
      unfold pPair at k1 k0
      by_cases t2 : tk g (adv g q) = 40
      · rw [if_pos t2] at k1 k0 ⊢
        by_cases m0 : m = 0
        · rw [if_pos (by omega)]
          have e4 : ∀ c, xCd c (xSg g 41 (xTh (xSg g 44 (xTh (xOp g m (adv g q)) rs)) rs)) = (4, adv g q, [c]) := fun c => by subst m0; simp [xOp, xTh, xSg, xCd]
          rw [e4] at k0
          exact k0 (by simp)
        · rw [if_neg (by omega)]
          obtain ⟨p, hp, hGd, rfl, -⟩ := hrec m0
          rw [xTh_op m0] at k1 k0
          generalize hb : (if wd g q = 14 then 21 else 22) = b
          have hb2 : (b = 21 ∧ (if wd g q = 14 then 5 else 6) = 5) ∨ (b = 22 ∧ (if wd g q = 14 then 5 else 6) = 6) := by
            rw [← hb]
            rcases w1 with y | y
            · left; rw [if_pos y, if_pos y]; exact ⟨rfl, rfl⟩
            · right; rw [if_neg (by omega), if_neg (by omega)]; exact ⟨rfl, rfl⟩
          generalize (if wd g q = 14 then 5 else 6) = c at *
          have ha2 := adv_le (g := g) (q := adv g q) ha.1
          refine B_in h16 hp hGd ha2.1 (by omega) (fun z zP zS => ?_) (fun z => ?_)
          · have hgs := Gd_sumL hGd (adv g (adv g q)) ha2.1 z
            obtain ⟨eb, ea, ew⟩ := brk_c (b := b) (T := T) (by omega)
            unfold GOP
            rw [eb, ea, ew, if_neg (fun y => by omega), if_neg (fun y => y zP), if_neg (fun y => y zS), if_pos (by omega)]
            by_cases t44 : tk g (pSumL g p (adv g (adv g q))).2.1 = 44
            · rw [if_pos t44]
              have e1 : xSg g 44 (pSumL g p (adv g (adv g q))) = (0, adv g (pSumL g p (adv g (adv g q))).2.1, (pSumL g p (adv g (adv g q))).2.2) := by
                unfold xSg; rw [if_pos z, if_pos t44]
              rw [e1] at k1 k0
              generalize hq2 : (pSumL g p (adv g (adv g q))).2.1 = q2 at *
              generalize hc2 : (pSumL g p (adv g (adv g q))).2.2 = c2 at *
              have ha3 := adv_le (g := g) (q := q2) hgs.2
              have e2 : xTh (0, adv g q2, c2) (pSumL g p) = ((pSumL g p (adv g q2)).1, (pSumL g p (adv g q2)).2.1, c2 ++ (pSumL g p (adv g q2)).2.2) := by unfold xTh; rw [if_pos rfl]
              rw [e2] at k1 k0
              refine B_close h16 hG hp hGd ha3.1 (b := b + 2) (by omega) (cd := [c]) ?_ (fun y => ?_) (fun y => ?_)
              · rcases hb2 with ⟨y1, y2⟩ | ⟨y1, y2⟩ <;> subst y1 <;> subst y2 <;> rfl
              · have ex : xSg g 41 ((pSumL g p (adv g q2)).1, (pSumL g p (adv g q2)).2.1, c2 ++ (pSumL g p (adv g q2)).2.2) = (0, (xSg g 41 (pSumL g p (adv g q2))).2.1, c2 ++ (xSg g 41 (pSumL g p (adv g q2))).2.2) := by
                  unfold xSg at y ⊢
                  split at y
                  · next y1 =>
                    split at y
                    · next y2 => rw [if_pos y1, if_pos y1, if_pos y2, if_pos y2]
                    · exact absurd y (by simp)
                  · next y1 => exact absurd y y1
                rw [ex] at k1
                have := k1 rfl
                simpa [xCd] using this
              · have ex : (xSg g 41 ((pSumL g p (adv g q2)).1, (pSumL g p (adv g q2)).2.1, c2 ++ (pSumL g p (adv g q2)).2.2)).1 = (xSg g 41 (pSumL g p (adv g q2))).1 ∧ (xSg g 41 ((pSumL g p (adv g q2)).1, (pSumL g p (adv g q2)).2.1, c2 ++ (pSumL g p (adv g q2)).2.2)).2.1 = (xSg g 41 (pSumL g p (adv g q2))).2.1 := by
                  unfold xSg
                  by_cases y1 : (pSumL g p (adv g q2)).1 = 0
                  · rw [if_pos y1, if_pos y1]
                    by_cases y2 : tk g (pSumL g p (adv g q2)).2.1 = 41
                    · rw [if_pos y2, if_pos y2]; exact ⟨rfl, rfl⟩
                    · rw [if_neg y2, if_neg y2]; exact ⟨rfl, rfl⟩
                  · rw [if_neg y1, if_neg y1]; exact ⟨rfl, rfl⟩
                simp only [xCd] at k0
                rw [ex.1, ex.2] at k0
                exact k0 y
            · rw [if_neg t44]
              have e1 : xSg g 44 (pSumL g p (adv g (adv g q))) = (1, (pSumL g p (adv g (adv g q))).2.1, []) := by
                unfold xSg; rw [if_pos z, if_neg t44]
              rw [e1] at k0
              have e2 : xTh (1, (pSumL g p (adv g (adv g q))).2.1, []) (pSumL g p) = (1, (pSumL g p (adv g (adv g q))).2.1, []) := by unfold xTh; rw [if_neg (by simp)]
              have e3 : xSg g 41 ((1, (pSumL g p (adv g (adv g q))).2.1, []) : Res) = (1, (pSumL g p (adv g (adv g q))).2.1, []) := by unfold xSg; rw [if_neg (by simp)]
              rw [e2, e3] at k0
              exact k0 (by simp [xCd])
          · have e1 : xSg g 44 (pSumL g p (adv g (adv g q))) = pSumL g p (adv g (adv g q)) := by unfold xSg; rw [if_neg z]
            have e2 : xTh (pSumL g p (adv g (adv g q))) (pSumL g p) = pSumL g p (adv g (adv g q)) := by unfold xTh; rw [if_neg z]
            have e3 : xSg g 41 (pSumL g p (adv g (adv g q))) = pSumL g p (adv g (adv g q)) := by unfold xSg; rw [if_neg z]
            rw [e1, e2, e3] at k0
            exact k0 z
      · rw [if_neg t2] at k1 k0 ⊢
        exact k0 (by simp)
    rw [if_neg w1]
    by_cases w3 : wd g q = 3 ∧ sco = 4
    · rw [if_pos w3]
      have ht : tk g q = 256 := wd_t w3.1 (by omega)
      have ep : pPartF g sco rs rp m q = xCd 60 (xTh (xOp g m q) rp) := by
        unfold pPartF
        rw [if_neg (by omega), if_neg t40, if_neg (by omega), if_neg (by omega), if_pos w3]
      rw [ep] at k1 k0
      by_cases m0 : m = 0
      · rw [if_pos (by omega)]
        have e4 : xCd 60 (xTh (xOp g m q) rp) = (4, q, [60]) := by subst m0; simp [xOp, xTh, xCd]
        rw [e4] at k0
        exact k0 (by simp)
      · rw [if_neg (by omega)]
        obtain ⟨p, hp, hGd, -, rfl⟩ := hrec m0
        rw [xTh_op m0] at k1 k0
        refine hp (adv g q) C (60 :: T) (adv_le hq).1 (fun z => ?_) (fun z => k0 z)
        rw [GPe_60]
        have := k1 z
        simpa [xCd] using this
    rw [if_neg w3]
    by_cases wa : alw sco (wd g q) = true
    · rw [if_pos wa]
      have hw34 : wd g q < 34 := by
        unfold alw at wa
        simp only [decide_eq_true_eq] at wa
        omega
      have ht : tk g q = 256 := wd_t rfl hw34
      have ep : pPartF g sco rs rp m q = (0, adv g q, [24 + wd g q]) := by
        unfold pPartF
        rw [if_neg (by omega), if_neg t40, if_neg (by omega), if_neg (by omega), if_neg w3, if_pos wa]
      rw [ep] at k1
      exact GPe_GE hG (k1 rfl)
    rw [if_neg wa, nmf_p]
    by_cases t257 : tk g q = 257
    · rw [if_pos t257]
      by_cases l4 : tsp g q - q ≤ 4
      · rw [if_pos l4, if_pos rfl]
        have ep : pPartF g sco rs rp m q = (0, adv g q, [1000 + tvl g q]) := by unfold pPartF; rw [if_pos t257, if_pos l4]
        rw [ep] at k1
        exact GPe_GE hG (k1 rfl)
      · rw [if_neg l4, if_neg (by simp)]
        have ep : pPartF g sco rs rp m q = (1, q + 4, []) := by unfold pPartF; rw [if_pos t257, if_neg l4]
        rw [ep] at k0
        exact k0 (by simp)
    · rw [if_neg t257, if_neg (by simp)]
      have ep : pPartF g sco rs rp m q = (1, q, []) := by
        unfold pPartF
        rw [if_neg t257, if_neg t40, if_neg (fun y => w1 (Or.inl y)), if_neg (fun y => w1 (Or.inr y)), if_neg w3, if_neg wa]
      rw [ep] at k0
      exact k0 (by simp)
  intro m
  induction m with
  | zero => intro o ho; exact step 0 o _ _ ho (fun z => absurd rfl z)
  | succ m ih => intro o ho; exact step (m + 1) o _ _ ho (fun _ => ⟨pPart g sco m, ih (o + 1) (by omega), Gd_part m, rfl, rfl⟩)
/-- a sum, from an empty pile -/
theorem B_sums (h16 : g 0 0 ≤ 1600) (hP : ∀ q C T o, PTP g sco PT GO FT q C T o → PT q C T o) (hG : ∀ q C T o, GOP g PT GO FT EN q C T o → GO q C T o) {m o q : Nat} {C : List Nat} (hm : o + m = 6) (hq : q ≤ g 0 0) (h1 : (pSum g sco m q).1 = 0 → EN (pSum g sco m q).2.1 (C ++ (pSum g sco m q).2.2)) (h0 : (pSum g sco m q).1 ≠ 0 → FT (pSum g sco m q).1 (pSum g sco m q).2.1) : PT q C [] o := by
  refine B_sum h16 (B_part h16 hP hG m o hm) (Gd_part m) q C [] hq trivial (fun z zP zS => ?_) h0
  unfold GOP
  have n1 : ¬ (tk g (pSumL g (pPart g sco m) q).2.1 = 41 ∧ (brk [] = 20 ∨ brk [] = 23 ∨ brk [] = 24)) := fun y => absurd y.2 (by decide)
  have n2 : ¬ (brk [] = 21 ∨ brk [] = 22) := by decide
  have n3 : ¬ brk [] ≠ 0 := by decide
  rw [if_neg n1, if_neg (fun y => y zP), if_neg (fun y => y zS), if_neg n2, if_neg n3, List.append_nil]
  exact h1 z
end YD
/-! tests: T the pile, the last first -/
def hsq : List Nat → Bool
  | [] => false
  | x :: t => decide (x = 25) || hsq t
def ab5 : List Nat → List Nat
  | [] => []
  | x :: t => if x = 25 then [] else x :: ab5 t
def bl5 : List Nat → List Nat
  | [] => []
  | x :: t => if x = 25 then t else bl5 t
def nt : List Nat → List Nat
  | [] => []
  | x :: t => if x = 12 then nt t else x :: t
def nn : List Nat → Nat
  | [] => 0
  | x :: t => if x = 12 then nn t + 1 else 0
def pA (x : Nat) : Bool := decide (x = 10)
def pO (x : Nat) : Bool := decide (x = 10 ∨ x = 11)
section YE
variable (g : Sx) (TL TG : Mc) (FT : Nat → Nat → Prop) (EN : Nat → List Nat → Prop)
def NE : Mc := fun q C T o => TG q (C ++ List.replicate (nn T) 12) (nt T) (o - nn T)
def TGP : Mc := fun q C T o =>
  if tk g q = 93 ∧ hsq T = true then NE TG (adv g q) (C ++ ab5 T) (bl5 T) (o - 1)
  else if wd g q = 11 then TL (adv g q) (C ++ tw pA T) (10 :: dw pA T) o
  else if wd g q = 10 then TL (adv g q) (C ++ tw pO T) (11 :: dw pO T) o
  else if hsq T = true then FT 1 q else EN q (C ++ T)
/-- what the loop does with a claim: rs the sums -/
def TLP (rs : Nat → Res) : Mc := fun q C T o =>
  if tk g q = 91 then (if o = 6 then FT 4 q else TL (adv g q) C (25 :: T) (o + 1))
  else if wd g q = 12 then (if o = 6 then FT 4 q else TL (adv g q) C (12 :: T) (o + 1))
  else if wd g q = 13 then NE TG (adv g q) (C ++ [13]) T o
  else if (rs q).1 ≠ 0 then FT (rs q).1 (rs q).2.1
  else if opC g (rs q).2.1 = 0 then FT 1 (rs q).2.1
  else if (rs (adv g (rs q).2.1)).1 ≠ 0 then FT (rs (adv g (rs q).2.1)).1 (rs (adv g (rs q).2.1)).2.1
  else NE TG (rs (adv g (rs q).2.1)).2.1 (C ++ ((rs q).2.2 ++ (rs (adv g (rs q).2.1)).2.2 ++ [opC g (rs q).2.1])) T o
end YE
section YF
variable {g : Sx} {sco : Nat} {TL TG : Mc} {FT : Nat → Nat → Prop} {EN : Nat → List Nat → Prop}
theorem TGP_A {q o : Nat} {C T : List Nat} (h0 : opA g q = 0) (h : TGP g TL TG FT EN q (C ++ [10]) T o) : TGP g TL TG FT EN q C (10 :: T) o := by
  have w11 : ¬ wd g q = 11 := fun z => by simp [opA, z] at h0
  have eh : hsq (10 :: T) = hsq T := by simp [hsq]
  have ea : ab5 (10 :: T) = 10 :: ab5 T := by simp [ab5]
  have eb : bl5 (10 :: T) = bl5 T := by simp [bl5]
  have et : tw pO (10 :: T) = 10 :: tw pO T := by simp [tw, pO]
  have ed : dw pO (10 :: T) = dw pO T := by simp [dw, pO]
  unfold TGP at h ⊢
  rw [eh, ea, eb, et, ed]
  simp only [w11, if_false] at h ⊢
  simpa using h
theorem TGP_O {q o : Nat} {C T : List Nat} (h0 : opA g q = 0) (h1 : opO g q = 0) (h : TGP g TL TG FT EN q (C ++ [11]) T o) : TGP g TL TG FT EN q C (11 :: T) o := by
  have w11 : ¬ wd g q = 11 := fun z => by simp [opA, z] at h0
  have w10 : ¬ wd g q = 10 := fun z => by simp [opO, z] at h1
  have eh : hsq (11 :: T) = hsq T := by simp [hsq]
  have ea : ab5 (11 :: T) = 11 :: ab5 T := by simp [ab5]
  have eb : bl5 (11 :: T) = bl5 T := by simp [bl5]
  unfold TGP at h ⊢
  rw [eh, ea, eb]
  simp only [w11, w10, if_false] at h ⊢
  simpa using h
def TPe (g : Sx) (TL TG : Mc) (FT : Nat → Nat → Prop) (EN : Nat → List Nat → Prop) : Mc := fun q C T o => TGP g TL TG FT EN q (C ++ List.replicate (nn T) 12) (nt T) (o - nn T)
theorem TPe_n {q o x : Nat} {C T : List Nat} (hx : x ≠ 12) : TPe g TL TG FT EN q C (x :: T) o ↔ TGP g TL TG FT EN q C (x :: T) o := by
  unfold TPe
  simp [nn, nt, hx]
theorem TPe_12 {q o : Nat} {C T : List Nat} : TPe g TL TG FT EN q C (12 :: T) (o + 1) ↔ TPe g TL TG FT EN q (C ++ [12]) T o := by
  unfold TPe
  simp only [nn, nt, if_true]
  rw [List.replicate_succ, show o + 1 - (nn T + 1) = o - nn T by omega]
  simp
theorem TPe_T {q o : Nat} {C T : List Nat} (h : ntop (fun x => decide (x = 12)) T) : TPe g TL TG FT EN q C T o ↔ TGP g TL TG FT EN q C T o := by
  cases T with
  | nil => unfold TPe; simp [nn, nt]
  | cons x t => have h : decide (x = 12) = false := h; exact TPe_n (by simpa using h)
def Bt (g : Sx) (TL TG : Mc) (FT : Nat → Nat → Prop) (EN : Nat → List Nat → Prop) (p : Nat → Res) (o : Nat) : Prop := ∀ q C T, q ≤ g 0 0 → ((p q).1 = 0 → TPe g TL TG FT EN (p q).2.1 (C ++ (p q).2.2) T o) → ((p q).1 ≠ 0 → FT (p q).1 (p q).2.1) → TL q C T o
def pV (x : Nat) : Bool := decide (x = 10 ∨ x = 12)
def pW (x : Nat) : Bool := decide (x = 10 ∨ x = 11 ∨ x = 12)
theorem B_and {p : Nat → Res} {o : Nat} (h16 : g 0 0 ≤ 1600) (hp : Bt g TL TG FT EN p o) (hGd : Gd g p) (q : Nat) (C T : List Nat) (hq : q ≤ g 0 0) (hT : ntop pV T)
    (h1 : (rLp g p (opA g) q).1 = 0 → opA g (rLp g p (opA g) q).2.1 = 0 → TGP g TL TG FT EN (rLp g p (opA g) q).2.1 (C ++ (rLp g p (opA g) q).2.2) T o) (h0 : (rLp g p (opA g) q).1 ≠ 0 → FT (rLp g p (opA g) q).1 (rLp g p (opA g) q).2.1) : TL q C T o := by
  have hT12 : ntop (fun x => decide (x = 12)) T := by
    cases T with
    | nil => trivial
    | cons x t =>
      have hT : pV x = false := hT
      show decide (x = 12) = false
      unfold pV at hT
      simp only [decide_eq_false_iff_not] at hT ⊢
      omega
  have hTA : ntop pA T := by
    cases T with
    | nil => trivial
    | cons x t =>
      have hT : pV x = false := hT
      show pA x = false
      unfold pV at hT
      unfold pA
      simp only [decide_eq_false_iff_not] at hT ⊢
      omega
  have key : ∀ f (r : Res) (C' pend : List Nat), r.1 = 0 → r.2.1 ≤ g 0 0 → g 0 0 ≤ r.2.1 + f → (pend = [] ∨ pend = [10]) → C' ++ pend = C ++ r.2.2 →
      ((pLoop g p (opA g) f r).1 = 0 → opA g (pLoop g p (opA g) f r).2.1 = 0 → TGP g TL TG FT EN (pLoop g p (opA g) f r).2.1 (C ++ (pLoop g p (opA g) f r).2.2) T o) → ((pLoop g p (opA g) f r).1 ≠ 0 → FT (pLoop g p (opA g) f r).1 (pLoop g p (opA g) f r).2.1) → TGP g TL TG FT EN r.2.1 C' (pend ++ T) o := by
    intro f
    induction f with
    | zero =>
      intro r C' pend hr hle hf hpe hC k1 k0
      have e0 : opA g r.2.1 = 0 := by
        rcases Nat.eq_zero_or_pos (opA g r.2.1) with z | z
        · exact z
        · exact absurd (opA_lt (g := g) (q := r.2.1) (by omega)) (by omega)
      have := k1 hr e0
      simp only [pLoop] at this
      rw [← hC] at this
      rcases hpe with rfl | rfl
      · simpa using this
      · exact TGP_A e0 this
    | succ f ih =>
      intro r C' pend hr hle hf hpe hC k1 k0
      by_cases e0 : opA g r.2.1 = 0
      · have el : pLoop g p (opA g) (f + 1) r = r := by simp only [pLoop]; rw [if_neg (fun z => z.2 e0)]
        rw [el] at k1
        have := k1 hr e0
        rw [← hC] at this
        rcases hpe with rfl | rfl
        · simpa using this
        · exact TGP_A e0 this
      · have el : pLoop g p (opA g) (f + 1) r = pLoop g p (opA g) f ((p (adv g r.2.1)).1, (p (adv g r.2.1)).2.1, r.2.2 ++ (p (adv g r.2.1)).2.2 ++ [opA g r.2.1]) := by
          show (if r.1 = 0 ∧ opA g r.2.1 ≠ 0 then _ else r) = _
          rw [if_pos ⟨hr, e0⟩]
        rw [el] at k1 k0
        have hlt := opA_lt e0
        have ha := adv_le (g := g) (q := r.2.1) (by omega)
        have w11 : wd g r.2.1 = 11 := by
          unfold opA at e0
          split at e0
          · assumption
          · exact absurd rfl e0
        have eop : opA g r.2.1 = 10 := by simp [opA, w11]
        have h93 : ¬ tk g r.2.1 = 93 := fun z => by have := wd_t w11 (by omega); omega
        have etw : tw pA (pend ++ T) = pend ∧ dw pA (pend ++ T) = T := by
          have := tw_n hTA
          rcases hpe with rfl | rfl
          · simpa using this
          · simp [tw, dw, pA, this.1, this.2]
        unfold TGP
        rw [if_neg (fun z => h93 z.1), if_pos w11, etw.1, etw.2, hC]
        refine hp (adv g r.2.1) _ _ ha.1 (fun z => ?_) (fun z => ?_)
        · have hgd := hGd (adv g r.2.1) ha.1 z
          rw [TPe_n (by omega)]
          have := ih ((p (adv g r.2.1)).1, (p (adv g r.2.1)).2.1, r.2.2 ++ (p (adv g r.2.1)).2.2 ++ [opA g r.2.1]) (C ++ r.2.2 ++ (p (adv g r.2.1)).2.2) [10] z hgd.2 (by have := ha.2.2 hlt; simp only; omega) (Or.inr rfl) (by rw [eop]; simp) k1 k0
          exact this
        · rw [pLoop_f (by exact z)] at k0
          exact k0 z
  refine hp q C T hq (fun z => ?_) (fun z => ?_)
  · rw [TPe_T hT12]
    have hgd := hGd q hq z
    have := key 1600 (p q) (C ++ (p q).2.2) [] z hgd.2 (by omega) (Or.inl rfl) (by simp) h1 h0
    simpa using this
  · have el : rLp g p (opA g) q = p q := by unfold rLp; exact pLoop_f z
    rw [el] at h0
    exact h0 z
theorem B_or {p : Nat → Res} {o : Nat} (h16 : g 0 0 ≤ 1600) (hp : Bt g TL TG FT EN p o) (hGd : Gd g p) (q : Nat) (C T : List Nat) (hq : q ≤ g 0 0) (hT : ntop pW T)
    (h1 : (pTestL g p q).1 = 0 → opA g (pTestL g p q).2.1 = 0 → opO g (pTestL g p q).2.1 = 0 → TGP g TL TG FT EN (pTestL g p q).2.1 (C ++ (pTestL g p q).2.2) T o) (h0 : (pTestL g p q).1 ≠ 0 → FT (pTestL g p q).1 (pTestL g p q).2.1) : TL q C T o := by
  have hTV : ntop pV T := by
    cases T with
    | nil => trivial
    | cons x t =>
      have hT : pW x = false := hT
      show pV x = false
      unfold pW at hT
      unfold pV
      simp only [decide_eq_false_iff_not] at hT ⊢
      omega
  have hTO : ntop pO T := by
    cases T with
    | nil => trivial
    | cons x t =>
      have hT : pW x = false := hT
      show pO x = false
      unfold pW at hT
      unfold pO
      simp only [decide_eq_false_iff_not] at hT ⊢
      omega
  have hGp : Gd g (rLp g p (opA g)) := Gd_rLp hGd (fun _ => opA_lt)
  generalize hpp : rLp g p (opA g) = pp at *
  have hpr : ∀ (q : Nat) (C T : List Nat), q ≤ g 0 0 → ntop pV T → ((pp q).1 = 0 → opA g (pp q).2.1 = 0 → TGP g TL TG FT EN (pp q).2.1 (C ++ (pp q).2.2) T o) → ((pp q).1 ≠ 0 → FT (pp q).1 (pp q).2.1) → TL q C T o := by
    intro q C T hq hT k1 k0
    rw [← hpp] at k1 k0
    exact B_and h16 hp hGd q C T hq hT k1 k0
  have eS : pTestL g p q = rLp g pp (opO g) q := by rw [← hpp]; rfl
  rw [eS] at h1 h0
  have key : ∀ f (r : Res) (C' pend : List Nat), r.1 = 0 → opA g r.2.1 = 0 → r.2.1 ≤ g 0 0 → g 0 0 ≤ r.2.1 + f → (pend = [] ∨ pend = [11]) → C' ++ pend = C ++ r.2.2 →
      ((pLoop g pp (opO g) f r).1 = 0 → opA g (pLoop g pp (opO g) f r).2.1 = 0 → opO g (pLoop g pp (opO g) f r).2.1 = 0 → TGP g TL TG FT EN (pLoop g pp (opO g) f r).2.1 (C ++ (pLoop g pp (opO g) f r).2.2) T o) → ((pLoop g pp (opO g) f r).1 ≠ 0 → FT (pLoop g pp (opO g) f r).1 (pLoop g pp (opO g) f r).2.1) → TGP g TL TG FT EN r.2.1 C' (pend ++ T) o := by
    intro f
    induction f with
    | zero =>
      intro r C' pend hr hP0 hle hf hpe hC k1 k0
      have e0 : opO g r.2.1 = 0 := by
        rcases Nat.eq_zero_or_pos (opO g r.2.1) with z | z
        · exact z
        · exact absurd (opO_lt (g := g) (q := r.2.1) (by omega)) (by omega)
      have := k1 hr hP0 e0
      simp only [pLoop] at this
      rw [← hC] at this
      rcases hpe with rfl | rfl
      · simpa using this
      · exact TGP_O hP0 e0 this
    | succ f ih =>
      intro r C' pend hr hP0 hle hf hpe hC k1 k0
      by_cases e0 : opO g r.2.1 = 0
      · have el : pLoop g pp (opO g) (f + 1) r = r := by simp only [pLoop]; rw [if_neg (fun z => z.2 e0)]
        rw [el] at k1
        have := k1 hr hP0 e0
        rw [← hC] at this
        rcases hpe with rfl | rfl
        · simpa using this
        · exact TGP_O hP0 e0 this
      · have el : pLoop g pp (opO g) (f + 1) r = pLoop g pp (opO g) f ((pp (adv g r.2.1)).1, (pp (adv g r.2.1)).2.1, r.2.2 ++ (pp (adv g r.2.1)).2.2 ++ [opO g r.2.1]) := by
          show (if r.1 = 0 ∧ opO g r.2.1 ≠ 0 then _ else r) = _
          rw [if_pos ⟨hr, e0⟩]
        rw [el] at k1 k0
        have hlt := opO_lt e0
        have ha := adv_le (g := g) (q := r.2.1) (by omega)
        have w10 : wd g r.2.1 = 10 := by
          unfold opO at e0
          split at e0
          · assumption
          · exact absurd rfl e0
        have eop : opO g r.2.1 = 11 := by simp [opO, w10]
        have h93 : ¬ tk g r.2.1 = 93 := fun z => by have := wd_t w10 (by omega); omega
        have etw : tw pO (pend ++ T) = pend ∧ dw pO (pend ++ T) = T := by
          have := tw_n hTO
          rcases hpe with rfl | rfl
          · simpa using this
          · simp [tw, dw, pO, this.1, this.2]
        unfold TGP
        rw [if_neg (fun z => h93 z.1), if_neg (by omega), if_pos w10, etw.1, etw.2, hC]
        refine hpr (adv g r.2.1) _ _ ha.1 (by show pV 11 = false; decide) (fun z zP => ?_) (fun z => ?_)
        · have hgd := hGp (adv g r.2.1) ha.1 z
          have := ih ((pp (adv g r.2.1)).1, (pp (adv g r.2.1)).2.1, r.2.2 ++ (pp (adv g r.2.1)).2.2 ++ [opO g r.2.1]) (C ++ r.2.2 ++ (pp (adv g r.2.1)).2.2) [11] z zP hgd.2 (by have := ha.2.2 hlt; simp only; omega) (Or.inr rfl) (by rw [eop]; simp) k1 k0
          exact this
        · rw [pLoop_f (by exact z)] at k0
          exact k0 z
  refine hpr q C T hq hTV (fun z zP => ?_) (fun z => ?_)
  · have hgd := hGp q hq z
    have := key 1600 (pp q) (C ++ (pp q).2.2) [] z zP hgd.2 (by omega) (Or.inl rfl) (by simp) h1 h0
    simpa using this
  · have el : rLp g pp (opO g) q = pp q := by unfold rLp; exact pLoop_f z
    rw [el] at h0
    exact h0 z
/-- a claim; the sums at depth m are taken as they are -/
theorem B_claim (h16 : g 0 0 ≤ 1600) (hL : ∀ m q C T o, o + m = 6 → TLP g TL TG FT (pSum g sco m) q C T o → TL q C T o) (hG : ∀ q C T o, TGP g TL TG FT EN q C T o → TG q C T o) : ∀ m o, o + m = 6 → Bt g TL TG FT EN (pClaim g sco m) o := by
  have step : ∀ m o (rt rc : Nat → Res), o + m = 6 → (m ≠ 0 → ∃ p, Bt g TL TG FT EN p (o + 1) ∧ Gd g p ∧ rt = pTestL g p ∧ rc = p) → Bt g TL TG FT EN (pClaimF g rt rc (pSum g sco m) m) o := by
    intro m o rt rc hom hrec q C T hq k1 k0
    refine hL m q C T o hom ?_
    unfold TLP
    by_cases t91 : tk g q = 91
    · rw [if_pos t91]
      have w34 : wd g q = 34 := by unfold wd; rw [if_neg (by omega)]
      have ep : pClaimF g rt rc (pSum g sco m) m q = xSg g 93 (xTh (xOp g m q) rt) := by unfold pClaimF; rw [if_neg (by omega), if_neg (by omega), if_pos t91]
      rw [ep] at k1 k0
      by_cases m0 : m = 0
      · rw [if_pos (by omega)]
        have e4 : xSg g 93 (xTh (xOp g m q) rt) = (4, q, []) := by subst m0; simp [xOp, xTh, xSg]
        rw [e4] at k0
        exact k0 (by simp)
      · rw [if_neg (by omega)]
        obtain ⟨p, hp, hGd, rfl, -⟩ := hrec m0
        rw [xTh_op m0] at k1 k0
        refine B_or h16 hp hGd (adv g q) C (25 :: T) (adv_le hq).1 (by show pW 25 = false; decide) (fun z zA zO => ?_) (fun z => ?_)
        · have w11 : ¬ wd g (pTestL g p (adv g q)).2.1 = 11 := fun y => by simp [opA, y] at zA
          have w10 : ¬ wd g (pTestL g p (adv g q)).2.1 = 10 := fun y => by simp [opO, y] at zO
          unfold xSg at k1 k0
          rw [if_pos z] at k1 k0
          unfold TGP
          have eh : hsq (25 :: T) = true := by simp [hsq]
          have ea : ab5 (25 :: T) = [] := by simp [ab5]
          have eb : bl5 (25 :: T) = T := by simp [bl5]
          rw [eh, ea, eb]
          by_cases z93 : tk g (pTestL g p (adv g q)).2.1 = 93
          · rw [if_pos z93] at k1 k0
            rw [if_pos ⟨z93, rfl⟩, List.append_nil]
            exact hG _ _ _ _ (k1 rfl)
          · rw [if_neg z93] at k1 k0
            rw [if_neg (fun y => z93 y.1), if_neg w11, if_neg w10, if_pos rfl]
            exact k0 (by simp)
        · have e : xSg g 93 (pTestL g p (adv g q)) = pTestL g p (adv g q) := by unfold xSg; rw [if_neg z]
          rw [e] at k0
          exact k0 z
    rw [if_neg t91]
    by_cases w12 : wd g q = 12
    · rw [if_pos w12]
      have ep : pClaimF g rt rc (pSum g sco m) m q = xCd 12 (xTh (xOp g m q) rc) := by unfold pClaimF; rw [if_pos w12]
      rw [ep] at k1 k0
      by_cases m0 : m = 0
      · rw [if_pos (by omega)]
        have e4 : xCd 12 (xTh (xOp g m q) rc) = (4, q, [12]) := by subst m0; simp [xOp, xTh, xCd]
        rw [e4] at k0
        exact k0 (by simp)
      · rw [if_neg (by omega)]
        obtain ⟨p, hp, hGd, -, rfl⟩ := hrec m0
        rw [xTh_op m0] at k1 k0
        refine hp (adv g q) C (12 :: T) (adv_le hq).1 (fun z => ?_) (fun z => k0 z)
        rw [TPe_12]
        have := k1 z
        simpa [xCd] using this
    rw [if_neg w12]
    by_cases w13 : wd g q = 13
    · rw [if_pos w13]
      have ep : pClaimF g rt rc (pSum g sco m) m q = (0, adv g q, [13]) := by unfold pClaimF; rw [if_neg w12, if_pos w13]
      rw [ep] at k1
      exact hG _ _ _ _ (k1 rfl)
    rw [if_neg w13]
    have ep : pClaimF g rt rc (pSum g sco m) m q = if (pSum g sco m q).1 = 0 then (if opC g (pSum g sco m q).2.1 = 0 then (1, (pSum g sco m q).2.1, []) else xCd (opC g (pSum g sco m q).2.1) (xTh (0, adv g (pSum g sco m q).2.1, (pSum g sco m q).2.2) (pSum g sco m))) else pSum g sco m q := by
      unfold pClaimF; rw [if_neg w12, if_neg w13, if_neg t91]
    rw [ep] at k1 k0
    by_cases z : (pSum g sco m q).1 = 0
    · rw [if_pos z] at k1 k0
      rw [if_neg (fun y => y z)]
      by_cases zc : opC g (pSum g sco m q).2.1 = 0
      · rw [if_pos zc] at k1 k0 ⊢
        exact k0 (by simp)
      · rw [if_neg zc] at k1 k0 ⊢
        have e2 : xTh (0, adv g (pSum g sco m q).2.1, (pSum g sco m q).2.2) (pSum g sco m) = ((pSum g sco m (adv g (pSum g sco m q).2.1)).1, (pSum g sco m (adv g (pSum g sco m q).2.1)).2.1, (pSum g sco m q).2.2 ++ (pSum g sco m (adv g (pSum g sco m q).2.1)).2.2) := by unfold xTh; rw [if_pos rfl]
        rw [e2] at k1 k0
        by_cases z2 : (pSum g sco m (adv g (pSum g sco m q).2.1)).1 = 0
        · rw [if_neg (fun y => y z2)]
          exact hG _ _ _ _ (k1 z2)
        · rw [if_pos z2]
          exact k0 z2
    · rw [if_neg z] at k1 k0
      rw [if_pos z]
      exact k0 z
  intro m
  induction m with
  | zero => intro o ho; exact step 0 o _ _ ho (fun z => absurd rfl z)
  | succ m ih => intro o ho; exact step (m + 1) o _ _ ho (fun _ => ⟨pClaim g sco m, ih (o + 1) (by omega), Gd_claim m, rfl, rfl⟩)
theorem B_tests (h16 : g 0 0 ≤ 1600) (hL : ∀ m q C T o, o + m = 6 → TLP g TL TG FT (pSum g sco m) q C T o → TL q C T o) (hG : ∀ q C T o, TGP g TL TG FT EN q C T o → TG q C T o) {q : Nat} {C : List Nat} (hq : q ≤ g 0 0) (h1 : (pTest g sco 6 q).1 = 0 → EN (pTest g sco 6 q).2.1 (C ++ (pTest g sco 6 q).2.2)) (h0 : (pTest g sco 6 q).1 ≠ 0 → FT (pTest g sco 6 q).1 (pTest g sco 6 q).2.1) : TL q C [] 0 := by
  refine B_or h16 (B_claim h16 hL hG 6 0 (by omega)) (Gd_claim 6) q C [] hq trivial (fun z zA zO => ?_) h0
  have w11 : ¬ wd g (pTestL g (pClaim g sco 6) q).2.1 = 11 := fun y => by simp [opA, y] at zA
  have w10 : ¬ wd g (pTestL g (pClaim g sco 6) q).2.1 = 10 := fun y => by simp [opO, y] at zO
  unfold TGP
  have n1 : ¬ (tk g (pTestL g (pClaim g sco 6) q).2.1 = 93 ∧ hsq [] = true) := fun y => absurd y.2 (by decide)
  have n2 : ¬ hsq [] = true := by decide
  rw [if_neg n1, if_neg w11, if_neg w10, if_neg n2, List.append_nil]
  exact h1 z
end YF

/-! the grammar, in neutral words: a result is (fault, 0 none; where one stands, or the fault's place; codes) -/
abbrev Res : Type := Nat × Nat × List Nat
def pLoop (g : Sx) (p : Nat → Res) (op : Nat → Nat) : Nat → Res → Res
  | 0, r => r
  | f + 1, r => if r.1 = 0 ∧ op r.2.1 ≠ 0 then pLoop g p op f ((p (adv g r.2.1)).1, (p (adv g r.2.1)).2.1, r.2.2 ++ (p (adv g r.2.1)).2.2 ++ [op r.2.1]) else r
def opP (g : Sx) (q : Nat) : Nat := if tk g q = 42 then 3 else if tk g q = 47 then 4 else 0
def opS (g : Sx) (q : Nat) : Nat := if tk g q = 43 then 1 else if tk g q = 45 then 2 else 0
def opA (g : Sx) (q : Nat) : Nat := if wd g q = 11 then 10 else 0
def opO (g : Sx) (q : Nat) : Nat := if wd g q = 10 then 11 else 0
def opC (g : Sx) (q : Nat) : Nat := if tk g q = 60 then 7 else if tk g q = 62 then 8 else if tk g q = 61 then 9 else 0
def rLp (g : Sx) (p : Nat → Res) (op : Nat → Nat) (q : Nat) : Res := pLoop g p op 1600 (p q)
/-- r, then a sign that must stand there -/
def xSg (g : Sx) (c : Nat) (r : Res) : Res := if r.1 = 0 then (if tk g r.2.1 = c then (0, adv g r.2.1, r.2.2) else (1, r.2.1, [])) else r
/-- r, then p -/
def xTh (r : Res) (p : Nat → Res) : Res := if r.1 = 0 then ((p r.2.1).1, (p r.2.1).2.1, r.2.2 ++ (p r.2.1).2.2) else r
/-- r, then a code -/
def xCd (c : Nat) (r : Res) : Res := (r.1, r.2.1, r.2.2 ++ [c])
/-- what opens -/
def xOp (g : Sx) (m q : Nat) : Res := if m = 0 then (4, q, []) else (0, adv g q, [])
/-- a word as a part: sco 1 in lessons, 2 in sits, 4 in questions -/
def alw (sco w : Nat) : Bool := decide ((sco = 1 ∧ 16 ≤ w ∧ w ≤ 22) ∨ (sco = 2 ∧ ((16 ≤ w ∧ w ≤ 19) ∨ w = 23 ∨ w = 24)) ∨ (sco = 4 ∧ ((16 ≤ w ∧ w ≤ 20) ∨ (23 ≤ w ∧ w ≤ 27))))
def pPair (g : Sx) (rs : Nat → Res) (m c q : Nat) : Res := if tk g q = 40 then xCd c (xSg g 41 (xTh (xSg g 44 (xTh (xOp g m q) rs)) rs)) else (1, q, [])
def pPartF (g : Sx) (sco : Nat) (rs rp : Nat → Res) (m q : Nat) : Res :=
  if tk g q = 257 then (if tsp g q - q ≤ 4 then (0, adv g q, [1000 + tvl g q]) else (1, q + 4, []))
  else if tk g q = 40 then xSg g 41 (xTh (xOp g m q) rs)
  else if wd g q = 14 then pPair g rs m 5 (adv g q)
  else if wd g q = 15 then pPair g rs m 6 (adv g q)
  else if wd g q = 3 ∧ sco = 4 then xCd 60 (xTh (xOp g m q) rp)
  else if alw sco (wd g q) then (0, adv g q, [24 + wd g q]) else (1, q, [])
def pSumL (g : Sx) (rp : Nat → Res) (q : Nat) : Res := rLp g (rLp g rp (opP g)) (opS g) q
def pPart (g : Sx) (sco : Nat) : Nat → Nat → Res
  | 0 => pPartF g sco (fun q => (1, q, [])) (fun q => (1, q, [])) 0
  | m + 1 => pPartF g sco (pSumL g (pPart g sco m)) (pPart g sco m) (m + 1)
def pSum (g : Sx) (sco m q : Nat) : Res := pSumL g (pPart g sco m) q
def pClaimF (g : Sx) (rt rc rs : Nat → Res) (m q : Nat) : Res :=
  if wd g q = 12 then xCd 12 (xTh (xOp g m q) rc)
  else if wd g q = 13 then (0, adv g q, [13])
  else if tk g q = 91 then xSg g 93 (xTh (xOp g m q) rt)
  else if (rs q).1 = 0 then (if opC g (rs q).2.1 = 0 then (1, (rs q).2.1, []) else xCd (opC g (rs q).2.1) (xTh (0, adv g (rs q).2.1, (rs q).2.2) rs)) else rs q
def pTestL (g : Sx) (rc : Nat → Res) (q : Nat) : Res := rLp g (rLp g rc (opA g)) (opO g) q
def pClaim (g : Sx) (sco : Nat) : Nat → Nat → Res
  | 0 => pClaimF g (fun q => (1, q, [])) (fun q => (1, q, [])) (pSum g sco 0) 0
  | m + 1 => pClaimF g (pTestL g (pClaim g sco m)) (pClaim g sco m) (pSum g sco (m + 1)) (m + 1)
def pTest (g : Sx) (sco m q : Nat) : Res := pTestL g (pClaim g sco m) q
/-- each code is made of a byte at least -/
def Gd1 (g : Sx) (q : Nat) (r : Res) : Prop := r.1 = 0 → q + r.2.2.length ≤ r.2.1 ∧ r.2.1 ≤ g 0 0
def Gd (g : Sx) (p : Nat → Res) : Prop := ∀ q, q ≤ g 0 0 → Gd1 g q (p q)
section PP
variable {g : Sx} {q : Nat} {r : Res} {p rs rp rc rt : Nat → Res} {op : Nat → Nat}
theorem pLoop_f {f : Nat} (h : r.1 ≠ 0) : pLoop g p op f r = r := by
  cases f with
  | zero => rfl
  | succ f => simp only [pLoop]; rw [if_neg (fun z => h z.1)]
theorem Gd_loop (hp : Gd g p) (hop : ∀ q, op q ≠ 0 → q < g 0 0) : ∀ (f : Nat) (r : Res), Gd1 g q r → Gd1 g q (pLoop g p op f r)
  | 0, r, h => h
  | f + 1, r, h => by
    simp only [pLoop]
    split
    · next hc =>
      refine Gd_loop hp hop f _ (fun hz => ?_)
      have h1 := h hc.1
      have h2 := adv_le (g := g) (q := r.2.1) h1.2
      have h3 := hp (adv g r.2.1) h2.1 hz
      have h4 := h2.2.2 (hop _ hc.2)
      simp only [List.length_append, List.length_singleton]
      omega
    · exact h
theorem Gd_rLp (hp : Gd g p) (hop : ∀ q, op q ≠ 0 → q < g 0 0) : Gd g (rLp g p op) := fun q hq => Gd_loop hp hop _ _ (hp q hq)
theorem opP_lt {q : Nat} (h : opP g q ≠ 0) : q < g 0 0 := tk_lt (fun z => h (by simp [opP, z]))
theorem opS_lt {q : Nat} (h : opS g q ≠ 0) : q < g 0 0 := tk_lt (fun z => h (by simp [opS, z]))
theorem opC_lt {q : Nat} (h : opC g q ≠ 0) : q < g 0 0 := tk_lt (fun z => h (by simp [opC, z]))
theorem wd_lt {q w : Nat} (h : wd g q = w) (hw : w < 34) : q < g 0 0 := tk_lt (fun z => by rw [wd, if_neg (by omega)] at h; omega)
theorem opA_lt {q : Nat} (h : opA g q ≠ 0) : q < g 0 0 := by
  unfold opA at h
  split at h
  · next e => exact wd_lt e (by omega)
  · exact absurd rfl h
theorem opO_lt {q : Nat} (h : opO g q ≠ 0) : q < g 0 0 := by
  unfold opO at h
  split at h
  · next e => exact wd_lt e (by omega)
  · exact absurd rfl h
theorem Gd_sumL (hp : Gd g rp) : Gd g (pSumL g rp) := Gd_rLp (Gd_rLp hp (fun _ => opP_lt)) (fun _ => opS_lt)
theorem Gd_testL (hp : Gd g rc) : Gd g (pTestL g rc) := Gd_rLp (Gd_rLp hp (fun _ => opA_lt)) (fun _ => opO_lt)
/-- with k codes to come -/
def Gk (g : Sx) (q k : Nat) (r : Res) : Prop := r.1 = 0 → q + r.2.2.length + k ≤ r.2.1 ∧ r.2.1 ≤ g 0 0
theorem Gk_0 : Gk g q 0 r ↔ Gd1 g q r := by unfold Gk Gd1; simp
theorem Gk_le {k j : Nat} (h : Gk g q k r) (hj : j ≤ k) : Gk g q j r := fun z => by have := h z; omega
theorem Gk_op {m : Nat} (hq : q < g 0 0) : Gk g q 1 (xOp g m q) := by
  intro h
  unfold xOp at h ⊢
  split at h
  · exact absurd h (by simp)
  · next e =>
    have := adv_le (g := g) (q := q) (by omega)
    simp only [e, if_false, List.length_nil]
    exact ⟨by have := this.2.2 hq; omega, this.1⟩
theorem Gk_th {k : Nat} (h : Gk g q k r) (hp : Gd g p) : Gk g q k (xTh r p) := by
  intro hz
  unfold xTh at hz ⊢
  by_cases e : r.1 = 0
  · rw [if_pos e] at hz ⊢
    have h1 := h e
    have h2 := hp r.2.1 h1.2 hz
    simp only [List.length_append]
    omega
  · rw [if_neg e] at hz; exact absurd hz e
theorem Gk_sg {k c : Nat} (h : Gk g q k r) : Gk g q k (xSg g c r) := by
  intro hz
  unfold xSg at hz ⊢
  by_cases e : r.1 = 0
  · rw [if_pos e] at hz ⊢
    have h1 := h e
    by_cases e2 : tk g r.2.1 = c
    · rw [if_pos e2]
      have := adv_le (g := g) (q := r.2.1) h1.2
      simp only
      omega
    · rw [if_neg e2] at hz; exact absurd hz (by simp)
  · rw [if_neg e] at hz; exact absurd hz e
theorem Gk_cd {k c : Nat} (h : Gk g q (k + 1) r) : Gk g q k (xCd c r) := by
  intro hz
  have h1 := h hz
  simp only [xCd, List.length_append, List.length_singleton]
  omega
theorem Gd_partF {sco m : Nat} (hs : Gd g rs) (hp : Gd g rp) : Gd g (pPartF g sco rs rp m) := by
  intro q hq
  have ha := adv_le (g := g) hq
  unfold pPartF
  split
  · next e =>
    have hl := tk_lt (g := g) (q := q) (by omega)
    split
    · intro _
      have := ha.2.2 hl
      simp only [List.length_singleton]
      exact ⟨by omega, ha.1⟩
    · intro z; exact absurd z (by simp)
  · split
    · next e =>
      have hl := tk_lt (g := g) (q := q) (by omega)
      exact Gk_0.mp (Gk_le (Gk_sg (Gk_th (Gk_op hl) hs)) (by omega))
    · have pair : ∀ c w, w < 34 → wd g q = w → Gd1 g q (pPair g rs m c (adv g q)) := by
        intro c w hw e
        have hl := wd_lt e hw
        have hl2 := ha.2.2 hl
        unfold pPair
        split
        · next e2 =>
          have hl3 := tk_lt (g := g) (q := adv g q) (by omega)
          have h1 := Gk_cd (c := c) (Gk_le (Gk_sg (c := 41) (Gk_th (Gk_sg (c := 44) (Gk_th (Gk_op (m := m) hl3) hs)) hs)) (by omega : 0 + 1 ≤ 1))
          intro z
          have := h1 z
          omega
        · intro z; exact absurd z (by simp)
      split
      · next e => exact pair 5 14 (by omega) e
      · split
        · next e => exact pair 6 15 (by omega) e
        · split
          · next e =>
            have hl := wd_lt e.1 (by omega)
            exact Gk_0.mp (Gk_cd (Gk_le (Gk_th (Gk_op hl) hp) (by omega)))
          · split
            · next e =>
              have hw : wd g q < 34 := by
                simp only [alw, decide_eq_true_eq] at e
                omega
              have hl := wd_lt (g := g) (q := q) rfl hw
              intro _
              have := ha.2.2 hl
              simp only [List.length_singleton]
              exact ⟨by omega, ha.1⟩
            · intro z; exact absurd z (by simp)
theorem Gd_no : Gd g (fun q => (1, q, [])) := fun q _ z => absurd z (by simp)
theorem Gd_part {sco : Nat} : ∀ m, Gd g (pPart g sco m)
  | 0 => Gd_partF Gd_no Gd_no
  | m + 1 => Gd_partF (Gd_sumL (Gd_part m)) (Gd_part m)
theorem Gd_sum {sco m : Nat} : Gd g (pSum g sco m) := Gd_sumL (Gd_part m)
theorem Gd_claimF {m : Nat} (ht : Gd g rt) (hc : Gd g rc) (hs : Gd g rs) : Gd g (pClaimF g rt rc rs m) := by
  intro q hq
  have ha := adv_le (g := g) hq
  unfold pClaimF
  split
  · next e =>
    have hl := wd_lt e (by omega)
    exact Gk_0.mp (Gk_cd (Gk_le (Gk_th (Gk_op hl) hc) (by omega)))
  · split
    · next e =>
      have hl := wd_lt e (by omega)
      intro _
      have := ha.2.2 hl
      simp only [List.length_singleton]
      exact ⟨by omega, ha.1⟩
    · split
      · next e =>
        have hl := tk_lt (g := g) (q := q) (by omega)
        exact Gk_0.mp (Gk_le (Gk_sg (Gk_th (Gk_op hl) ht)) (by omega))
      · split
        · next e =>
          split
          · intro z; exact absurd z (by simp)
          · next e2 =>
            have h1 := hs q hq e
            have hl := opC_lt e2
            have ha2 := adv_le (g := g) (q := (rs q).2.1) h1.2
            have : Gk g q 1 (0, adv g (rs q).2.1, (rs q).2.2) := fun _ => ⟨by have := ha2.2.2 hl; simp only; omega, ha2.1⟩
            exact Gk_0.mp (Gk_cd (Gk_th this hs))
        · exact hs q hq
theorem Gd_claim {sco : Nat} : ∀ m, Gd g (pClaim g sco m)
  | 0 => Gd_claimF Gd_no Gd_no Gd_sum
  | m + 1 => Gd_claimF (Gd_testL (Gd_claim m)) (Gd_claim m) Gd_sum
theorem Gd_test {sco m : Nat} : Gd g (pTest g sco m) := Gd_testL (Gd_claim m)
end PP
/-- what a reading of the class leaves: from I, with z codes, result r, b whether it is fine -/
def FrP (f : Nat) (I I' : Ii) : Prop := (∀ a, a ≠ 1 → a ≠ f → a ≠ f + 1 → I' a = I a) ∧ (∀ k, (k < 2 ∨ 8 < k) → I' 1 k = I 1 k) ∧ ∀ k, k ≠ 4 → I' f k = I f k
theorem FrP.trans {f : Nat} {I I1 I2 : Ii} (h1 : FrP f I I1) (h2 : FrP f I1 I2) : FrP f I I2 := ⟨fun a h3 h4 h5 => (h2.1 a h3 h4 h5).trans (h1.1 a h3 h4 h5), fun k hk => (h2.2.1 k hk).trans (h1.2.1 k hk), fun k hk => (h2.2.2 k hk).trans (h1.2.2 k hk)⟩
theorem FrP.refl (f : Nat) (I : Ii) : FrP f I I := ⟨fun _ _ _ _ => rfl, fun _ _ => rfl, fun _ _ => rfl⟩
theorem FrB.P {f : Nat} {I I' : Ii} (h : FrB I I') (hf : 2 < f) : FrP f I I' := ⟨fun a h3 _ _ => h.1 a h3, h.2, fun k _ => by rw [h.1 f (by omega)]⟩
theorem EnT.P {f : Nat} {I I' : Ii} {g : Sx} (h : EnT I g) (hk : FrP f I I') (hf : 2 < f) : EnT I' g := by unfold EnT; rw [hk.2.1 1 (by omega), hk.1 2 (by omega) (by omega) (by omega)]; exact h
def POk (g : Sx) (f z : Nat) (I : Ii) (q : Nat) (cs : List Nat) (I' : Ii) : Prop := TokAt I' g q ∧ I' f 4 = nI (z + cs.length) ∧ (∀ i, i < z → I' (f + 1) i = I (f + 1) i) ∧ (∀ i, i < cs.length → I' (f + 1) (z + i) = iI (trc (cs.getD i 0))) ∧ I' 1 2 = I 1 2 ∧ I' 1 3 = I 1 3
def PO (g : Sx) (f z : Nat) (I : Ii) (r : Res) (b : Int32) (I' : Ii) : Prop := FrP f I I' ∧ (r.1 = 0 → b = 1 ∧ POk g f z I r.2.1 r.2.2 I') ∧ (r.1 ≠ 0 → b = 0 ∧ Flt I' r.1 r.2.1 ∧ ∃ w, w ≤ 1600 ∧ I' f 4 = nI w)
theorem gD_l {a b : List Nat} {i : Nat} (h : i < a.length) : (a ++ b).getD i 0 = a.getD i 0 := by simp only [List.getD_eq_getElem?_getD, List.getElem?_append_left h]
theorem gD_r {a b : List Nat} {j : Nat} : (a ++ b).getD (a.length + j) 0 = b.getD j 0 := by
  simp only [List.getD_eq_getElem?_getD]
  rw [List.getElem?_append_right (by omega), show a.length + j - a.length = j by omega]
section PQ
variable {g : Sx} {f z q : Nat} {I I1 I2 : Ii} {r : Res} {b : Int32} {cs : List Nat}
theorem PO.b01 (h : PO g f z I r b I1) : b = 0 ∨ b = 1 := by
  by_cases e : r.1 = 0
  · exact Or.inr (h.2.1 e).1
  · exact Or.inl (h.2.2 e).1
theorem PO.b0 (h : PO g f z I r b I1) : b = 0 ↔ r.1 ≠ 0 := by
  constructor
  · intro hb e
    rw [(h.2.1 e).1] at hb
    exact absurd hb (by decide)
  · intro e; exact (h.2.2 e).1
theorem PO.cong {r' : Res} (h : PO g f z I r b I1) (h0 : r.1 ≠ 0) (h1 : r'.1 = r.1) (h2 : r'.2.1 = r.2.1) : PO g f z I r' b I1 := ⟨h.1, fun e => absurd e (by rw [h1]; exact h0), fun _ => by rw [h1, h2]; exact h.2.2 h0⟩
theorem PO.start (hT : TokAt I g q) (hz : I f 4 = nI z) : PO g f z I (0, q, []) 1 I := ⟨FrP.refl f I, fun _ => ⟨rfl, hT, by simpa using hz, fun _ _ => rfl, fun i hi => absurd hi (by simp), rfl, rfl⟩, fun e => absurd rfl e⟩
theorem PO.adv (h : PO g f z I (0, q, cs) b I1) (hf : 2 < f) {q' : Nat} (hA : FrA I1 I2) (hT : TokAt I2 g q') : PO g f z I (0, q', cs) 1 I2 := by
  obtain ⟨h1, h2, -⟩ := h
  obtain ⟨-, k1, k2, k3, k4, k5, k6⟩ := h2 rfl
  refine ⟨h1.trans (hA.B.P hf), fun _ => ⟨rfl, hT, by rw [hA.1 f (by omega)]; exact k2, fun i hi => by rw [hA.1 _ (by omega)]; exact k3 i hi, fun i hi => by rw [hA.1 _ (by omega)]; exact k4 i hi, by rw [hA.2 2 (by omega)]; exact k5, by rw [hA.2 3 (by omega)]; exact k6⟩, fun e => absurd rfl e⟩
theorem PO.flt (h : PO g f z I (0, q, cs) b I1) (hf : 2 < f) {k p : Nat} (hk : k ≠ 0) (hw : z + cs.length ≤ 1600) (hB : FrB I1 I2) (hF : Flt I2 k p) {l : List Nat} : PO g f z I (k, p, l) 0 I2 := by
  obtain ⟨h1, h2, -⟩ := h
  refine ⟨h1.trans (hB.P hf), fun e => absurd e hk, fun _ => ⟨rfl, hF, _, hw, by rw [hB.1 f (by omega)]; exact (h2 rfl).2.2.1⟩⟩
theorem PO.seq (h : PO g f z I (0, q, cs) b I1) {r2 : Res} {b2 : Int32} (h2 : PO g f (z + cs.length) I1 r2 b2 I2) : PO g f z I (r2.1, r2.2.1, cs ++ r2.2.2) b2 I2 := by
  obtain ⟨f1, k1, -⟩ := h
  obtain ⟨-, t1, s1, a1, c1, e1, g1⟩ := k1 rfl
  obtain ⟨f2, k2, k3⟩ := h2
  refine ⟨f1.trans f2, fun e => ?_, fun e => k3 e⟩
  obtain ⟨hb, t2, s2, a2, c2, e2, g2⟩ := k2 e
  refine ⟨hb, t2, ?_, fun i hi => ?_, fun i hi => ?_, e2.trans e1, g2.trans g1⟩
  · rw [s2, List.length_append, Nat.add_assoc]
  · rw [a2 i (by omega)]; exact a1 i hi
  · simp only [List.length_append] at hi
    by_cases hi2 : i < cs.length
    · rw [a2 (z + i) (by omega), c1 i hi2, gD_l hi2]
    · obtain ⟨j, rfl⟩ : ∃ j, i = cs.length + j := ⟨i - cs.length, by omega⟩
      rw [show z + (cs.length + j) = z + cs.length + j by omega, c2 j (by omega), gD_r]
end PQ
section SP
variable {d : Nat} {I I1 : Ii} {J : Jj} {g : Sx} {f z : Nat} {r : Res} {b : Int32}
theorem s_add {c : Nat} {v : Int32} {K : KV} (hf3 : z_Ob wX f 3) (hf : 2 < f) (h : PO g f z I r b I1) (hv : v = iI (trc c)) (hz : r.1 = 0 → z + r.2.2.length < 1600) (hK : ∀ I2, PO g f z I (xCd c r) b I2 → K I2 J) : CalV wX d mX3_add [.ref f, .int v] I1 J K := by
  obtain ⟨f1, k1, k2⟩ := h
  have fr : ∀ (w : Nat) (v : Int32), FrP f I1 (u2 (u2 I1 (f + 1) w v) f 4 (nI (w + 1))) := fun w v => ⟨fun a h1 h2 h3 => by rw [u2_row h2, u2_row h3], fun k hk => by rw [u2_o (by omega), u2_o (by omega)], fun k hk => by rw [u2_k hk, u2_o (by omega)]⟩
  refine Cal.of (by decide) (Nat.le_of_ble_eq_true rfl) (bX3_add_0 hf3 ?_)
  by_cases e : r.1 = 0
  · obtain ⟨hb, t1, s1, a1, c1, e1, g1⟩ := k1 e
    have hlt := hz e
    rw [s1]
    refine ⟨fun y => ?_, fun _ => ⟨vp_in_nI (by omega) (by omega), ?_⟩⟩
    · rw [show (1600 : Int32) = nI 1600 from rfl] at y
      simp (disch := omega) only [Int32.le_iff_toInt_le, Int32.lt_iff_toInt_lt, ← Int32.toInt_inj, nI_toInt, t_bq, t_pc8, t_bel, t_mI, t_ite, t_dec, sm_t, Int32.reduceToInt, t_m1, t_0, t_1, t_2, t_3, t_8, Int.natCast_eq_zero, Int.ofNat_le, Int.ofNat_lt, Int.ofNat_inj, not_true_eq_false, not_false_eq_true, forall_const] at y
      exfalso; omega
    rintro _ rfl
    rw [nI_clamp (by omega), u2_o (by omega), s1, nI_1]
    refine hK _ ⟨f1.trans (fr _ _), fun _ => ⟨hb, ?_, ?_, fun i hi => ?_, fun i hi => ?_, ?_, ?_⟩, fun y => absurd e y⟩
    · unfold TokAt at t1 ⊢; rw [u2_o (by omega), u2_o (by omega), u2_o (by omega), u2_o (by omega), u2_o (by omega), u2_o (by omega), u2_o (by omega), u2_o (by omega), u2_o (by omega), u2_o (by omega)]; exact t1
    · rw [u2_at]; simp [xCd]; rfl
    · rw [u2_o (by omega), u2_k (by omega)]; exact a1 i hi
    · simp only [xCd, List.length_append, List.length_singleton] at hi
      rw [u2_o (by omega)]
      by_cases hi2 : i < r.2.2.length
      · rw [u2_k (by omega), c1 i hi2]; simp only [xCd]; rw [gD_l hi2]
      · obtain rfl : i = r.2.2.length := by omega
        rw [u2_at, hv]; simp only [xCd]; have e := gD_r (a := r.2.2) (b := [c]) (j := 0); simp only [Nat.add_zero] at e; rw [e]; simp
    · rw [u2_o (by omega), u2_o (by omega)]; exact e1
    · rw [u2_o (by omega), u2_o (by omega)]; exact g1
  · obtain ⟨hb, hF, w, hw, sw⟩ := k2 e
    rw [sw]
    refine ⟨fun y => hK I1 ⟨f1, fun y => absurd y e, fun _ => ⟨hb, hF, w, hw, sw⟩⟩, fun y => ?_⟩
    rw [show (1600 : Int32) = nI 1600 from rfl] at y
    simp (disch := omega) only [Int32.le_iff_toInt_le, Int32.lt_iff_toInt_lt, ← Int32.toInt_inj, nI_toInt, t_bq, t_pc8, t_bel, t_mI, t_ite, t_dec, sm_t, Int32.reduceToInt, t_m1, t_0, t_1, t_2, t_3, t_8, Int.natCast_eq_zero, Int.ofNat_le, Int.ofNat_lt, Int.ofNat_inj, not_true_eq_false, not_false_eq_true, forall_const] at y
    refine ⟨vp_in_nI (by omega) (by omega), ?_⟩
    rintro _ rfl
    rw [nI_clamp (by omega), u2_o (by omega), sw, nI_1]
    refine hK _ ⟨f1.trans (fr _ _), fun y => absurd y e, fun _ => ⟨hb, ⟨?_, ?_⟩, w + 1, by omega, by rw [u2_at]⟩⟩
    · rw [u2_o (by omega), u2_o (by omega)]; exact hF.1
    · rw [u2_o (by omega), u2_o (by omega)]; exact hF.2
end SP

/-! the reference: words, numbers, signs along the tape -/
def isLD (c : Nat) : Bool := isL c || isD c
/-- it stands at a; a word or a number has ended there, or not -/
def AtE (I : Ii) (g : Sx) (a : Nat) : Prop := I 0 2 = nI a ∧ a ≤ g 0 0 ∧ ∃ c, I 0 4 = mI c ∧ c ≤ a + 1 ∧ (c = a + 1 ↔ (1 ≤ a ∧ isLD (g 1 (a - 1)) = true)) ∧ (c = a + 1 → a < g 0 0 → ¬ (isL (g 1 (a - 1)) = true ∧ isL (g 1 a) = true) ∧ ¬ (isD (g 1 (a - 1)) = true ∧ isD (g 1 a) = true))
def TxG (I : Ii) (g : Sx) : Prop := (I 0 3 = nI (g 0 0) ∧ g 0 0 ≤ 1600) ∧ (∀ k, k < g 0 0 → I 1 k = nI (g 1 k) ∧ g 1 k < 256) ∧ EnWo I
def Rpr (I : Ii) (g : Sx) (q : Nat) : Prop := I 0 5 = 0 ∧ ∃ a, AtE I g a ∧ skp g a = q
def Rlk (I : Ii) (g : Sx) (q : Nat) : Prop := I 0 5 = 0 ∧ AtE I g q ∧ skp g q = q
def FrK (I I' : Ii) : Prop := (∀ a, a ≠ 0 → I' a = I a) ∧ ∀ k, k ≠ 2 → k ≠ 4 → (k = 5 → I' 0 5 = 0) → (k = 6 → I' 0 5 = 0) → k ≠ 38 → I' 0 k = I 0 k
theorem FrK.refl (I : Ii) : FrK I I := ⟨fun _ _ => rfl, fun _ _ _ _ _ _ => rfl⟩
theorem FrK.trans {I I1 I2 : Ii} (h1 : FrK I I1) (h2 : FrK I1 I2) : FrK I I2 := ⟨fun a ha => (h2.1 a ha).trans (h1.1 a ha), fun k a b c d e => (h2.2 k a b c d e).trans (h1.2 k a b (fun z => (h2.2 5 (by omega) (by omega) (fun _ => c z) (by omega) (by omega)).symm.trans (c z)) (fun z => (h2.2 5 (by omega) (by omega) (fun _ => d z) (by omega) (by omega)).symm.trans (d z)) e)⟩
theorem TxG.K {I I' : Ii} {g : Sx} (h : TxG I g) (hk : FrK I I') : TxG I' g := by
  refine ⟨by rw [hk.2 3 (by omega) (by omega) (by omega) (by omega) (by omega)]; exact h.1, by rw [hk.1 1 (by omega)]; exact h.2.1, fun a ha k hk' => ?_⟩
  rw [hk.1 a (by omega)]; exact h.2.2 a ha k hk'
theorem Rlk.P {I : Ii} {g : Sx} {q : Nat} (h : Rlk I g q) : Rpr I g q := ⟨h.1, q, h.2.1, h.2.2⟩
theorem Rpr.le {I : Ii} {g : Sx} {q : Nat} (h : Rpr I g q) : q ≤ g 0 0 := by obtain ⟨a, ha, e⟩ := h.2; rw [← e]; exact skp_le.2 ha.2.1
theorem skp_b {g : Sx} {a : Nat} (ha : a ≤ g 0 0) : skp g a < g 0 0 → isB (g 1 (skp g a)) = false := fun h => rn_at (q := fun k => isB (g 1 k)) ha h
theorem skp_id {g : Sx} {a : Nat} (ha : a ≤ g 0 0) : skp g (skp g a) = skp g a := by
  by_cases z : skp g a < g 0 0
  · exact rn_no (q := fun k => isB (g 1 k)) (skp_b ha z)
  · exact rn_end (q := fun k => isB (g 1 k)) (by omega)
theorem isB_LD {c : Nat} (h : isB c = true) : isLD c = false := by
  rw [isB_t] at h
  rcases h with rfl | rfl <;> decide
theorem rn_stop {q : Nat → Bool} {n p e : Nat} (hpe : p ≤ e) (hen : e ≤ n) (h : ∀ k, p ≤ k → k < e → q k = true) (he : e = n ∨ q e = false) : rn q n p = e := by
  induction hd : e - p generalizing p with
  | zero =>
    obtain rfl : p = e := by omega
    rcases he with z | z
    · exact rn_end (by omega)
    · exact rn_no z
  | succ m ih =>
    rw [rn_go (by omega) (h p (by omega) (by omega))]
    exact ih (by omega) (fun k h1 h2 => h k (by omega) h2) (by omega)
section MB
variable {d : Nat} {I I' : Ii} {J J' : Jj} {g : Sx} {q : Nat}
def bat (g : Sx) (q : Nat) : Int32 := if q < g 0 0 then nI (g 1 q) else -1
theorem AtE.skip {a : Nat} (h : AtE I g a) (hs : skp g a = q) (hI : I' 0 2 = nI q) (h4 : I' 0 4 = I 0 4) : AtE I' g q := by
  obtain ⟨h1, h2, c, h3, h5, h6, h7⟩ := h
  have hle := (skp_le (g := g) (p := a))
  rw [hs] at hle
  refine ⟨hI, hle.2 h2, c, by rw [h4]; exact h3, by omega, ?_, ?_⟩
  · by_cases z : q = a
    · subst z; exact h6
    · have hb : isB (g 1 (q - 1)) = true := rn_in (q := fun k => isB (g 1 k)) (n := g 0 0) (p := a) (by omega) (by show q - 1 < skp g a; omega)
      constructor
      · intro y; omega
      · intro y; rw [isB_LD hb] at y; exact absurd y.2 (by decide)
  · by_cases z : q = a
    · subst z; exact h7
    · intro y; omega
theorem m_look {K : KI} (hG : TxG I g) (hp : Rpr I g q) (h : ∀ I', FrK I I' → Rlk I' g q → K (bat g q) I' J) : CalI wM d mX13_look [.ref 0] I J K := by
  obtain ⟨h5, a, hA, hs⟩ := hp
  have h16 := hG.1.2
  have hle := skp_le (g := g) (p := a)
  have key : ∀ n k I1, k + n = g 0 0 → a ≤ k → k ≤ q → FrK I I1 → I1 0 2 = nI k → I1 0 4 = I 0 4 → I1 0 5 = 0 → GoI wM d mX13_look 0 [(0, .ref 0)] [] I1 J K := by
    intro n
    induction n with
    | zero =>
      intro k I1 hk hak hkq hfr e2 e4 e5
      have hqk : q = k := by have := hle.2 hA.2.1; omega
      subst hqk
      have hG1 := hG.K hfr
      refine bX13_look_0 ?_
      rw [e2, hG1.1.1]
      refine ⟨fun _ => ?_, fun z => absurd (nI_le (by omega) (by omega)) z⟩
      have := h I1 hfr ⟨e5, hA.skip hs e2 e4, by rw [← hs]; exact skp_id hA.2.1⟩
      unfold bat at this
      rw [if_neg (by omega)] at this
      exact this
    | succ n ih =>
      intro k I1 hk hak hkq hfr e2 e4 e5
      have hG1 := hG.K hfr
      have hb := hG1.2.1 k (by omega)
      refine bX13_look_0 ?_
      rw [e2, hG1.1.1, nI_clamp (by omega), hb.1, show (10 : Int32) = nI 10 from rfl, show (32 : Int32) = nI 32 from rfl, nI_eq (by omega) (by omega), nI_eq (by omega) (by omega), nI_1]
      refine ⟨fun z => absurd ((nI_leI (by omega) (by omega)).mp z) (by omega), fun _ => ⟨vp_in_nI (by omega) (by omega), ?_⟩⟩
      have go : isB (g 1 k) = true → GoI wM d mX13_look 0 [(0, .ref 0)] [] (u2 I1 0 2 (nI (k + 1))) J K := fun z => by
        have hkq2 : k < q := by
          rcases Nat.lt_or_ge k q with y | y
          · exact y
          · have : k = q := by omega
            subst this
            rw [← hs] at z
            have := skp_b hA.2.1 (by omega)
            rw [this] at z
            exact absurd z (by decide)
        exact ih (k + 1) _ (by omega) (by omega) (by omega) (hfr.trans ⟨fun a ha => u2_row ha, fun j j2 _ _ _ _ => u2_k j2⟩) (u2_at _ _ _ _) (by rw [u2_k (by omega)]; exact e4) (by rw [u2_k (by omega)]; exact e5)
      refine ⟨fun z => go (by rw [isB_t]; exact Or.inr z), fun z => ⟨fun z2 => ?_, fun z2 => go (by rw [isB_t]; exact Or.inl z2)⟩⟩
      have hqk : q = k := by
        rcases Nat.lt_or_ge k q with y | y
        · have hbk : isB (g 1 k) = true := rn_in (q := fun k => isB (g 1 k)) (n := g 0 0) (p := a) hak (by show k < skp g a; omega)
          rw [isB_t] at hbk
          exact absurd hbk (by omega)
        · omega
      subst hqk
      have := h I1 hfr ⟨e5, hA.skip hs e2 e4, by rw [← hs]; exact skp_id hA.2.1⟩
      unfold bat at this
      rw [if_pos (by omega)] at this
      exact this
  refine Cal.of (by decide) (Nat.le_of_ble_eq_true rfl) (key (g 0 0 - a) a I (by have := hA.2.1; omega) (by omega) (by omega) (FrK.refl I) hA.1 rfl h5)
theorem m_isLetter {c : Nat} {K : KI} (hc : c < 2 ^ 31) (h : K (b01 (isL c)) I J) : CalI wM d mX13_isLetter [.int (nI c)] I J K := by
  refine Cal.of (by decide) (Nat.le_of_ble_eq_true rfl) (bX13_isLetter_0 ⟨fun z => ?_, fun z => ⟨fun z2 => ?_, fun z2 => ?_⟩⟩)
  · have := (nI_ltI (b := 97) hc (by decide)).mp z
    rw [show isL c = false by unfold isL; exact decide_eq_false (by omega)] at h; exact h
  · have := (nI_ltI (a := 122) (by decide) hc).mp z2
    rw [show isL c = false by unfold isL; exact decide_eq_false (by omega)] at h; exact h
  · have h1 : ¬ c < 97 := fun y => z (nI_lt (b := 97) y (by decide))
    have h2 : ¬ 122 < c := fun y => z2 (nI_lt (a := 122) y hc)
    rw [show isL c = true by unfold isL; exact decide_eq_true (by omega)] at h; exact h
theorem m_isDigit {c : Nat} {K : KI} (hc : c < 2 ^ 31) (h : K (b01 (isD c)) I J) : CalI wM d mX13_isDigit [.int (nI c)] I J K := by
  refine Cal.of (by decide) (Nat.le_of_ble_eq_true rfl) (bX13_isDigit_0 ⟨fun z => ?_, fun z => ⟨fun z2 => ?_, fun z2 => ?_⟩⟩)
  · have := (nI_ltI (b := 48) hc (by decide)).mp z
    rw [show isD c = false by unfold isD; exact decide_eq_false (by omega)] at h; exact h
  · have := (nI_ltI (a := 57) (by decide) hc).mp z2
    rw [show isD c = false by unfold isD; exact decide_eq_false (by omega)] at h; exact h
  · have h1 : ¬ c < 48 := fun y => z (nI_lt (b := 48) y (by decide))
    have h2 : ¬ 57 < c := fun y => z2 (nI_lt (a := 57) y hc)
    rw [show isD c = true by unfold isD; exact decide_eq_true (by omega)] at h; exact h
theorem m_isLetterB {K : KI} (hG : TxG I g) (h : K (b01 (decide (q < g 0 0) && isL (g 1 q))) I J) : CalI wM d mX13_isLetter [.int (bat g q)] I J K := by
  unfold bat
  by_cases z : q < g 0 0
  · rw [if_pos z]
    rw [decide_eq_true z] at h
    exact m_isLetter (by have := (hG.2.1 q z).2; omega) (by simpa using h)
  · rw [if_neg z]
    rw [decide_eq_false z] at h
    exact Cal.of (by decide) (Nat.le_of_ble_eq_true rfl) (bX13_isLetter_0 ⟨fun _ => h, fun y => absurd (by decide) y⟩)
theorem m_isDigitB {K : KI} (hG : TxG I g) (h : K (b01 (decide (q < g 0 0) && isD (g 1 q))) I J) : CalI wM d mX13_isDigit [.int (bat g q)] I J K := by
  unfold bat
  by_cases z : q < g 0 0
  · rw [if_pos z]
    rw [decide_eq_true z] at h
    exact m_isDigit (by have := (hG.2.1 q z).2; omega) (by simpa using h)
  · rw [if_neg z]
    rw [decide_eq_false z] at h
    exact Cal.of (by decide) (Nat.le_of_ble_eq_true rfl) (bX13_isDigit_0 ⟨fun _ => h, fun y => absurd (by decide) y⟩)
theorem m_fail {k p : Int32} {K : KV} (h5 : I 0 5 = 0) (h : ∀ I', FrK I I' → I' 0 5 = k → I' 0 6 = p → (∀ j, j ≠ 5 → j ≠ 6 → I' 0 j = I 0 j) → K I' J) (hk0 : ¬ k = 0 := by decide) : CalV wM d mX13_fail [.ref 0, .int k, .int p] I J K := by
  have n5 : ¬ u2 (u2 I 0 5 k) 0 6 p 0 5 = 0 := by rw [u2_k (by omega), u2_at]; exact hk0
  exact Cal.of (by decide) (Nat.le_of_ble_eq_true rfl) (bX13_fail_0 ⟨fun _ => h _ ⟨fun a ha => by rw [u2_row ha, u2_row ha], fun j _ _ j5 j6 _ => by rw [u2_k (fun z => n5 (j6 z)), u2_k (fun z => n5 (j5 z))]⟩ (by rw [u2_k (by omega), u2_at]) (u2_at _ _ _ _) (fun j j5 j6 => by rw [u2_k j6, u2_k j5]), fun z => absurd h5 z⟩)
theorem m_fail_b {k p : Int32} {K : KV} (h5 : ¬ I 0 5 = 0) (h : K I J) : CalV wM d mX13_fail [.ref 0, .int k, .int p] I J K := Cal.of (by decide) (Nat.le_of_ble_eq_true rfl) (bX13_fail_0 ⟨fun z => absurd z h5, fun _ => h⟩)
/-- at a letter: a word, unless it is glued -/
theorem tk_L (hL : Rlk I g q) (hq : q < g 0 0) (hl : isL (g 1 q) = true) (h16 : g 0 0 ≤ 1600) : (I 0 2 = I 0 4 ↔ tk g q = 258) ∧ (tk g q = 256 ∨ tk g q = 258) := by
  obtain ⟨-, ⟨h1, h2, c, h3, h5, h6, h7⟩, -⟩ := hL
  have et : tk g q = if 1 ≤ q ∧ isD (g 1 (q - 1)) = true then 258 else 256 := by unfold tk; rw [if_neg (by omega), if_pos hl]
  have e1 : (I 0 2 = I 0 4) ↔ c = q + 1 := by
    rw [h1, h3]
    by_cases z : c = 0
    · subst z; exact ⟨fun y => absurd y (nI_ne_m1 (by omega)), fun y => by omega⟩
    · obtain ⟨j, rfl⟩ : ∃ j, c = j + 1 := ⟨c - 1, by omega⟩
      rw [mI_s, nI_eq (by omega) (by omega)]
      omega
  rw [e1, et]
  have hnl : c = q + 1 → isL (g 1 (q - 1)) = false := fun z => by
    rcases Bool.eq_false_or_eq_true (isL (g 1 (q - 1))) with y | y
    · exact absurd ⟨y, hl⟩ (h7 z hq).1
    · exact y
  constructor
  · rw [h6]
    constructor
    · intro z
      have hn := hnl (h6.mpr z)
      have : isD (g 1 (q - 1)) = true := by
        have := z.2
        unfold isLD at this
        rw [hn] at this
        simpa using this
      rw [if_pos ⟨z.1, this⟩]
    · intro z
      by_cases y : 1 ≤ q ∧ isD (g 1 (q - 1)) = true
      · exact ⟨y.1, by unfold isLD; rw [y.2]; simp⟩
      · rw [if_neg y] at z; omega
  · split <;> omega
theorem tk_D (hL : Rlk I g q) (hq : q < g 0 0) (hd : isD (g 1 q) = true) (h16 : g 0 0 ≤ 1600) : (I 0 2 = I 0 4 ↔ tk g q = 258) ∧ (tk g q = 257 ∨ tk g q = 258) := by
  obtain ⟨-, ⟨h1, h2, c, h3, h5, h6, h7⟩, -⟩ := hL
  have hnl0 : isL (g 1 q) = false := by
    rw [isD_t] at hd
    unfold isL; exact decide_eq_false (by omega)
  have et : tk g q = if 1 ≤ q ∧ isL (g 1 (q - 1)) = true then 258 else 257 := by unfold tk; rw [if_neg (by omega), if_neg (by rw [hnl0]; decide), if_pos hd]
  have e1 : (I 0 2 = I 0 4) ↔ c = q + 1 := by
    rw [h1, h3]
    by_cases z : c = 0
    · subst z; exact ⟨fun y => absurd y (nI_ne_m1 (by omega)), fun y => by omega⟩
    · obtain ⟨j, rfl⟩ : ∃ j, c = j + 1 := ⟨c - 1, by omega⟩
      rw [mI_s, nI_eq (by omega) (by omega)]
      omega
  rw [e1, et]
  have hnl : c = q + 1 → isD (g 1 (q - 1)) = false := fun z => by
    rcases Bool.eq_false_or_eq_true (isD (g 1 (q - 1))) with y | y
    · exact absurd ⟨y, hd⟩ (h7 z hq).2
    · exact y
  constructor
  · rw [h6]
    constructor
    · intro z
      have hn := hnl (h6.mpr z)
      have : isL (g 1 (q - 1)) = true := by
        have := z.2
        unfold isLD at this
        rw [hn] at this
        simpa using this
      rw [if_pos ⟨z.1, this⟩]
    · intro z
      by_cases y : 1 ≤ q ∧ isL (g 1 (q - 1)) = true
      · exact ⟨y.1, by unfold isLD; rw [y.2]; simp⟩
      · rw [if_neg y] at z; omega
  · split <;> omega
end MB

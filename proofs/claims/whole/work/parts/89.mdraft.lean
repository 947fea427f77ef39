/-! the reference: the draft of a school; new ones -/
def FrGm (I : Ii) (J : Jj) (I' : Ii) (J' : Jj) : Prop := (∀ a, a ≠ 0 → (a < 31 ∨ a = 32 ∨ 41 < a) → a ≠ 75 → a ≠ 76 → I' a = I a) ∧ (∀ a k, (a = 31 ∧ 2 ≤ k) ∨ ((a = 33 ∨ a = 34) ∧ 8 ≤ k) ∨ ((a = 38 ∨ a = 39 ∨ a = 40) ∧ 3 ≤ k) ∨ (a = 41 ∧ 1600 ≤ k) → I' a k = I a k) ∧ (∀ k, k ≠ 2 → k ≠ 4 → (k = 5 → I' 0 5 = 0) → (k = 6 → I' 0 5 = 0) → k ≠ 38 → k ≠ 50 → k ≠ 50 → k ≠ 52 → k ≠ 94 → k ≠ 96 → k ≠ 97 → k ≠ 98 → I' 0 k = I 0 k) ∧ (∀ a, a ≠ 32 → J' a = J a) ∧ ∀ k, 16 ≤ k → J' 32 k = J 32 k
theorem FrGm.refl (I : Ii) (J : Jj) : FrGm I J I J := ⟨fun _ _ _ _ _ => rfl, fun _ _ _ => rfl, fun _ _ _ _ _ _ _ _ _ _ _ _ _ => rfl, fun _ _ => rfl, fun _ _ => rfl⟩
theorem FrGm.e5 {I I' : Ii} {J J' : Jj} (h : FrGm I J I' J') (h5 : I' 0 5 = 0) : I 0 5 = 0 := (h.2.2.1 5 (by omega) (by omega) (fun _ => h5) (by omega) (by omega) (by omega) (by omega) (by omega) (by omega) (by omega) (by omega) (by omega)).symm.trans h5
theorem FrGm.e6 {I I' : Ii} {J J' : Jj} (h : FrGm I J I' J') (h5 : I' 0 5 = 0) : I' 0 6 = I 0 6 := h.2.2.1 6 (by omega) (by omega) (by omega) (fun _ => h5) (by omega) (by omega) (by omega) (by omega) (by omega) (by omega) (by omega) (by omega)
theorem FrGm.trans {I I1 I2 : Ii} {J J1 J2 : Jj} (h1 : FrGm I J I1 J1) (h2 : FrGm I1 J1 I2 J2) : FrGm I J I2 J2 :=
  ⟨fun a b c d e => (h2.1 a b c d e).trans (h1.1 a b c d e), fun a k h => (h2.2.1 a k h).trans (h1.2.1 a k h), fun k a b c d e f g h i j l m => (h2.2.2.1 k a b c d e f g h i j l m).trans (h1.2.2.1 k a b (fun z => h2.e5 (c z)) (fun z => h2.e5 (d z)) e f g h i j l m), fun a ha => (h2.2.2.2.1 a ha).trans (h1.2.2.2.1 a ha), fun k hk => (h2.2.2.2.2 k hk).trans (h1.2.2.2.2 k hk)⟩
theorem FrQm.G {I I' : Ii} {J : Jj} (h : FrQm I I') : FrGm I J I' J := ⟨fun a a0 _ a5 a6 => h.1 a a0 a5 a6, fun a k hk => by rw [h.1 a (by omega) (by omega) (by omega)], fun k a b c d e _ _ _ f g h' i => h.2 k a b c d e f g h' i, fun _ _ => rfl, fun _ _ => rfl⟩
theorem FrK.G {I I' : Ii} {J : Jj} (h : FrK I I') : FrGm I J I' J := h.Q.G
theorem FrGm.u {I : Ii} {J : Jj} {a k : Nat} {v : Int32} (h : (a = 31 ∧ k < 2) ∨ ((a = 33 ∨ a = 34) ∧ k < 8) ∨ (a = 35 ∨ a = 36 ∨ a = 37) ∨ ((a = 38 ∨ a = 39 ∨ a = 40) ∧ k < 3) ∨ (a = 41 ∧ k < 1600)) : FrGm I J (u2 I a k v) J := by
  refine ⟨fun b b0 b1 b5 b6 => u2_row (by omega), fun b j hj => ?_, fun j _ _ _ _ _ _ _ _ _ _ _ _ => by rw [u2_row (by omega)], fun _ _ => rfl, fun _ _ => rfl⟩
  by_cases e : b = a
  · subst e; exact u2_k (by omega)
  · rw [u2_row e]
theorem FrGm.f {I : Ii} {J : Jj} {k : Nat} {v : Int32} (h : k = 50 ∨ k = 52 ∨ k = 94 ∨ k = 96 ∨ k = 97 ∨ k = 98) : FrGm I J (u2 I 0 k v) J :=
  ⟨fun b b0 _ _ _ => u2_row b0, fun b j hj => by rw [u2_row (by omega)], fun j _ _ _ _ _ _ _ _ _ _ _ _ => u2_k (by omega), fun _ _ => rfl, fun _ _ => rfl⟩
theorem FrGm.w {I : Ii} {J : Jj} {k : Nat} {v : Int64} (h : k < 16) : FrGm I J I (w2 J 32 k v) :=
  ⟨fun _ _ _ _ _ => rfl, fun _ _ _ => rfl, fun _ _ _ _ _ _ _ _ _ _ _ _ _ => rfl, fun a ha => by funext j; rw [w2_o ha], fun j hj => w2_k (by omega)⟩
theorem TxG.G {I I' : Ii} {J J' : Jj} {g : Sx} (h : TxG I g) (hk : FrGm I J I' J') : TxG I' g := by
  refine ⟨by rw [hk.2.2.1 3 (by omega) (by omega) (by omega) (by omega) (by omega) (by omega) (by omega) (by omega) (by omega) (by omega) (by omega) (by omega)]; exact h.1, by rw [hk.1 1 (by omega) (by omega) (by omega) (by omega)]; exact h.2.1, fun a ha k hk' => ?_⟩
  rw [hk.1 a (by omega) (by omega) (by omega) (by omega)]; exact h.2.2 a ha k hk'
def EnLd (I : Ii) (w : Nat) (cs : List Nat) (z : Nat) : Prop := (cs = [] ∧ I 39 w = -1) ∨ (cs ≠ [] ∧ ∃ f, I 39 w = nI f ∧ I 40 w = nI (f + cs.length) ∧ f + cs.length ≤ z ∧ ∀ i, i < cs.length → I 41 (f + i) = nI (cs.getD i 0))
def Dk (I : Ii) (J : Jj) (D : Dr) : Prop := (I 31 0 = nI (D.1 0 0) ∧ D.1 0 0 ≤ 8) ∧ (I 31 1 = nI (D.1 0 1) ∧ D.1 0 1 ≤ 8) ∧ (∀ f, f < D.1 0 0 → J 32 f = lN (n27 (D.1 1 f)) ∧ nmOK (D.1 1 f) ∧ I 33 f = nI (D.1 2 f) ∧ D.1 2 f ≤ 9) ∧ (∀ p, p < D.1 0 1 → J 32 (8 + p) = lN (n27 (D.1 3 p)) ∧ nmOK (D.1 3 p) ∧ I 34 p = nI (D.1 4 p) ∧ D.1 4 p ≤ 99)
def Dn (I : Ii) (D : Dr) : Prop := (I 38 0 = nI (D.1 0 2) ∧ D.1 0 2 ≤ 99) ∧ (I 38 1 = nI (D.1 0 3) ∧ D.1 0 3 ≤ 9) ∧ (I 38 2 = nI (D.1 0 4) ∧ D.1 0 4 ≤ 100)
def Dl (I : Ii) (D : Dr) (z : Nat) : Prop := (∀ w, w < 3 → EnLd I w (D.2.1 w) z) ∧ LOK D.2.1 ∧ (I 0 50 = nI z ∧ z ≤ 1600)
def Ds (I : Ii) (D : Dr) : Prop := (∀ p, p < 8 → I 35 p = nI (D.2.2 1 p) ∧ I 36 p = nI (D.2.2 2 p) ∧ I 37 p = mI (D.2.2 0 p)) ∧ okS D.1 D.2.2 ∧ ∀ k, D.2.2 3 k = 0 ∧ D.2.2 4 k = 0
def EnDm (I : Ii) (J : Jj) (D : Dr) (z : Nat) : Prop := Dk I J D ∧ Dn I D ∧ Dl I D z ∧ Ds I D
theorem Dk.k {I I' : Ii} {J J' : Jj} {D : Dr} (h : Dk I J D) (h1 : I' 31 = I 31) (h3 : I' 33 = I 33) (h4 : I' 34 = I 34) (hj : J' 32 = J 32) : Dk I' J' D := by unfold Dk; rw [h1, h3, h4, hj]; exact h
theorem Dn.k {I I' : Ii} {D : Dr} (h : Dn I D) (h1 : I' 38 = I 38) : Dn I' D := by unfold Dn; rw [h1]; exact h
theorem Dl.k {I I' : Ii} {D : Dr} {z : Nat} (h : Dl I D z) (h1 : I' 39 = I 39) (h3 : I' 40 = I 40) (h4 : I' 41 = I 41) (h0 : I' 0 50 = I 0 50) : Dl I' D z := by unfold Dl EnLd; rw [h1, h3, h4, h0]; exact h
theorem Ds.k {I I' : Ii} {D : Dr} (h : Ds I D) (h1 : I' 35 = I 35) (h3 : I' 36 = I 36) (h4 : I' 37 = I 37) : Ds I' D := by unfold Ds; rw [h1, h3, h4]; exact h
theorem EnDm.Q {I I' : Ii} {J : Jj} {D : Dr} {z : Nat} (h : EnDm I J D z) (hk : FrQm I I') : EnDm I' J D z := by
  have r : ∀ a, 31 ≤ a → a ≤ 41 → I' a = I a := fun a h1 h2 => hk.1 a (by omega) (by omega) (by omega)
  have e0 : I' 0 50 = I 0 50 := hk.2 50 (by omega) (by omega) (by omega) (by omega) (by omega) (by omega) (by omega) (by omega) (by omega)
  exact ⟨h.1.k (r 31 (by omega) (by omega)) (r 33 (by omega) (by omega)) (r 34 (by omega) (by omega)) rfl, h.2.1.k (r 38 (by omega) (by omega)), h.2.2.1.k (r 39 (by omega) (by omega)) (r 40 (by omega) (by omega)) (r 41 (by omega) (by omega)) e0, h.2.2.2.k (r 35 (by omega) (by omega)) (r 36 (by omega) (by omega)) (r 37 (by omega) (by omega))⟩
theorem EnDm.K {I I' : Ii} {J : Jj} {D : Dr} {z : Nat} (h : EnDm I J D z) (hk : FrK I I') : EnDm I' J D z := h.Q hk.Q
/-- what a statement comes to -/
def SOm (g : Sx) (I : Ii) (J : Jj) (r : SR) (I' : Ii) (J' : Jj) : Prop := FrGm I J I' J' ∧ (r.1 = 0 → Rpr I' g r.2.1 ∧ ∃ z, EnDm I' J' r.2.2 z ∧ z ≤ r.2.1) ∧ (r.1 ≠ 0 → r.1 < 10 ∧ Flm I' r.1 r.2.1)
section MY
variable {d : Nat} {I : Ii} {J : Jj} {g : Sx} {q z : Nat} {D : Dr}
theorem SOm.ok {I1 : Ii} {J1 : Jj} {r : SR} {z : Nat} (hf : FrGm I J I1 J1) (h0 : r.1 = 0) (hr : Rpr I1 g r.2.1) (hD : EnDm I1 J1 r.2.2 z) (hz : z ≤ r.2.1) : SOm g I J r I1 J1 := ⟨hf, fun _ => ⟨hr, z, hD, hz⟩, fun e => absurd h0 e⟩
theorem SOm.no {I1 : Ii} {J1 : Jj} {r : SR} (hf : FrGm I J I1 J1) (h0 : r.1 ≠ 0) (h1 : r.1 < 10) (hF : Flm I1 r.1 r.2.1) : SOm g I J r I1 J1 := ⟨hf, fun e => absurd e h0, fun _ => ⟨h1, hF⟩⟩
theorem nam_f : (nam g q).1 < 10 := by
  unfold nam
  split
  · split
    · split <;> simp
    · simp
  · simp
theorem nwn_f {sc : Sx} : (nwn g sc q).1 < 10 := by
  unfold nwn
  split
  · exact nam_f
  · split <;> simp
theorem kno_f {f : Nat → Nat} {n : Nat} : (kno g f n q).1 < 10 := by
  unfold kno
  split
  · exact nam_f
  · split <;> simp
theorem nmf_f {a b : Nat} : (nmf g a b q).1 < 10 := by
  unfold nmf
  split
  · split
    · split <;> simp
    · simp
  · simp
theorem m_nameOf_b {i n : Nat} {x : Int64} {K : KI} (hi : i < 2) (hn : n ≤ 8) (h31 : I 31 i = nI n) (h : ∀ v, K v I J) : CalI wM d mX13_nameOf [.ref 0, .int (nI i), .long x] I J K := by
  have key : ∀ e k, k + e = n → GoI wM d mX13_nameOf 3 [(0, .ref 0), (1, .int (nI i)), (2, .long x), (4, .int (nI k))] [] I J K := by
    intro e
    induction e with
    | zero =>
      intro k hk
      obtain rfl : k = n := by omega
      refine bX13_nameOf_3 ⟨vp_in_nI (by omega) (by omega), ?_⟩
      rw [nI_clamp (by omega), h31]
      exact ⟨fun _ => h _, fun z => absurd (nI_le (Nat.le_refl _) (by omega)) z⟩
    | succ e ih =>
      intro k hk
      refine bX13_nameOf_3 ⟨vp_in_nI (by omega) (by omega), ?_⟩
      rw [nI_clamp (by omega), h31, show (8 : Int32) = nI 8 from rfl, pk_mul, nI_add, nI_1]
      exact ⟨fun z => absurd ((nI_leI (by omega) (by omega)).mp z) (by omega), fun _ => ⟨vp_in_nI (by omega) (by omega), fun z => ih (k + 1) (by omega), fun z => h _⟩⟩
  exact Cal.of (by decide) (Nat.le_of_ble_eq_true rfl) (bX13_nameOf_0 (key n 0 (by omega)))
/-- the names of a kind -/
theorem Dk.nm {i : Nat} (h : Dk I J D) (hi : i = 0 ∨ i = 1) : (I 31 i = nI (D.1 0 i) ∧ D.1 0 i ≤ 8) ∧ ∀ k, k < D.1 0 i → J 32 (8 * i + k) = lN (n27 (D.1 (2 * i + 1) k)) ∧ nmOK (D.1 (2 * i + 1) k) := by
  rcases hi with rfl | rfl
  · exact ⟨h.1, fun k hk => ⟨by rw [show 8 * 0 + k = k by omega]; exact (h.2.2.1 k hk).1, (h.2.2.1 k hk).2.1⟩⟩
  · exact ⟨h.2.1, fun k hk => ⟨(h.2.2.2 k hk).1, (h.2.2.2 k hk).2.1⟩⟩
theorem m_newName {K : KL} (hG : TxG I g) (hp : Rpr I g q) (hD : EnDm I J D z) (h1 : (nwn g D.1 q).1 = 0 → nmOK (tpk g q) → ∀ I', FrK I I' → Rpr I' g (adv g q) → K (lN (n27 (tpk g q))) I' J) (h0 : (nwn g D.1 q).1 ≠ 0 → ∀ v I', FrK I I' → Flm I' (nwn g D.1 q).1 (nwn g D.1 q).2.1 → K v I' J) : CalL wM (d + 4) mX13_newName [.ref 0] I J K := by
  have skip : ∀ (v : Int64) (I1 : Ii) (k : Nat), k ≤ 2 → ¬ I1 0 5 = 0 → K v I1 J → GoL wM (d + 4) mX13_newName 7 [(0, .ref 0), (1, .long v), (3, .int (nI k))] [] I1 J K := by
    intro v I1 k hk h5 hK
    have l2 : GoL wM (d + 4) mX13_newName 7 [(0, .ref 0), (1, .long v), (3, .int (nI 2))] [] I1 J K := bX13_newName_7 ⟨fun _ => hK, fun y => absurd (by decide) y⟩
    have l1 : GoL wM (d + 4) mX13_newName 7 [(0, .ref 0), (1, .long v), (3, .int (nI 1))] [] I1 J K := bX13_newName_7 ⟨fun y => absurd y (by decide), fun _ => ⟨fun _ => l2, fun y => absurd y h5⟩⟩
    rcases (show k = 0 ∨ k = 1 ∨ k = 2 by omega) with rfl | rfl | rfl
    · exact bX13_newName_7 ⟨fun y => absurd y (by decide), fun _ => ⟨fun _ => l1, fun y => absurd y h5⟩⟩
    · exact l1
    · exact l2
  refine Cal.of (by decide) (Nat.le_of_ble_eq_true rfl) (bX13_newName_0 (m_name hG hp (fun hz hn I1 f1 r1 e38 => ?_) (fun hz v I1 f1 l1 => ?_)))
  · have hD1 := hD.K f1
    obtain ⟨a0, b0⟩ := hD1.1.nm (Or.inl rfl)
    obtain ⟨a1, b1⟩ := hD1.1.nm (Or.inr rfl)
    have fail : (plc (D.1 1) (D.1 0 0) (tpk g q) ≠ D.1 0 0 ∨ plc (D.1 3) (D.1 0 1) (tpk g q) ≠ D.1 0 1) → ∀ k, k ≤ 2 → CalV wM (d + 3) mX13_fail [.ref 0, .int 3, .int (I1 0 38)] I1 J (fun I7 J8 => GoL wM (d + 4) mX13_newName 7 [(0, .ref 0), (1, .long (lN (n27 (tpk g q)))), (3, .int (nI k))] [] I7 J8 K) := fun y k hk => by
      have en : nwn g D.1 q = (3, q, 0) := by unfold nwn; rw [if_neg (fun v => v hz), if_pos y]
      rw [e38]
      exact m_fail (k := 3) r1.1 (fun I2 f2 e5 e6 _ => skip _ I2 k hk (by rw [e5]; decide) (h0 (by rw [en]; simp) _ I2 (f1.trans f2) (by rw [en]; exact ⟨e5, e6⟩)))
    refine bX13_newName_7 ⟨fun y => absurd y (by decide), fun _ => ⟨fun y => absurd r1.1 y, fun _ => m_nameOf (i := 0) (by omega) a0.2 a0.1 b0 hn ⟨fun y => ?_, fun y => ?_⟩⟩⟩
    · have e0 : plc (D.1 1) (D.1 0 0) (tpk g q) = D.1 0 0 := by
        by_cases v : plc (D.1 1) (D.1 0 0) (tpk g q) = D.1 0 0
        · exact v
        · have := plc_le (D.1 1) (D.1 0 0) (tpk g q)
          have v' : ¬ plc (D.1 (2 * 0 + 1)) (D.1 0 0) (tpk g q) = D.1 0 0 := v
          rw [if_neg v'] at y; exact absurd y (nI_ne_m1 (by show plc (D.1 1) (D.1 0 0) (tpk g q) < 2 ^ 31; omega))
      refine bX13_newName_7 ⟨fun y => absurd y (by decide), fun _ => ⟨fun y => absurd r1.1 y, fun _ => m_nameOf (i := 1) (by omega) a1.2 a1.1 b1 hn ⟨fun y => ?_, fun y => ?_⟩⟩⟩
      · have e1 : plc (D.1 3) (D.1 0 1) (tpk g q) = D.1 0 1 := by
          by_cases v : plc (D.1 3) (D.1 0 1) (tpk g q) = D.1 0 1
          · exact v
          · have := plc_le (D.1 3) (D.1 0 1) (tpk g q)
            have v' : ¬ plc (D.1 (2 * 1 + 1)) (D.1 0 1) (tpk g q) = D.1 0 1 := v
            rw [if_neg v'] at y; exact absurd y (nI_ne_m1 (by show plc (D.1 3) (D.1 0 1) (tpk g q) < 2 ^ 31; omega))
        refine bX13_newName_7 ⟨fun _ => h1 ?_ hn I1 f1 r1, fun y => absurd (by decide) y⟩
        unfold nwn
        rw [if_neg (fun v => v hz), if_neg (by omega)]
      · refine fail (Or.inr (fun v => y ?_)) 2 (by omega)
        have v' : plc (D.1 (2 * 1 + 1)) (D.1 0 1) (tpk g q) = D.1 0 1 := v
        rw [if_pos v']
    · refine fail (Or.inl (fun v => y ?_)) 1 (by omega)
      have v' : plc (D.1 (2 * 0 + 1)) (D.1 0 0) (tpk g q) = D.1 0 0 := v
      rw [if_pos v']
  · have en : nwn g D.1 q = ((nam g q).1, (nam g q).2, 0) := by unfold nwn; rw [if_pos hz]
    exact skip _ I1 0 (by omega) (l1.b ⟨by omega, nam_f⟩) (h0 (by rw [en]; exact hz) _ I1 f1 (by rw [en]; exact l1))
theorem m_oneOf {i : Nat} {K : KI} (hi : i = 0 ∨ i = 1) (hG : TxG I g) (hp : Rpr I g q) (hD : EnDm I J D z) (h1 : (kno g (D.1 (2 * i + 1)) (D.1 0 i) q).1 = 0 → (kno g (D.1 (2 * i + 1)) (D.1 0 i) q).2.2 < D.1 0 i → ∀ I', FrK I I' → Rpr I' g (adv g q) → I' 0 38 = nI q → K (nI (kno g (D.1 (2 * i + 1)) (D.1 0 i) q).2.2) I' J) (h0 : (kno g (D.1 (2 * i + 1)) (D.1 0 i) q).1 ≠ 0 → ∀ I', FrK I I' → Flm I' (kno g (D.1 (2 * i + 1)) (D.1 0 i) q).1 (kno g (D.1 (2 * i + 1)) (D.1 0 i) q).2.1 → K 0 I' J) : CalI wM (d + 4) mX13_oneOf [.ref 0, .int (nI i)] I J K := by
  refine Cal.of (by decide) (Nat.le_of_ble_eq_true rfl) (bX13_oneOf_0 (m_name hG hp (fun hz hn I1 f1 r1 e38 => ?_) (fun hz v I1 f1 l1 => ?_)))
  · obtain ⟨a0, b0⟩ := (hD.K f1).1.nm hi
    have hle := plc_le (D.1 (2 * i + 1)) (D.1 0 i) (tpk g q)
    refine m_nameOf (by omega) a0.2 a0.1 b0 hn ⟨fun y => absurd r1.1 y, fun _ => ⟨fun y => ?_, fun y => ?_⟩⟩
    · have v : ¬ plc (D.1 (2 * i + 1)) (D.1 0 i) (tpk g q) = D.1 0 i := fun v => y (by rw [if_pos v])
      have en : kno g (D.1 (2 * i + 1)) (D.1 0 i) q = (0, adv g q, plc (D.1 (2 * i + 1)) (D.1 0 i) (tpk g q)) := by unfold kno; rw [if_neg (fun v => v hz), if_neg v]
      rw [if_neg v]
      have := h1 (by rw [en]) (by rw [en]; simp only; omega) I1 f1 r1 e38
      rw [en] at this
      exact this
    · have v : plc (D.1 (2 * i + 1)) (D.1 0 i) (tpk g q) = D.1 0 i := by
        by_cases v : plc (D.1 (2 * i + 1)) (D.1 0 i) (tpk g q) = D.1 0 i
        · exact v
        · rw [if_neg v] at y; exact absurd y (nI_ne_m1 (by omega))
      have en : kno g (D.1 (2 * i + 1)) (D.1 0 i) q = (3, q, 0) := by unfold kno; rw [if_neg (fun v => v hz), if_pos v]
      rw [e38]
      refine m_fail (k := 3) r1.1 (fun I2 f2 e5 e6 _ => ⟨fun _ => h0 (by rw [en]; simp) I2 (f1.trans f2) (by rw [en]; exact ⟨e5, e6⟩), fun y => absurd y (by rw [e5]; decide)⟩)
  · obtain ⟨a0, -⟩ := (hD.K f1).1.nm hi
    have en : kno g (D.1 (2 * i + 1)) (D.1 0 i) q = ((nam g q).1, (nam g q).2, 0) := by unfold kno; rw [if_pos hz]
    have n5 := l1.b ⟨by omega, nam_f⟩
    exact m_nameOf_b (by omega) a0.2 a0.1 (fun v => ⟨fun _ => h0 (by rw [en]; exact hz) I1 f1 (by rw [en]; exact l1), fun y => absurd y n5⟩)
theorem m_oneOf_b {i n : Nat} {K : KI} (hi : i < 2) (hn : n ≤ 8) (h31 : I 31 i = nI n) (h5 : ¬ I 0 5 = 0) (h : K 0 I J) : CalI wM (d + 2) mX13_oneOf [.ref 0, .int (nI i)] I J K :=
  Cal.of (by decide) (Nat.le_of_ble_eq_true rfl) (bX13_oneOf_0 (m_name_b h5 (m_nameOf_b hi hn h31 (fun v => ⟨fun _ => h, fun y => absurd y h5⟩))))
theorem m_isFull {i n : Nat} {K : KI} (hi : i < 2) (hn : n ≤ 8) (h31 : I 31 i = nI n) (h5 : I 0 5 = 0) (h1 : n < 8 → K 0 I J) (h0 : 8 ≤ n → ∀ I', FrK I I' → Flm I' 5 q → K 1 I' J) : CalI wM (d + 1) mX13_isFull [.ref 0, .int (nI i), .int 8, .int (nI q)] I J K := by
  refine Cal.of (by decide) (Nat.le_of_ble_eq_true rfl) (bX13_isFull_0 ⟨fun y => absurd h5 y, fun _ => ⟨vp_in_nI (by omega) (by omega), ?_⟩⟩)
  rw [nI_clamp (by omega), h31, show (8 : Int32) = nI 8 from rfl, nI_eq (by omega) (by omega)]
  exact ⟨fun y => h1 (by omega), fun y => m_fail (k := 5) h5 (fun I1 f1 e5 e6 _ => ⟨fun v => absurd v (by rw [e5]; decide), fun _ => h0 (by omega) I1 f1 ⟨e5, e6⟩⟩)⟩
theorem mz_factTold {q0 : Nat} {K : KV} (hG : TxG I g) (hp : Rpr I g (adv g q)) (hD : EnDm I J D z) (hz : z ≤ adv g q) (hK : ∀ I' J', SOm g I J (sNew g 0 20 1 9 D q) I' J' → K I' J') : CalV wM (d + 5) mX13_factTold [.ref 0, .int (nI q)] I J K := by
  have hle := hp.le
  have h16 := hG.1.2
  have hb : ∀ k, k < g 0 0 → g 1 k < 256 := fun k hk => (hG.2.1 k hk).2
  obtain ⟨⟨a1, a2⟩, -⟩ := hD.1.nm (i := 0) (by omega)
  refine Cal.of (by decide) (Nat.le_of_ble_eq_true rfl) (bX13_factTold_0 (m_isFull (i := 0) (by omega) a2 a1 hp.1 (fun hn => ⟨fun _ => ?_, fun y => absurd rfl y⟩) (fun hn I1 f1 l1 => ⟨fun y => absurd y (by decide), fun _ => hK _ _ ?_⟩)))
  case refine_2 =>
    have e : sNew g 0 20 1 9 D q = (5, q, D) := by unfold sNew; rw [if_pos hn]
    rw [e]
    exact SOm.no f1.G (by simp) (by simp) l1
  have hn' : ¬ 8 ≤ D.1 0 0 := by omega
  refine m_newName (d := d) hG hp hD (fun n0 nok I1 f1 r1 => ?_) (fun n0 v I1 f1 l1 => ?_)
  case refine_2 =>
    have e : sNew g 0 20 1 9 D q = ((nwn g D.1 (adv g q)).1, (nwn g D.1 (adv g q)).2.1, D) := by unfold sNew; rw [if_neg hn', if_pos n0]
    have n5 := l1.b ⟨by omega, nwn_f⟩
    refine m_asks_b (d := d + 1) (a := 4) n5 (by unfold isW; omega) (m_number_b n5 ⟨fun y => absurd y n5, fun _ => hK _ _ ?_⟩)
    rw [e]
    exact SOm.no f1.G n0 nwn_f l1
  refine m_asks (d := d + 1) (a := 4) (hG.K f1) r1 (by unfold isW; omega) (fun w0 I2 f2 r2 => ?_) (fun w0 I2 f2 l2 => ?_)
  case refine_2 =>
    have w0 : wd g (adv g (adv g q)) ≠ 20 := w0
    have e : sNew g 0 20 1 9 D q = (1, adv g (adv g q), D) := by unfold sNew; rw [if_neg hn', if_neg (fun v => v n0), if_pos w0]
    have n5 := l2.b (by omega)
    refine m_number_b n5 ⟨fun y => absurd y n5, fun _ => hK _ _ ?_⟩
    rw [e]
    exact SOm.no (f1.trans f2).G (by simp) (by simp) l2
  have w0 : wd g (adv g (adv g q)) = 20 := w0
  refine m_number (a := 1) (b := 9) (hG.K (f1.trans f2)) r2 (by omega) (by omega) (fun m0 I3 f3 r3 => ?_) (fun m0 v I3 f3 l3 => ?_)
  case refine_2 =>
    have e : sNew g 0 20 1 9 D q = ((nmf g 1 9 (adv g (adv g (adv g q)))).1, (nmf g 1 9 (adv g (adv g (adv g q)))).2, D) := by unfold sNew; rw [if_neg hn', if_neg (fun v => v n0), if_neg (fun v => v w0), if_pos m0]
    have n5 := l3.b ⟨by omega, nmf_f⟩
    refine ⟨fun y => absurd y n5, fun _ => hK _ _ ?_⟩
    rw [e]
    exact SOm.no ((f1.trans f2).trans f3).G m0 nmf_f l3
  have f13 := (f1.trans f2).trans f3
  have e : sNew g 0 20 1 9 D q = (0, adv g (adv g (adv g (adv g q))), scN D.1 0 (tpk g (adv g q)) (tvl g (adv g (adv g (adv g q)))), D.2.1, D.2.2) := by unfold sNew; rw [if_neg hn', if_neg (fun v => v n0), if_neg (fun v => v w0), if_neg (fun v => v m0)]
  have hv9 : tvl g (adv g (adv g (adv g q))) ≤ 9 := by
    unfold nmf at m0
    split at m0
    · split at m0
      · split at m0
        · omega
        · exact absurd m0 (by simp)
      · exact absurd m0 (by simp)
    · exact absurd m0 (by simp)
  have ha : adv g q ≤ adv g (adv g (adv g (adv g q))) := by
    have b1 := adv_le (g := g) hle
    have b2 := adv_le (g := g) b1.1
    have b3 := adv_le (g := g) b2.1
    omega
  have hD3 := hD.K f13
  obtain ⟨⟨hk0, hk1, hkf, hkp⟩, hDn, hDl, hDs⟩ := id hD3
  have c31 : I3 31 0 = nI (D.1 0 0) := hk0.1
  refine ⟨fun _ => ?_, fun y => absurd r3.1 y⟩
  rw [show (0 : Int32).toNatClampNeg = 0 from rfl, c31, nI_clamp (by omega)]
  refine ⟨vp_in_nI (by omega) (by omega), vp_in_nI (by omega) (by omega), ?_⟩
  rintro _ rfl
  rw [u2_row (by omega), c31, nI_1]
  refine hK _ _ ?_
  rw [e]
  generalize hx : adv g (adv g (adv g (adv g q))) = q4 at *
  generalize htv : tvl g (adv g (adv g (adv g q))) = tv at *
  generalize tpk g (adv g q) = nmv at *
  have sN0 : ∀ j, scN D.1 0 nmv tv 0 j = if j = 0 then D.1 0 0 + 1 else D.1 0 j := fun j => by by_cases v : j = 0 <;> simp [scN, up, v]
  have sNr : ∀ a k, a ≠ 0 → a ≠ 1 → a ≠ 2 → scN D.1 0 nmv tv a k = D.1 a k := fun a k b c v => by simp [scN, up, b, c, v]
  have sNa : ∀ k, scN D.1 0 nmv tv 1 k = if k = D.1 0 0 then nmv else D.1 1 k := fun k => by by_cases v : k = D.1 0 0 <;> simp [scN, up, v]
  have sNb : ∀ k, scN D.1 0 nmv tv 2 k = if k = D.1 0 0 then tv else D.1 2 k := fun k => by by_cases v : k = D.1 0 0 <;> simp [scN, up, v]
  refine SOm.ok (z := z) ?_ rfl (r3.eq ?_ ?_ ?_) ⟨⟨?_, ?_, ?_, ?_⟩, ?_, ?_, ?_⟩ (by show z ≤ q4; omega)
  · exact f13.G.trans ((FrGm.u (J := J) (by omega)).trans ((FrGm.u (J := J) (by omega)).trans (FrGm.w (by omega))))
  · rw [u2_row (by omega), u2_row (by omega)]
  · rw [u2_row (by omega), u2_row (by omega)]
  · rw [u2_row (by omega), u2_row (by omega)]
  · show u2 _ 31 0 _ 31 0 = nI (scN D.1 0 nmv tv 0 0) ∧ scN D.1 0 nmv tv 0 0 ≤ 8
    rw [sN0, if_pos rfl, u2_at]; exact ⟨rfl, by omega⟩
  · show u2 _ 31 0 _ 31 1 = nI (scN D.1 0 nmv tv 0 1) ∧ scN D.1 0 nmv tv 0 1 ≤ 8
    rw [sN0, if_neg (by omega), u2_k (by omega), u2_row (by omega)]; exact hk1
  · intro f hf
    have hf : f < scN D.1 0 nmv tv 0 0 := hf
    rw [sN0, if_pos rfl] at hf
    show w2 J 32 (D.1 0 0) _ 32 f = lN (n27 (scN D.1 0 nmv tv 1 f)) ∧ nmOK (scN D.1 0 nmv tv 1 f) ∧ u2 _ 31 0 _ 33 f = nI (scN D.1 0 nmv tv 2 f) ∧ scN D.1 0 nmv tv 2 f ≤ 9
    rw [sNa, sNb, u2_row (by omega)]
    by_cases v : f = D.1 0 0
    · rw [if_pos v, if_pos v, v, w2_at, u2_at]; exact ⟨rfl, nok, rfl, hv9⟩
    · rw [if_neg v, if_neg v, w2_k v, u2_k v]; exact hkf f (by omega)
  · intro p hp2
    have hp2 : p < scN D.1 0 nmv tv 0 1 := hp2
    rw [sN0, if_neg (by omega)] at hp2
    show w2 J 32 (D.1 0 0) _ 32 (8 + p) = lN (n27 (scN D.1 0 nmv tv 3 p)) ∧ nmOK (scN D.1 0 nmv tv 3 p) ∧ u2 _ 31 0 _ 34 p = nI (scN D.1 0 nmv tv 4 p) ∧ scN D.1 0 nmv tv 4 p ≤ 99
    rw [sNr 3 p (by omega) (by omega) (by omega), sNr 4 p (by omega) (by omega) (by omega), w2_k (by omega), u2_row (by omega), u2_row (by omega)]
    exact hkp p hp2
  · show Dn _ (scN D.1 0 nmv tv, D.2.1, D.2.2)
    unfold Dn
    rw [show (scN D.1 0 nmv tv, D.2.1, D.2.2).1 = scN D.1 0 nmv tv from rfl, sN0, sN0, sN0, if_neg (by omega), if_neg (by omega), if_neg (by omega), u2_row (by omega), u2_row (by omega)]
    exact hDn
  · exact Dl.k (D := D) hDl (by rw [u2_row (by omega), u2_row (by omega)]) (by rw [u2_row (by omega), u2_row (by omega)]) (by rw [u2_row (by omega), u2_row (by omega)]) (by rw [u2_row (by omega), u2_row (by omega)])
  · obtain ⟨s1, s2, s3⟩ := hDs
    refine ⟨fun p hp2 => ?_, okS_sc (sc' := scN D.1 0 nmv tv) s2 (scN_ge _ _) (scN_ge _ _), s3⟩
    rw [u2_row (by omega), u2_row (by omega), u2_row (by omega), u2_row (by omega), u2_row (by omega), u2_row (by omega)]
    exact s1 p hp2
theorem mz_personTold {q0 : Nat} {K : KV} (hG : TxG I g) (hp : Rpr I g (adv g q)) (hD : EnDm I J D z) (hz : z ≤ adv g q) (hK : ∀ I' J', SOm g I J (sNew g 1 16 0 99 D q) I' J' → K I' J') : CalV wM (d + 5) mX13_personTold [.ref 0, .int (nI q)] I J K := by
  have hle := hp.le
  have h16 := hG.1.2
  have hb : ∀ k, k < g 0 0 → g 1 k < 256 := fun k hk => (hG.2.1 k hk).2
  obtain ⟨⟨a1, a2⟩, -⟩ := hD.1.nm (i := 1) (by omega)
  refine Cal.of (by decide) (Nat.le_of_ble_eq_true rfl) (bX13_personTold_0 (m_isFull (i := 1) (by omega) a2 a1 hp.1 (fun hn => ⟨fun _ => ?_, fun y => absurd rfl y⟩) (fun hn I1 f1 l1 => ⟨fun y => absurd y (by decide), fun _ => hK _ _ ?_⟩)))
  case refine_2 =>
    have e : sNew g 1 16 0 99 D q = (5, q, D) := by unfold sNew; rw [if_pos hn]
    rw [e]
    exact SOm.no f1.G (by simp) (by simp) l1
  have hn' : ¬ 8 ≤ D.1 0 1 := by omega
  refine m_newName (d := d) hG hp hD (fun n0 nok I1 f1 r1 => ?_) (fun n0 v I1 f1 l1 => ?_)
  case refine_2 =>
    have e : sNew g 1 16 0 99 D q = ((nwn g D.1 (adv g q)).1, (nwn g D.1 (adv g q)).2.1, D) := by unfold sNew; rw [if_neg hn', if_pos n0]
    have n5 := l1.b ⟨by omega, nwn_f⟩
    refine m_asks_b (d := d + 1) (a := 6) n5 (by unfold isW; omega) (m_number_b n5 ⟨fun y => absurd y n5, fun _ => hK _ _ ?_⟩)
    rw [e]
    exact SOm.no f1.G n0 nwn_f l1
  refine m_asks (d := d + 1) (a := 6) (hG.K f1) r1 (by unfold isW; omega) (fun w0 I2 f2 r2 => ?_) (fun w0 I2 f2 l2 => ?_)
  case refine_2 =>
    have w0 : wd g (adv g (adv g q)) ≠ 16 := w0
    have e : sNew g 1 16 0 99 D q = (1, adv g (adv g q), D) := by unfold sNew; rw [if_neg hn', if_neg (fun v => v n0), if_pos w0]
    have n5 := l2.b (by omega)
    refine m_number_b n5 ⟨fun y => absurd y n5, fun _ => hK _ _ ?_⟩
    rw [e]
    exact SOm.no (f1.trans f2).G (by simp) (by simp) l2
  have w0 : wd g (adv g (adv g q)) = 16 := w0
  refine m_number (a := 0) (b := 99) (hG.K (f1.trans f2)) r2 (by omega) (by omega) (fun m0 I3 f3 r3 => ?_) (fun m0 v I3 f3 l3 => ?_)
  case refine_2 =>
    have e : sNew g 1 16 0 99 D q = ((nmf g 0 99 (adv g (adv g (adv g q)))).1, (nmf g 0 99 (adv g (adv g (adv g q)))).2, D) := by unfold sNew; rw [if_neg hn', if_neg (fun v => v n0), if_neg (fun v => v w0), if_pos m0]
    have n5 := l3.b ⟨by omega, nmf_f⟩
    refine ⟨fun y => absurd y n5, fun _ => hK _ _ ?_⟩
    rw [e]
    exact SOm.no ((f1.trans f2).trans f3).G m0 nmf_f l3
  have f13 := (f1.trans f2).trans f3
  have e : sNew g 1 16 0 99 D q = (0, adv g (adv g (adv g (adv g q))), scN D.1 1 (tpk g (adv g q)) (tvl g (adv g (adv g (adv g q)))), D.2.1, D.2.2) := by unfold sNew; rw [if_neg hn', if_neg (fun v => v n0), if_neg (fun v => v w0), if_neg (fun v => v m0)]
  have hv9 : tvl g (adv g (adv g (adv g q))) ≤ 99 := by
    unfold nmf at m0
    split at m0
    · split at m0
      · split at m0
        · omega
        · exact absurd m0 (by simp)
      · exact absurd m0 (by simp)
    · exact absurd m0 (by simp)
  have ha : adv g q ≤ adv g (adv g (adv g (adv g q))) := by
    have b1 := adv_le (g := g) hle
    have b2 := adv_le (g := g) b1.1
    have b3 := adv_le (g := g) b2.1
    omega
  have hD3 := hD.K f13
  obtain ⟨⟨hk0, hk1, hkf, hkp⟩, hDn, hDl, hDs⟩ := id hD3
  have c31 : I3 31 1 = nI (D.1 0 1) := hk1.1
  refine ⟨fun _ => ?_, fun y => absurd r3.1 y⟩
  rw [show (1 : Int32).toNatClampNeg = 1 from rfl, c31, ix8, nI_clamp (by omega), nI_clamp (by omega)]
  refine ⟨vp_in_nI (by omega) (by omega), vp_in_nI (by omega) (by omega), ?_⟩
  rintro _ rfl
  rw [u2_row (by omega), c31, nI_1]
  refine hK _ _ ?_
  rw [e]
  generalize hx : adv g (adv g (adv g (adv g q))) = q4 at *
  generalize htv : tvl g (adv g (adv g (adv g q))) = tv at *
  generalize tpk g (adv g q) = nmv at *
  have sN0 : ∀ j, scN D.1 1 nmv tv 0 j = if j = 1 then D.1 0 1 + 1 else D.1 0 j := fun j => by by_cases v : j = 1 <;> simp [scN, up, v]
  have sNr : ∀ a k, a ≠ 0 → a ≠ 3 → a ≠ 4 → scN D.1 1 nmv tv a k = D.1 a k := fun a k b c v => by simp [scN, up, b, c, v]
  have sNa : ∀ k, scN D.1 1 nmv tv 3 k = if k = D.1 0 1 then nmv else D.1 3 k := fun k => by by_cases v : k = D.1 0 1 <;> simp [scN, up, v]
  have sNb : ∀ k, scN D.1 1 nmv tv 4 k = if k = D.1 0 1 then tv else D.1 4 k := fun k => by by_cases v : k = D.1 0 1 <;> simp [scN, up, v]
  refine SOm.ok (z := z) ?_ rfl (r3.eq ?_ ?_ ?_) ⟨⟨?_, ?_, ?_, ?_⟩, ?_, ?_, ?_⟩ (by show z ≤ q4; omega)
  · exact f13.G.trans ((FrGm.u (J := J) (by omega)).trans ((FrGm.u (J := J) (by omega)).trans (FrGm.w (by omega))))
  · rw [u2_row (by omega), u2_row (by omega)]
  · rw [u2_row (by omega), u2_row (by omega)]
  · rw [u2_row (by omega), u2_row (by omega)]
  · show u2 _ 31 1 _ 31 0 = nI (scN D.1 1 nmv tv 0 0) ∧ scN D.1 1 nmv tv 0 0 ≤ 8
    rw [sN0, if_neg (by omega), u2_k (by omega), u2_row (by omega)]; exact hk0
  · show u2 _ 31 1 _ 31 1 = nI (scN D.1 1 nmv tv 0 1) ∧ scN D.1 1 nmv tv 0 1 ≤ 8
    rw [sN0, if_pos rfl, u2_at]; exact ⟨rfl, by omega⟩
  · intro f hf
    have hf : f < scN D.1 1 nmv tv 0 0 := hf
    rw [sN0, if_neg (by omega)] at hf
    show w2 J 32 (8 + D.1 0 1) _ 32 f = lN (n27 (scN D.1 1 nmv tv 1 f)) ∧ nmOK (scN D.1 1 nmv tv 1 f) ∧ u2 _ 31 1 _ 33 f = nI (scN D.1 1 nmv tv 2 f) ∧ scN D.1 1 nmv tv 2 f ≤ 9
    rw [sNr 1 f (by omega) (by omega) (by omega), sNr 2 f (by omega) (by omega) (by omega), w2_k (by omega), u2_row (by omega), u2_row (by omega)]
    exact hkf f hf
  · intro p hp2
    have hp2 : p < scN D.1 1 nmv tv 0 1 := hp2
    rw [sN0, if_pos rfl] at hp2
    show w2 J 32 (8 + D.1 0 1) _ 32 (8 + p) = lN (n27 (scN D.1 1 nmv tv 3 p)) ∧ nmOK (scN D.1 1 nmv tv 3 p) ∧ u2 _ 31 1 _ 34 p = nI (scN D.1 1 nmv tv 4 p) ∧ scN D.1 1 nmv tv 4 p ≤ 99
    rw [sNa, sNb, u2_row (by omega)]
    by_cases v : p = D.1 0 1
    · rw [if_pos v, if_pos v, v, w2_at, u2_at]; exact ⟨rfl, nok, rfl, hv9⟩
    · rw [if_neg v, if_neg v, w2_k (by omega), u2_k v]; exact hkp p (by omega)
  · show Dn _ (scN D.1 1 nmv tv, D.2.1, D.2.2)
    unfold Dn
    rw [show (scN D.1 1 nmv tv, D.2.1, D.2.2).1 = scN D.1 1 nmv tv from rfl, sN0, sN0, sN0, if_neg (by omega), if_neg (by omega), if_neg (by omega), u2_row (by omega), u2_row (by omega)]
    exact hDn
  · exact Dl.k (D := D) hDl (by rw [u2_row (by omega), u2_row (by omega)]) (by rw [u2_row (by omega), u2_row (by omega)]) (by rw [u2_row (by omega), u2_row (by omega)]) (by rw [u2_row (by omega), u2_row (by omega)])
  · obtain ⟨s1, s2, s3⟩ := hDs
    refine ⟨fun p hp2 => ?_, okS_sc (sc' := scN D.1 1 nmv tv) s2 (scN_ge _ _) (scN_ge _ _), s3⟩
    rw [u2_row (by omega), u2_row (by omega), u2_row (by omega), u2_row (by omega), u2_row (by omega), u2_row (by omega)]
    exact s1 p hp2
end MY

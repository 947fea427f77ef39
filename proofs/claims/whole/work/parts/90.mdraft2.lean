/-! the reference: beliefs, masters, laws, numbers told -/
section MZ
variable {d : Nat} {I : Ii} {J : Jj} {g : Sx} {q z : Nat} {D : Dr}
theorem s_o8 {sc s : Sx} (hF : sc 0 0 ≤ 8) (h : okS sc s) {k : Nat} (hk : k < 8) : s 1 k < 256 ∧ s 2 k < 256 := by
  have := h.1.1 k hk
  have := p2_8 hF
  omega
theorem bel_or {s : Sx} {p f : Nat} : bq (s 1 p ||| s 2 p) f = 1 ↔ bel s p f ≠ 0 := by
  rw [bq_or]
  unfold bel
  by_cases e1 : bq (s 1 p) f = 1
  · simp [e1]
  · by_cases e2 : bq (s 2 p) f = 1
    · simp [e1, e2]
    · simp [e1, e2]
theorem mz_beliefTold {b : Nat} {x : Int32} {K : KV} (hb : (b = 1 ∧ x = 1) ∨ (b = 2 ∧ x = 0)) (hG : TxG I g) (hp : Rpr I g (adv g q)) (hD : EnDm I J D z) (hz : z ≤ adv g q) (hK : ∀ I' J', SOm g I J (sBel g b D q) I' J' → K I' J') : CalV wM (d + 5) mX13_beliefTold [.ref 0, .int x] I J K := by
  have hle := hp.le
  have h16 := hG.1.2
  have a2 := adv2 (g := g) hle
  have a3 := adv2 (g := g) a2.1
  refine Cal.of (by decide) (Nat.le_of_ble_eq_true rfl) (bX13_beliefTold_0 (m_oneOf (d := d) (i := 1) (by omega) hG hp hD (fun k0 kl I1 f1 r1 _ => ?_) (fun k0 I1 f1 l1 => ?_)))
  case refine_2 =>
    have k0 : (kno g (D.1 3) (D.1 0 1) (adv g q)).1 ≠ 0 := k0
    have n5 := l1.b ⟨Nat.pos_of_ne_zero k0, kno_f⟩
    have hD1 := hD.K f1
    refine m_oneOf_b (d := d + 2) (i := 0) (by omega) hD1.1.1.2 hD1.1.1.1 n5 ⟨fun _ => hK _ _ ?_, fun y => absurd y n5⟩
    have e : sBel g b D q = ((kno g (D.1 3) (D.1 0 1) (adv g q)).1, (kno g (D.1 3) (D.1 0 1) (adv g q)).2.1, D) := by unfold sBel; rw [if_pos k0]
    rw [e]
    exact SOm.no f1.G k0 kno_f l1
  have k0 : (kno g (D.1 3) (D.1 0 1) (adv g q)).1 = 0 := k0
  have kl : (kno g (D.1 3) (D.1 0 1) (adv g q)).2.2 < D.1 0 1 := kl
  refine m_oneOf (d := d) (i := 0) (by omega) (hG.K f1) r1 (hD.K f1) (fun j0 jl I2 f2 r2 e38 => ?_) (fun j0 I2 f2 l2 => ?_)
  case refine_2 =>
    have j0 : (kno g (D.1 1) (D.1 0 0) (adv g (adv g q))).1 ≠ 0 := j0
    have n5 := l2.b ⟨Nat.pos_of_ne_zero j0, kno_f⟩
    refine ⟨fun _ => hK _ _ ?_, fun y => absurd y n5⟩
    have e : sBel g b D q = ((kno g (D.1 1) (D.1 0 0) (adv g (adv g q))).1, (kno g (D.1 1) (D.1 0 0) (adv g (adv g q))).2.1, D) := by unfold sBel; rw [if_neg (fun v => v k0), if_pos j0]
    rw [e]
    exact SOm.no (f1.trans f2).G j0 kno_f l2
  have j0 : (kno g (D.1 1) (D.1 0 0) (adv g (adv g q))).1 = 0 := j0
  have jl : (kno g (D.1 1) (D.1 0 0) (adv g (adv g q))).2.2 < D.1 0 0 := jl
  have f12 := f1.trans f2
  have hD2 := hD.K f12
  have pre : sBel g b D q = if bel D.2.2 (kno g (D.1 3) (D.1 0 1) (adv g q)).2.2 (kno g (D.1 1) (D.1 0 0) (adv g (adv g q))).2.2 ≠ 0 then (3, adv g (adv g q), D) else (0, adv g (adv g (adv g q)), D.1, D.2.1, blv D.2.2 (kno g (D.1 3) (D.1 0 1) (adv g q)).2.2 (kno g (D.1 1) (D.1 0 0) (adv g (adv g q))).2.2 b) := by
    unfold sBel; rw [if_neg (fun v => v k0), if_neg (fun v => v j0)]
  rw [pre] at hK
  show ((¬ I2 0 5 = 0) → K I2 J) ∧ (I2 0 5 = 0 → _)
  obtain ⟨⟨hk0, hk1, hkf, hkp⟩, hDn, hDl, hs1, hs2, hs3⟩ := id hD2
  have ep : ∀ i', i' = 1 → nI (kno g (D.1 (2 * i' + 1)) (D.1 0 i') (adv g q)).2.2 = nI (kno g (D.1 3) (D.1 0 1) (adv g q)).2.2 := fun i' h => by subst h; rfl
  have ef : ∀ i', i' = 0 → nI (kno g (D.1 (2 * i' + 1)) (D.1 0 i') (adv g (adv g q))).2.2 = nI (kno g (D.1 1) (D.1 0 0) (adv g (adv g q))).2.2 := fun i' h => by subst h; rfl
  rw [ep 1 rfl, ef 0 rfl]
  generalize (kno g (D.1 3) (D.1 0 1) (adv g q)).2.2 = p at *
  generalize (kno g (D.1 1) (D.1 0 0) (adv g (adv g q))).2.2 = f at *
  have hb8 := s_o8 hk0.2 hs2 (k := p) (by omega)
  have hp8 := hs1 p (by omega)
  refine ⟨fun y => absurd r2.1 y, fun _ => ⟨vp_in_nI (by omega) (by omega), ?_⟩⟩
  rw [nI_clamp (by omega), hp8.1, hp8.2.1, nI_or, k8_bit _ (or_lt8 hb8.1 hb8.2) f (by omega), show (1 : Int32) = nI 1 from rfl, nI_eq (by have := bq01 (D.2.2 1 p ||| D.2.2 2 p) f; omega) (by omega), bel_or]
  rw [show nI 1 = (1 : Int32) from rfl]
  refine ⟨fun y => ?_, fun y => ?_⟩
  case refine_2 =>
    rw [if_pos y] at hK
    rw [e38]
    refine m_fail (k := 3) r2.1 (fun I3 f3 e5 e6 _ => ⟨fun v => absurd v (by rw [e5]; decide), fun _ => hK _ _ ?_⟩)
    exact SOm.no (f12.trans f3).G (by simp) (by simp) ⟨e5, e6⟩
  have y' : bel D.2.2 p f = 0 := by
    by_cases v : bel D.2.2 p f = 0
    · exact v
    · exact absurd v y
  rw [if_neg y] at hK
  rw [k8_set _ hb8.2 f (by omega), k8_set _ hb8.1 f (by omega)]
  have b1 : bq (D.2.2 1 p) f ≠ 1 ∧ bq (D.2.2 2 p) f ≠ 1 := by
    unfold bel at y'
    by_cases e1 : bq (D.2.2 1 p) f = 1
    · rw [if_pos e1] at y'; exact absurd y' (by omega)
    · rw [if_neg e1] at y'
      by_cases e2 : bq (D.2.2 2 p) f = 1
      · rw [if_pos e2] at y'; exact absurd y' (by omega)
      · exact ⟨e1, e2⟩
  have z1 : bz (D.2.2 1 p) f = D.2.2 1 p := by unfold bz; rw [if_neg b1.1]
  have z2 : bz (D.2.2 2 p) f = D.2.2 2 p := by unfold bz; rw [if_neg b1.2]
  have ok' : okS D.1 (blv D.2.2 p f b) := ⟨blv_WFS hk0.2 hk1.2 hs2.1 kl jl, by rw [blv_m _ _ _ _ _ (by omega) (by omega)]; exact hs2.2.1, acy_cong (blv_m D.2.2 p f b 0 (by omega) (by omega)).symm hs2.2.2⟩
  have fin : ∀ (a v : Nat), ((a = 35 ∧ b = 1 ∧ v = bs (D.2.2 1 p) f) ∨ (a = 36 ∧ b = 2 ∧ v = bs (D.2.2 2 p) f)) → K (u2 I2 a p (nI v)) J := by
    intro a v hav
    have ha : a = 35 ∨ a = 36 := by omega
    refine hK _ _ (SOm.ok (z := z) (f12.G.trans (FrGm.u (by omega))) rfl (r2.eq (by rw [u2_row (by omega)]) (by rw [u2_row (by omega)]) (by rw [u2_row (by omega)])) ⟨Dk.k (D := D) hD2.1 (u2_row (by omega)) (u2_row (by omega)) (u2_row (by omega)) rfl, Dn.k (D := D) hDn (u2_row (by omega)), Dl.k (D := D) hDl (u2_row (by omega)) (u2_row (by omega)) (u2_row (by omega)) (by rw [u2_row (by omega)]), fun k hk => ?_, ok', fun k => ?_⟩ (by show z ≤ adv g (adv g (adv g q)); omega))
    · have h8 := hs1 k hk
      have e0 : blv D.2.2 p f b 0 k = D.2.2 0 k := by rw [blv_m _ _ _ _ _ (by omega) (by omega)]
      have e1 : blv D.2.2 p f b 1 k = if k = p then (if b = 1 then bs (bz (D.2.2 1 p) f) f else bz (D.2.2 1 p) f) else D.2.2 1 k := by
        by_cases v : k = p <;> simp [blv, up, v]
      have e2 : blv D.2.2 p f b 2 k = if k = p then (if b = 2 then bs (bz (D.2.2 2 p) f) f else bz (D.2.2 2 p) f) else D.2.2 2 k := by
        by_cases v : k = p <;> simp [blv, up, v]
      show _ = nI (blv D.2.2 p f b 1 k) ∧ _ = nI (blv D.2.2 p f b 2 k) ∧ _ = mI (blv D.2.2 p f b 0 k)
      rw [e0, e1, e2, z1, z2]
      rcases hav with ⟨rfl, rfl, rfl⟩ | ⟨rfl, rfl, rfl⟩
      · rw [u2_row (show 36 ≠ 35 by omega), u2_row (show 37 ≠ 35 by omega)]
        by_cases v : k = p
        · subst v; rw [u2_at, if_pos rfl, if_pos rfl, if_pos rfl, if_neg (by omega)]; exact ⟨rfl, h8.2⟩
        · rw [u2_k v, if_neg v, if_neg v]; exact h8
      · rw [u2_row (show 35 ≠ 36 by omega), u2_row (show 37 ≠ 36 by omega)]
        by_cases v : k = p
        · subst v; rw [u2_at, if_pos rfl, if_pos rfl, if_pos rfl, if_neg (by omega)]; exact ⟨h8.1, rfl, h8.2.2⟩
        · rw [u2_k v, if_neg v, if_neg v]; exact h8
    · show blv D.2.2 p f b 3 k = 0 ∧ blv D.2.2 p f b 4 k = 0
      rw [blv_m _ _ _ _ _ (by omega) (by omega), blv_m _ _ _ _ _ (by omega) (by omega)]; exact hs3 k
  rcases hb with ⟨rfl, rfl⟩ | ⟨rfl, rfl⟩
  · exact ⟨fun v => absurd v (by decide), fun _ => fin 35 _ (Or.inl ⟨rfl, rfl, rfl⟩)⟩
  · exact ⟨fun _ => fin 36 _ (Or.inr ⟨rfl, rfl, rfl⟩), fun v => absurd rfl v⟩
theorem mz_taughtTold {K : KV} (hG : TxG I g) (hp : Rpr I g (adv g q)) (hD : EnDm I J D z) (hz : z ≤ adv g q) (hK : ∀ I' J', SOm g I J (sTau g D q) I' J' → K I' J') : CalV wM (d + 5) mX13_taughtTold [.ref 0] I J K := by
  have hle := hp.le
  have h16 := hG.1.2
  have a2 := adv2 (g := g) hle
  have a3 := adv2 (g := g) a2.1
  have a4 := adv2 (g := g) a3.1
  have bad48 : ∀ (x y v : Int32) (I1 : Ii), ¬ I1 0 5 = 0 → K I1 J → GoV wM (d + 5) mX13_taughtTold 48 [(0, .ref 0), (1, .int x), (2, .int y), (3, .int v)] [] I1 J K := fun x y v I1 h5 k => bX13_taughtTold_48 ⟨fun _ => k, fun w => absurd w h5⟩
  refine Cal.of (by decide) (Nat.le_of_ble_eq_true rfl) (bX13_taughtTold_0 (m_oneOf (d := d) (i := 1) (by omega) hG hp hD (fun k0 kl I1 f1 r1 e38 => ?_) (fun k0 I1 f1 l1 => ?_)))
  case refine_2 =>
    have k0 : (kno g (D.1 3) (D.1 0 1) (adv g q)).1 ≠ 0 := k0
    have n5 := l1.b ⟨Nat.pos_of_ne_zero k0, kno_f⟩
    have hD1 := hD.K f1
    refine ⟨fun _ => m_asks_b (d := d + 1) (a := 10) n5 (by unfold isW; omega) (m_oneOf_b (d := d + 2) (i := 1) (by omega) hD1.1.2.1.2 hD1.1.2.1.1 n5 (bad48 _ _ _ I1 n5 (hK _ _ ?_))), fun y => absurd y n5⟩
    have e : sTau g D q = ((kno g (D.1 3) (D.1 0 1) (adv g q)).1, (kno g (D.1 3) (D.1 0 1) (adv g q)).2.1, D) := by unfold sTau; rw [if_pos k0]
    rw [e]
    exact SOm.no f1.G k0 kno_f l1
  have k0 : (kno g (D.1 3) (D.1 0 1) (adv g q)).1 = 0 := k0
  have kl : (kno g (D.1 3) (D.1 0 1) (adv g q)).2.2 < D.1 0 1 := kl
  have hD1 := hD.K f1
  obtain ⟨⟨hk0, hk1, -⟩, -, -, hs1, hs2, hs3⟩ := id hD1
  have ep : nI (kno g (D.1 (2 * 1 + 1)) (D.1 0 1) (adv g q)).2.2 = nI (kno g (D.1 3) (D.1 0 1) (adv g q)).2.2 := rfl
  rw [ep]
  have hP8 := hk1.2
  have s08 : ∀ k, k < 8 → D.2.2 0 k ≤ 8 := fun k hk => by have := (hs2.1.1 k hk).1; omega
  have e37 := (hs1 (kno g (D.1 3) (D.1 0 1) (adv g q)).2.2 (by omega)).2.2
  refine ⟨fun y => absurd r1.1 y, fun _ => ⟨vp_in_nI (by omega) (by omega), ?_⟩⟩
  rw [nI_clamp (by omega), e37, mI_m1 (s08 _ (by omega))]
  refine ⟨fun m0 => ?_, fun m0 => ?_⟩
  case refine_2 =>
    rw [e38]
    refine m_fail (k := 3) r1.1 (fun I2 f2 e5 e6 _ => ?_)
    have n5 : ¬ I2 0 5 = 0 := by rw [e5]; decide
    have hD2 := hD1.K f2
    refine m_asks_b (d := d + 1) (a := 10) n5 (by unfold isW; omega) (m_oneOf_b (d := d + 2) (i := 1) (by omega) hD2.1.2.1.2 hD2.1.2.1.1 n5 (bad48 _ _ _ I2 n5 (hK _ _ ?_)))
    have e : sTau g D q = (3, adv g q, D) := by unfold sTau; rw [if_neg (fun v => v k0), if_pos m0]
    rw [e]
    exact SOm.no (f1.trans f2).G (by simp) (by simp) ⟨e5, e6⟩
  refine m_asks (d := d + 1) (a := 10) (hG.K f1) r1 (by unfold isW; omega) (fun w3 I2 f2 r2 => ?_) (fun w3 I2 f2 l2 => ?_)
  case refine_2 =>
    have w3 : wd g (adv g (adv g q)) ≠ 3 := w3
    have n5 := l2.b (by omega)
    have hD2 := hD1.K f2
    refine m_oneOf_b (d := d + 2) (i := 1) (by omega) hD2.1.2.1.2 hD2.1.2.1.1 n5 (bad48 _ _ _ I2 n5 (hK _ _ ?_))
    have e : sTau g D q = (1, adv g (adv g q), D) := by unfold sTau; rw [if_neg (fun v => v k0), if_neg (fun v => v m0), if_pos w3]
    rw [e]
    exact SOm.no (f1.trans f2).G (by simp) (by simp) l2
  have w3 : wd g (adv g (adv g q)) = 3 := w3
  have f12 := f1.trans f2
  refine m_oneOf (d := d) (i := 1) (by omega) (hG.K f12) r2 (hD.K f12) (fun j0 jl I3 f3 r3 g38 => ?_) (fun j0 I3 f3 l3 => ?_)
  case refine_2 =>
    have j0 : (kno g (D.1 3) (D.1 0 1) (adv g (adv g (adv g q)))).1 ≠ 0 := j0
    have n5 := l3.b ⟨Nat.pos_of_ne_zero j0, kno_f⟩
    refine bad48 _ _ _ I3 n5 (hK _ _ ?_)
    have e : sTau g D q = ((kno g (D.1 3) (D.1 0 1) (adv g (adv g (adv g q)))).1, (kno g (D.1 3) (D.1 0 1) (adv g (adv g (adv g q)))).2.1, D) := by unfold sTau; rw [if_neg (fun v => v k0), if_neg (fun v => v m0), if_neg (fun v => v w3), if_pos j0]
    rw [e]
    exact SOm.no (f12.trans f3).G j0 kno_f l3
  have j0 : (kno g (D.1 3) (D.1 0 1) (adv g (adv g (adv g q)))).1 = 0 := j0
  have jl : (kno g (D.1 3) (D.1 0 1) (adv g (adv g (adv g q)))).2.2 < D.1 0 1 := jl
  have f13 := f12.trans f3
  have hD3 := hD.K f13
  have ef : nI (kno g (D.1 (2 * 1 + 1)) (D.1 0 1) (adv g (adv g (adv g q)))).2.2 = nI (kno g (D.1 3) (D.1 0 1) (adv g (adv g (adv g q)))).2.2 := rfl
  rw [ef]
  have pre : sTau g D q = if (kno g (D.1 3) (D.1 0 1) (adv g (adv g (adv g q)))).2.2 = (kno g (D.1 3) (D.1 0 1) (adv g q)).2.2 ∨ anc D.2.2 (kno g (D.1 3) (D.1 0 1) (adv g q)).2.2 8 (D.2.2 0 (kno g (D.1 3) (D.1 0 1) (adv g (adv g (adv g q)))).2.2) = true then (3, adv g (adv g (adv g q)), D)
      else (0, adv g (adv g (adv g (adv g q))), D.1, D.2.1, up D.2.2 0 (kno g (D.1 3) (D.1 0 1) (adv g q)).2.2 ((kno g (D.1 3) (D.1 0 1) (adv g (adv g (adv g q)))).2.2 + 1)) := by
    unfold sTau; rw [if_neg (fun v => v k0), if_neg (fun v => v m0), if_neg (fun v => v w3), if_neg (fun v => v j0)]
  rw [pre] at hK
  generalize (kno g (D.1 3) (D.1 0 1) (adv g q)).2.2 = p at *
  generalize (kno g (D.1 3) (D.1 0 1) (adv g (adv g (adv g q)))).2.2 = m at *
  have hs := hD3.2.2.2.1
  have e9 : anc D.2.2 p 9 (m + 1) = true ↔ (m = p ∨ anc D.2.2 p 8 (D.2.2 0 m) = true) := by
    show (if m + 1 = 0 then false else if m + 1 = p + 1 then true else anc D.2.2 p 8 (D.2.2 0 (m + 1 - 1))) = true ↔ _
    rw [if_neg (by omega), Nat.add_sub_cancel]
    by_cases v : m = p
    · simp [v]
    · rw [if_neg (by omega)]; simp [v]
  have store : ¬ anc D.2.2 p 9 (m + 1) = true → vp_in (nI p) 8 ∧ K (u2 I3 37 (nI p).toNatClampNeg (nI m)) J := fun ha => by
    refine ⟨vp_in_nI (by omega) (by omega), ?_⟩
    rw [nI_clamp (by omega)]
    rw [e9] at ha
    rw [if_neg ha] at hK
    refine hK _ _ (SOm.ok (z := z) (f13.G.trans (FrGm.u (by omega))) rfl (r3.eq (by rw [u2_row (by omega)]) (by rw [u2_row (by omega)]) (by rw [u2_row (by omega)])) ⟨Dk.k (D := D) hD3.1 (u2_row (by omega)) (u2_row (by omega)) (u2_row (by omega)) rfl, Dn.k (D := D) hD3.2.1 (u2_row (by omega)), Dl.k (D := D) hD3.2.2.1 (u2_row (by omega)) (u2_row (by omega)) (u2_row (by omega)) (by rw [u2_row (by omega)]), fun k hk => ?_, ⟨up0_WFS hs2.1 kl (show m + 1 ≤ D.1 0 1 by omega), ?_, acy_up hs2.2.2 (by omega) (by omega) (Or.inr ⟨by omega, ?_⟩)⟩, fun k => ?_⟩ (by show z ≤ adv g (adv g (adv g (adv g q))); omega))
    · have h8 := hs k hk
      rw [u2_row (show 35 ≠ 37 by omega), u2_row (show 36 ≠ 37 by omega)]
      show _ = nI (up D.2.2 0 p (m + 1) 1 k) ∧ _ = nI (up D.2.2 0 p (m + 1) 2 k) ∧ _ = mI (up D.2.2 0 p (m + 1) 0 k)
      rw [show up D.2.2 0 p (m + 1) 1 k = D.2.2 1 k by simp [up], show up D.2.2 0 p (m + 1) 2 k = D.2.2 2 k by simp [up]]
      by_cases v : k = p
      · subst v; rw [u2_at, show up D.2.2 0 k (m + 1) 0 k = m + 1 by simp [up], mI_s]; exact ⟨h8.1, h8.2.1, rfl⟩
      · rw [u2_k v, show up D.2.2 0 p (m + 1) 0 k = D.2.2 0 k by simp [up, v]]; exact h8
    · have := hs2.2.1
      show up D.2.2 0 p (m + 1) 4 0 ≤ 999
      simpa [up] using this
    · rw [show m + 1 - 1 = m by omega]
      cases v : anc D.2.2 p 8 (D.2.2 0 m) with
      | false => rfl
      | true => exact absurd (Or.inr v) ha
    · show up D.2.2 0 p (m + 1) 3 k = 0 ∧ up D.2.2 0 p (m + 1) 4 k = 0
      rw [show up D.2.2 0 p (m + 1) 3 k = D.2.2 3 k by simp [up], show up D.2.2 0 p (m + 1) 4 k = D.2.2 4 k by simp [up]]; exact hs3 k
  have failn : anc D.2.2 p 9 (m + 1) = true → CalV wM (d + 4) mX13_fail [.ref 0, .int 3, .int (I3 0 38)] I3 J (fun I6 J7 => (((¬ (I6 0 5) = 0) → (K I6 J7)) ∧ (((I6 0 5) = 0) → (vp_in (nI p) 8 ∧ (K (u2 I6 37 (nI p).toNatClampNeg (nI m)) J7))))) := fun ha => by
    rw [e9] at ha
    rw [if_pos ha] at hK
    rw [g38]
    exact m_fail (k := 3) r3.1 (fun I6 f6 e5 e6 _ => ⟨fun _ => hK _ _ (SOm.no (f13.trans f6).G (by simp) (by simp) ⟨e5, e6⟩), fun y => absurd y (by rw [e5]; decide)⟩)
  have key : ∀ n c, wk D.2.2 n c = 0 → c ≤ D.1 0 1 → anc D.2.2 p 9 (m + 1) = anc D.2.2 p n c → GoV wM (d + 5) mX13_taughtTold 48 [(0, .ref 0), (1, .int (nI p)), (2, .int (nI m)), (3, .int (mI c))] [] I3 J K := by
    intro n
    have zero : anc D.2.2 p 9 (m + 1) = false → GoV wM (d + 5) mX13_taughtTold 48 [(0, .ref 0), (1, .int (nI p)), (2, .int (nI m)), (3, .int (mI 0))] [] I3 J K := fun ha =>
      bX13_taughtTold_48 ⟨fun y => absurd r3.1 y, fun _ => ⟨fun _ => ⟨fun _ => store (by rw [ha]; decide), fun y => absurd y.symm (nI_ne_m1 (by omega))⟩, fun y => absurd rfl y⟩⟩
    induction n with
    | zero =>
      intro c hw hc hA
      have hc0 : c = 0 := hw
      subst hc0
      exact zero (by rw [hA]; rfl)
    | succ n ih =>
      intro c hw hc hA
      by_cases e : c = 0
      · subst e
        exact zero (by rw [hA]; simp [anc])
      · obtain ⟨j, rfl⟩ : ∃ j, c = j + 1 := ⟨c - 1, by omega⟩
        rw [mI_s]
        refine bX13_taughtTold_48 ⟨fun y => absurd r3.1 y, fun _ => ⟨fun y => absurd y (nI_ne_m1 (by omega)), fun _ => ⟨fun y => ?_, fun y => ?_⟩⟩⟩
        · have hj : j = p := (nI_eq (by omega) (by omega)).mp y
          exact failn (by rw [hA]; simp [anc, hj])
        · have hj : j ≠ p := fun v => y (by rw [v])
          refine ⟨vp_in_nI (by omega) (by omega), ?_⟩
          rw [nI_clamp (by omega), (hs j (by omega)).2.2]
          refine ih (D.2.2 0 j) ?_ (hs2.1.1 j (by omega)).1 ?_
          · simpa [wk] using hw
          · rw [hA]; simp [anc, hj]
  rw [show nI m = mI (m + 1) from (mI_s m).symm] at key ⊢
  refine key 9 (m + 1) ?_ (by omega) rfl
  have := wk_end hs2.2.2 s08 (c := D.2.2 0 m) (s08 m (by omega))
  simpa [wk] using this
end MZ

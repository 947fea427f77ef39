/-! the reference: statements told, the text of a school -/
def FrGn (I : Ii) (J : Jj) (I' : Ii) (J' : Jj) : Prop := (∀ a, a ≠ 0 → (a < 31 ∨ a = 32 ∨ 41 < a) → a ≠ 75 → a ≠ 76 → I' a = I a) ∧ (∀ a k, (a = 31 ∧ 2 ≤ k) ∨ ((a = 33 ∨ a = 34) ∧ 8 ≤ k) ∨ ((a = 38 ∨ a = 39 ∨ a = 40) ∧ 3 ≤ k) ∨ (a = 41 ∧ 1600 ≤ k) → I' a k = I a k) ∧ (∀ k, (k = 1 ∨ k = 3 ∨ k = 58 ∨ k = 60 ∨ k = 65 ∨ k = 66 ∨ k = 104) → I' 0 k = I 0 k) ∧ (I' 0 5 = 0 → I 0 5 = 0 ∧ I' 0 6 = I 0 6) ∧ (∀ a, a ≠ 32 → J' a = J a) ∧ ∀ k, 16 ≤ k → J' 32 k = J 32 k
theorem FrGm.n {I I' : Ii} {J J' : Jj} (h : FrGm I J I' J') : FrGn I J I' J' := ⟨h.1, h.2.1, fun k hk => h.at (by omega), fun z => ⟨h.e5 z, h.e6 z⟩, h.2.2.2.1, h.2.2.2.2⟩
theorem FrGn.trans {I I1 I2 : Ii} {J J1 J2 : Jj} (h1 : FrGn I J I1 J1) (h2 : FrGn I1 J1 I2 J2) : FrGn I J I2 J2 :=
  ⟨fun a b c d e => (h2.1 a b c d e).trans (h1.1 a b c d e), fun a k h => (h2.2.1 a k h).trans (h1.2.1 a k h), fun k h => (h2.2.2.1 k h).trans (h1.2.2.1 k h), fun z => ⟨(h1.2.2.2.1 (h2.2.2.2.1 z).1).1, (h2.2.2.2.1 z).2.trans (h1.2.2.2.1 (h2.2.2.2.1 z).1).2⟩, fun a ha => (h2.2.2.2.2.1 a ha).trans (h1.2.2.2.2.1 a ha), fun k hk => (h2.2.2.2.2.2 k hk).trans (h1.2.2.2.2.2 k hk)⟩
theorem FrGn.c {I : Ii} {J : Jj} {v : Int32} : FrGn I J (u2 I 0 51 v) J := ⟨fun a a0 _ _ _ => u2_row a0, fun a k hk => by rw [u2_row (by omega)], fun k hk => u2_k (by omega), fun z => ⟨by rw [u2_k (by omega)] at z; exact z, u2_k (by omega)⟩, fun _ _ => rfl, fun _ _ => rfl⟩
theorem TxG.N {I I' : Ii} {J J' : Jj} {g : Sx} (h : TxG I g) (hk : FrGn I J I' J') : TxG I' g := by
  refine ⟨by rw [hk.2.2.1 3 (by omega)]; exact h.1, by rw [hk.1 1 (by omega) (by omega) (by omega) (by omega)]; exact h.2.1, fun a ha k hk' => ?_⟩
  rw [hk.1 a (by omega) (by omega) (by omega) (by omega)]; exact h.2.2 a ha k hk'
section MBB
variable {d : Nat} {I : Ii} {J : Jj} {g : Sx} {q z c : Nat} {D : Dr}
theorem isS59 : isS 59 := by unfold isS; decide
theorem EnDm.ct1 {I : Ii} {J : Jj} {v : Int32} (h : EnDm I J D z) : EnDm (u2 I 0 51 v) J D z := ⟨h.1.k (u2_row (by omega)) (u2_row (by omega)) (u2_row (by omega)) rfl, h.2.1.k (u2_row (by omega)), h.2.2.1.k (u2_row (by omega)) (u2_row (by omega)) (u2_row (by omega)) (u2_k (by omega)), h.2.2.2.k (u2_row (by omega)) (u2_row (by omega)) (u2_row (by omega))⟩
/-- the sign at a statement's end -/
theorem st_end {r : SR} {K : KV} {I1 : Ii} {J1 : Jj} (hG : TxG I g) (h51 : I 0 51 = nI c) (hS : SOm g I J r I1 J1)
    (h1 : r.1 = 0 → tk g r.2.1 = 59 → ∀ I' J', FrGn I J I' J' → Rpr I' g (adv g r.2.1) → (∃ z, EnDm I' J' r.2.2 z ∧ z ≤ adv g r.2.1) → I' 0 51 = nI (c + 1) → K I' J')
    (h0 : ∀ k p, (k, p) = (if r.1 ≠ 0 then (r.1, r.2.1) else (1, r.2.1)) → (r.1 ≠ 0 ∨ tk g r.2.1 ≠ 59) → ∀ I' J', FrGn I J I' J' → (1 ≤ k ∧ k < 10) → Flm I' k p → K I' J') :
    CalV wM (d + 2) mX13_asksSign [.ref 0, .int 59] I1 J1 (fun I2 J2 => K (u2 I2 0 51 ((I2 0 51) + 1)) J2) := by
  obtain ⟨hf, hs1, hs0⟩ := hS
  by_cases e : r.1 = 0
  · obtain ⟨r1, z, hD, hz⟩ := hs1 e
    refine m_asksSign (c := 59) (hG.G hf) r1 isS59 (fun t I2 f2 r2 => ?_) (fun t I2 f2 l2 => ?_)
    · have hle := r1.le
      have ha := adv2 (g := g) hle
      have e51 : I2 0 51 = nI c := by rw [(f2.G (J := J1)).at (by omega), hf.at (by omega)]; exact h51
      rw [e51, nI_1]
      exact h1 e t _ _ ((hf.trans f2.G).n.trans FrGn.c) (r2.eq (u2_k (by omega)) (u2_k (by omega)) (u2_k (by omega))) ⟨z, EnDm.ct1 (hD.K f2), by omega⟩ (u2_at _ _ _ _)
    · exact h0 1 r.2.1 (by rw [if_neg (fun v => v e)]) (Or.inr t) _ _ ((hf.trans f2.G).n.trans FrGn.c) (by omega) ⟨by rw [u2_k (by omega)]; exact l2.1, by rw [u2_k (by omega)]; exact l2.2⟩
  · obtain ⟨hk, hF⟩ := hs0 e
    have n5 := hF.b ⟨by omega, hk⟩
    exact m_asksSign_b n5 (h0 r.1 r.2.1 (by rw [if_pos e]) (Or.inl e) _ _ (hf.n.trans FrGn.c) ⟨by omega, hk⟩ ⟨by rw [u2_k (by omega)]; exact hF.1, by rw [u2_k (by omega)]; exact hF.2⟩)
theorem SOm.tr {r : SR} {I1 I2 : Ii} {J1 J2 : Jj} (hf : FrGm I J I1 J1) (h : SOm g I1 J1 r I2 J2) : SOm g I J r I2 J2 := ⟨hf.trans h.1, h.2⟩
theorem mz_st {K : KV} (hG : TxG I g) (hp : Rlk I g q) (hD : EnDm I J D z) (hz : z ≤ q) (h51 : I 0 51 = nI c) (hc : c < 80)
    (h1 : (sSt g D q).1 = 0 → tk g (sSt g D q).2.1 = 59 → ∀ I' J', FrGn I J I' J' → Rpr I' g (adv g (sSt g D q).2.1) → (∃ z, EnDm I' J' (sSt g D q).2.2 z ∧ z ≤ adv g (sSt g D q).2.1) → I' 0 51 = nI (c + 1) → K I' J')
    (h0 : ∀ k p, (k, p) = (if (sSt g D q).1 ≠ 0 then ((sSt g D q).1, (sSt g D q).2.1) else (1, (sSt g D q).2.1)) → ((sSt g D q).1 ≠ 0 ∨ tk g (sSt g D q).2.1 ≠ 59) → ∀ I' J', FrGn I J I' J' → (1 ≤ k ∧ k < 10) → Flm I' k p → K I' J') :
    CalV wM (d + 10) mX13_statementTold [.ref 0] I J K := by
  have hle := hp.P.le
  have h16 := hG.1.2
  have ha := adv2 (g := g) hle
  refine Cal.of (by decide) (Nat.le_of_ble_eq_true rfl) (bX13_statementTold_0 ?_)
  rw [h51, show (80 : Int32) = nI 80 from rfl, nI_eq (by omega) (by omega), hp.a]
  refine ⟨fun _ => ?_, fun y => absurd y (by omega)⟩
  have fin : ∀ (r : SR) (I1 : Ii) (J1 : Jj), sSt g D q = r → SOm g I J r I1 J1 → CalV wM (d + 9) mX13_asksSign [.ref 0, .int 59] I1 J1 (fun I2 J2 => K (u2 I2 0 51 ((I2 0 51) + 1)) J2) := fun r I1 J1 er hS => by
    rw [er] at h1 h0
    exact st_end (d := d + 7) hG h51 hS h1 h0
  have e0 : wd g q = 0 → sSt g D q = sNew g 0 20 1 9 D q := fun y => by unfold sSt; rw [ if_pos y]
  have e1 : wd g q = 1 → sSt g D q = sNew g 1 16 0 99 D q := fun y => by unfold sSt; rw [if_neg (by omega), if_pos y]
  have e26 : wd g q = 26 → sSt g D q = sBel g 1 D q := fun y => by unfold sSt; rw [if_neg (by omega), if_neg (by omega), if_pos y]
  have e27 : wd g q = 27 → sSt g D q = sBel g 2 D q := fun y => by unfold sSt; rw [if_neg (by omega), if_neg (by omega), if_neg (by omega), if_pos y]
  have e2 : wd g q = 2 → sSt g D q = sTau g D q := fun y => by unfold sSt; rw [if_neg (by omega), if_neg (by omega), if_neg (by omega), if_neg (by omega), if_pos y]
  have e4 : wd g q = 4 → sSt g D q = sLaw g 0 1 D q := fun y => by unfold sSt; rw [if_neg (by omega), if_neg (by omega), if_neg (by omega), if_neg (by omega), if_neg (by omega), if_pos y]
  have e5 : wd g q = 5 → sSt g D q = sLaw g 1 1 D q := fun y => by unfold sSt; rw [if_neg (by omega), if_neg (by omega), if_neg (by omega), if_neg (by omega), if_neg (by omega), if_neg (by omega), if_pos y]
  have e6 : wd g q = 6 → sSt g D q = sLaw g 2 2 D q := fun y => by unfold sSt; rw [if_neg (by omega), if_neg (by omega), if_neg (by omega), if_neg (by omega), if_neg (by omega), if_neg (by omega), if_neg (by omega), if_pos y]
  have e7 : wd g q = 7 → sSt g D q = sNum g 2 0 99 D q := fun y => by unfold sSt; rw [if_neg (by omega), if_neg (by omega), if_neg (by omega), if_neg (by omega), if_neg (by omega), if_neg (by omega), if_neg (by omega), if_neg (by omega), if_pos y]
  have e8 : wd g q = 8 → sSt g D q = sNum g 3 0 9 D q := fun y => by unfold sSt; rw [if_neg (by omega), if_neg (by omega), if_neg (by omega), if_neg (by omega), if_neg (by omega), if_neg (by omega), if_neg (by omega), if_neg (by omega), if_neg (by omega), if_pos y]
  have e9 : wd g q = 9 → sSt g D q = sNum g 4 0 100 D q := fun y => by unfold sSt; rw [if_neg (by omega), if_neg (by omega), if_neg (by omega), if_neg (by omega), if_neg (by omega), if_neg (by omega), if_neg (by omega), if_neg (by omega), if_neg (by omega), if_neg (by omega), if_pos y]
  refine m_takes (d := d + 7) (a := 3) hG hp.P (by unfold isW; omega) (fun y I1 f1 r1 => ⟨fun x => absurd x (by decide), fun _ => ?_⟩) (fun y1 I1 f1 r1 => ⟨fun _ => ?_, fun x => absurd rfl x⟩)
  · have y : wd g q = 0 := y
    have F := (FrK.refl I).trans f1
    exact mz_factTold (d := d + 4) (q0 := 0) (hG.K F) r1 (hD.K F) (by omega) (fun I' J' hS => fin _ I' J' (e0 y) (hS.tr F.G))
  have F1 := (FrK.refl I).trans f1
  refine m_takes (d := d + 7) (a := 5) (hG.K F1) r1.P (by unfold isW; omega) (fun y I2 f2 r2 => ⟨fun x => absurd x (by decide), fun _ => ?_⟩) (fun y2 I2 f2 r2 => ⟨fun _ => ?_, fun x => absurd rfl x⟩)
  · have y : wd g q = 1 := y
    have F := F1.trans f2
    exact mz_personTold (d := d + 4) (q0 := 0) (hG.K F) r2 (hD.K F) (by omega) (fun I' J' hS => fin _ I' J' (e1 y) (hS.tr F.G))
  have F2 := F1.trans f2
  refine m_takes (d := d + 7) (a := 7) (hG.K F2) r2.P (by unfold isW; omega) (fun y I3 f3 r3 => ⟨fun x => absurd x (by decide), fun _ => ?_⟩) (fun y3 I3 f3 r3 => ⟨fun _ => ?_, fun x => absurd rfl x⟩)
  · have y : wd g q = 26 := y
    have F := F2.trans f3
    exact mz_beliefTold (d := d + 4) (b := 1) (Or.inl ⟨rfl, rfl⟩) (hG.K F) r3 (hD.K F) (by omega) (fun I' J' hS => fin _ I' J' (e26 y) (hS.tr F.G))
  have F3 := F2.trans f3
  refine m_takes (d := d + 7) (a := 8) (hG.K F3) r3.P (by unfold isW; omega) (fun y I4 f4 r4 => ⟨fun x => absurd x (by decide), fun _ => ?_⟩) (fun y4 I4 f4 r4 => ⟨fun _ => ?_, fun x => absurd rfl x⟩)
  · have y : wd g q = 27 := y
    have F := F3.trans f4
    exact mz_beliefTold (d := d + 4) (b := 2) (Or.inr ⟨rfl, rfl⟩) (hG.K F) r4 (hD.K F) (by omega) (fun I' J' hS => fin _ I' J' (e27 y) (hS.tr F.G))
  have F4 := F3.trans f4
  refine m_takes (d := d + 7) (a := 9) (hG.K F4) r4.P (by unfold isW; omega) (fun y I5 f5 r5 => ⟨fun x => absurd x (by decide), fun _ => ?_⟩) (fun y5 I5 f5 r5 => ⟨fun _ => ?_, fun x => absurd rfl x⟩)
  · have y : wd g q = 2 := y
    have F := F4.trans f5
    exact mz_taughtTold (d := d + 4) (hG.K F) r5 (hD.K F) (by omega) (fun I' J' hS => fin _ I' J' (e2 y) (hS.tr F.G))
  have F5 := F4.trans f5
  refine m_takes (d := d + 7) (a := 11) (hG.K F5) r5.P (by unfold isW; omega) (fun y I6 f6 r6 => ⟨fun x => absurd x (by decide), fun _ => ?_⟩) (fun y6 I6 f6 r6 => ⟨fun _ => ?_, fun x => absurd rfl x⟩)
  · have y : wd g q = 4 := y
    have F := F5.trans f6
    exact mz_codesTold (d := d) (w := 0) (sco := 1) (by omega) rfl (hG.K F) r6 (hD.K F) (by omega) (fun I' J' hS => fin _ I' J' (e4 y) (hS.tr F.G))
  have F6 := F5.trans f6
  refine m_takes (d := d + 7) (a := 12) (hG.K F6) r6.P (by unfold isW; omega) (fun y I7 f7 r7 => ⟨fun x => absurd x (by decide), fun _ => ?_⟩) (fun y7 I7 f7 r7 => ⟨fun _ => ?_, fun x => absurd rfl x⟩)
  · have y : wd g q = 5 := y
    have F := F6.trans f7
    exact mz_codesTold (d := d) (w := 1) (sco := 1) (by omega) rfl (hG.K F) r7 (hD.K F) (by omega) (fun I' J' hS => fin _ I' J' (e5 y) (hS.tr F.G))
  have F7 := F6.trans f7
  refine m_takes (d := d + 7) (a := 13) (hG.K F7) r7.P (by unfold isW; omega) (fun y I8 f8 r8 => ⟨fun x => absurd x (by decide), fun _ => ?_⟩) (fun y8 I8 f8 r8 => ⟨fun _ => ?_, fun x => absurd rfl x⟩)
  · have y : wd g q = 6 := y
    have F := F7.trans f8
    exact mz_codesTold (d := d) (w := 2) (sco := 2) (by omega) rfl (hG.K F) r8 (hD.K F) (by omega) (fun I' J' hS => fin _ I' J' (e6 y) (hS.tr F.G))
  have F8 := F7.trans f8
  refine m_takes (d := d + 7) (a := 14) (hG.K F8) r8.P (by unfold isW; omega) (fun y I9 f9 r9 => ⟨fun x => absurd x (by decide), fun _ => ?_⟩) (fun y9 I9 f9 r9 => ⟨fun _ => ?_, fun x => absurd rfl x⟩)
  · have y : wd g q = 7 := y
    have F := F8.trans f9
    exact mz_num (d := d + 8) (i := 2) (b := 99) (by omega) (hG.K F) r9 (hD.K F) (by omega) (fun I' J' hS => fin _ I' J' (e7 y) (hS.tr F.G))
  have F9 := F8.trans f9
  refine m_takes (d := d + 7) (a := 15) (hG.K F9) r9.P (by unfold isW; omega) (fun y I10 f10 r10 => ⟨fun x => absurd x (by decide), fun _ => ?_⟩) (fun y10 I10 f10 r10 => ⟨fun _ => ?_, fun x => absurd rfl x⟩)
  · have y : wd g q = 8 := y
    have F := F9.trans f10
    exact mz_num (d := d + 8) (i := 3) (b := 9) (by omega) (hG.K F) r10 (hD.K F) (by omega) (fun I' J' hS => fin _ I' J' (e8 y) (hS.tr F.G))
  have F10 := F9.trans f10
  refine m_asks (d := d + 6) (a := 16) (hG.K F10) r10.P (by unfold isW; omega) (fun y I11 f11 r11 => ?_) (fun y I11 f11 l11 => ?_)
  · have y : wd g q = 9 := y
    have F := F10.trans f11
    exact mz_num (d := d + 8) (i := 4) (b := 100) (by omega) (hG.K F) r11 (hD.K F) (by omega) (fun I' J' hS => fin _ I' J' (e9 y) (hS.tr F.G))
  have y1 : ¬ wd g q = 0 := y1
  have y2 : ¬ wd g q = 1 := y2
  have y3 : ¬ wd g q = 26 := y3
  have y4 : ¬ wd g q = 27 := y4
  have y5 : ¬ wd g q = 2 := y5
  have y6 : ¬ wd g q = 4 := y6
  have y7 : ¬ wd g q = 5 := y7
  have y8 : ¬ wd g q = 6 := y8
  have y9 : ¬ wd g q = 7 := y9
  have y10 : ¬ wd g q = 8 := y10
  have y11 : ¬ wd g q = 9 := y
  have er : sSt g D q = (1, q, D) := by unfold sSt; rw [if_neg (by omega), if_neg (by omega), if_neg (by omega), if_neg (by omega), if_neg (by omega), if_neg (by omega), if_neg (by omega), if_neg (by omega), if_neg (by omega), if_neg (by omega), if_neg (by omega)]
  have n5 := l11.b (by omega)
  have F := F10.trans f11
  refine m_number_b n5 (fin _ (u2 I11 38 2 0) _ er (SOm.no (F.G.trans (FrGm.u (by omega))) (by simp) (by simp) ⟨by rw [u2_row (by omega)]; exact l11.1, by rw [u2_row (by omega)]; exact l11.2⟩))
end MBB

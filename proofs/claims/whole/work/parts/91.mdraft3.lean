/-! the reference: laws told, statements told -/
section MAA
variable {d : Nat} {I : Ii} {J : Jj} {g : Sx} {q z : Nat} {D : Dr}
theorem FrGm.at {I I' : Ii} {J J' : Jj} (h : FrGm I J I' J') {k : Nat} (hk : k = 1 ∨ k = 3 ∨ k = 51 ∨ k = 58 ∨ k = 60 ∨ k = 65 ∨ k = 66 ∨ k = 104) : I' 0 k = I 0 k := h.2.2.1 k (by omega) (by omega) (by omega) (by omega) (by omega) (by omega) (by omega) (by omega) (by omega) (by omega) (by omega) (by omega)
theorem tcs_n0 {cs : List Nat} (h : tcs cs [] = some [true]) : cs ≠ [] := fun e => by subst e; cases h
theorem mz_codesTold {w sco : Nat} {K : KV} (hw : w < 3) (hsco : sco = if w = 2 then 2 else 1) (hG : TxG I g) (hp : Rpr I g (adv g q)) (hD : EnDm I J D z) (hz : z ≤ adv g q) (hK : ∀ I' J', SOm g I J (sLaw g w sco D q) I' J' → K I' J') : CalV wM (d + 9) mX13_codesTold [.ref 0, .int (nI w), .int (nI q)] I J K := by
  have hle := hp.le
  have h16 := hG.1.2
  have hs3 : sco = 1 ∨ sco = 2 ∨ sco = 4 := by rw [hsco]; split <;> simp
  have hLw := hD.2.2.1.1 w hw
  have hz16 := hD.2.2.1.2.2.2
  refine Cal.of (by decide) (Nat.le_of_ble_eq_true rfl) (bX13_codesTold_0 ⟨fun y => absurd hp.1 y, fun _ => ⟨vp_in_nI (by omega) (by omega), ?_⟩⟩)
  rw [nI_clamp (by omega)]
  by_cases hnil : D.2.1 w = []
  case neg =>
    have e39 : ¬ I 39 w = -1 := by
      rcases hLw with ⟨y, -⟩ | ⟨-, f, y, -, y2, -⟩
      · exact absurd y hnil
      · rw [y]; exact nI_ne_m1 (by omega)
    refine ⟨fun y => absurd y e39, fun _ => m_fail (k := 5) hp.1 (fun I1 f1 e5 e6 _ => ⟨fun v => absurd v (by rw [e5]; decide), fun _ => hK _ _ ?_⟩)⟩
    have e : sLaw g w sco D q = (5, q, D) := by unfold sLaw; rw [if_pos hnil]
    rw [e]
    exact SOm.no f1.G (by simp) (by simp) ⟨e5, e6⟩
  have e39 : I 39 w = -1 := by
    rcases hLw with ⟨-, y⟩ | ⟨y, -⟩
    · exact y
    · exact absurd hnil y
  refine ⟨fun _ => ?_, fun y => absurd e39 y⟩
  have main : ∀ x : Int32, x = tko sco → CalV wM (d + 8) mX13_qTest [.ref 0] (u2 (u2 (u2 (u2 (u2 I 0 52 x) 0 94 0) 0 96 0) 0 97 0) 0 98 0) J (fun I10 J11 => ((((I10 0 5) = 0) → (GoV wM (d + 9) mX13_codesTold 89 [(0, .ref (0)), (1, .int (nI w)), (3, .int (0))] [] (u2 I10 39 w (I10 0 50)) J11 K)) ∧ ((¬ (I10 0 5) = 0) → (K I10 J11)))) := by
    rintro x rfl
    generalize hS : u2 (u2 (u2 (u2 (u2 I 0 52 (tko sco)) 0 94 0) 0 96 0) 0 97 0) 0 98 0 = S
    have fS : FrGm I J S J := by
      subst hS
      exact (FrGm.f (by omega)).trans ((FrGm.f (by omega)).trans ((FrGm.f (by omega)).trans ((FrGm.f (by omega)).trans (FrGm.f (by omega)))))
    have rS : ∀ a, a ≠ 0 → S a = I a := fun a ha => by subst hS; simp only [u2_row ha]
    have kS : ∀ k, k ≠ 52 → k ≠ 94 → k ≠ 96 → k ≠ 97 → k ≠ 98 → S 0 k = I 0 k := fun k a b c e f => by subst hS; rw [u2_k f, u2_k e, u2_k c, u2_k b, u2_k a]
    have s52 : S 0 52 = tko sco := by subst hS; rw [u2_k (by omega), u2_k (by omega), u2_k (by omega), u2_k (by omega), u2_at]
    have cS : CS S [] [] 0 := by
      subst hS
      exact ⟨⟨by rw [u2_k (by omega), u2_k (by omega), u2_k (by omega), u2_at]; rfl, fun i hi => absurd hi (by simp)⟩, ⟨by rw [u2_k (by omega), u2_k (by omega), u2_at]; rfl, trivial⟩, by rw [u2_k (by omega), u2_at]; rfl⟩
    have pS : Rpr S g (adv g q) := hp.eq (kS 2 (by omega) (by omega) (by omega) (by omega) (by omega)) (kS 4 (by omega) (by omega) (by omega) (by omega) (by omega)) (kS 5 (by omega) (by omega) (by omega) (by omega) (by omega))
    have hDS : EnDm S J D z := ⟨hD.1.k (rS 31 (by omega)) (rS 33 (by omega)) (rS 34 (by omega)) rfl, hD.2.1.k (rS 38 (by omega)), hD.2.2.1.k (rS 39 (by omega)) (rS 40 (by omega)) (rS 41 (by omega)) (kS 50 (by omega) (by omega) (by omega) (by omega) (by omega)), hD.2.2.2.k (rS 35 (by omega)) (rS 36 (by omega)) (rS 37 (by omega))⟩
    refine m_qTest (e := d) (sco := sco) (hG.G fS) hs3 s52 pS cS (fun t0 I1 f1 r1 c1 => ?_) (fun t0 I1 n f1 l1 hn e1 => ?_)
    case refine_2 =>
      have n5 := l1.b ⟨by omega, pTest_f _⟩
      refine ⟨fun y => absurd y n5, fun _ => hK _ _ ?_⟩
      have e : sLaw g w sco D q = ((pTest g sco 6 (adv g q)).1, (pTest g sco 6 (adv g q)).2.1, D) := by unfold sLaw; rw [if_neg (fun v => v hnil), if_pos t0]
      rw [e]
      exact SOm.no (fS.trans f1.G) t0 (pTest_f _) l1
    refine ⟨fun _ => ?_, fun y => absurd r1.1 y⟩
    have e : sLaw g w sco D q = (0, (pTest g sco 6 (adv g q)).2.1, D.1, (fun k => if k = w then (pTest g sco 6 (adv g q)).2.2 else D.2.1 k), D.2.2) := by unfold sLaw; rw [if_neg (fun v => v hnil), if_neg (fun v => v t0)]
    rw [e] at hK
    have hgd := Gd_test (g := g) (sco := sco) (m := 6) (adv g q) hle t0
    have hty := test_ty t0
    have hne := tcs_n0 hty.1
    have hD1 := hDS.Q f1
    generalize (pTest g sco 6 (adv g q)).2.2 = cs at *
    generalize (pTest g sco 6 (adv g q)).2.1 = q' at *
    have e50 : I1 0 50 = nI z := hD1.2.2.1.2.2.1
    rw [e50]
    have key : ∀ n i (I2 : Ii), i + n = cs.length → (∀ a, a ≠ 0 → a ≠ 39 → a ≠ 41 → I2 a = I1 a) → (I2 39 = u2 I1 39 w (nI z) 39) → (∀ k, k ≠ 50 → I2 0 k = I1 0 k) → I2 0 50 = nI (z + i) → (∀ k, k < z ∨ z + i ≤ k → I2 41 k = I1 41 k) → (∀ j, j < i → I2 41 (z + j) = nI (cs.getD j 0)) → FrGm I J I2 J → GoV wM (d + 9) mX13_codesTold 89 [(0, .ref 0), (1, .int (nI w)), (3, .int (nI i))] [] I2 J K := by
      intro n
      induction n with
      | zero =>
        intro i I2 hi h1 h2 h3 h4 h5 h6 hf
        obtain rfl : i = cs.length := by omega
        refine bX13_codesTold_89 ?_
        rw [h3 94 (by omega), c1.1]
        refine ⟨fun _ => ⟨vp_in_nI (by omega) (by omega), ?_⟩, fun y => absurd (nI_le (Nat.le_refl _) (by omega)) y⟩
        rw [nI_clamp (by omega), h4]
        obtain ⟨hDk, hDn, hDl, hDs⟩ := hD1
        have r3 : ∀ a, a ≠ 40 → u2 I2 40 w (nI (z + cs.length)) a = I2 a := fun a ha => u2_row ha
        refine hK _ _ (SOm.ok (z := z + cs.length) (hf.trans (FrGm.u (by omega))) rfl (r1.eq (by rw [r3 0 (by omega), h3 2 (by omega)]) (by rw [r3 0 (by omega), h3 4 (by omega)]) (by rw [r3 0 (by omega), h3 5 (by omega)])) ⟨Dk.k (D := D) hDk (by rw [r3 31 (by omega), h1 31 (by omega) (by omega) (by omega)]) (by rw [r3 33 (by omega), h1 33 (by omega) (by omega) (by omega)]) (by rw [r3 34 (by omega), h1 34 (by omega) (by omega) (by omega)]) rfl, Dn.k (D := D) hDn (by rw [r3 38 (by omega), h1 38 (by omega) (by omega) (by omega)]), ⟨fun k hk => ?_, fun k hk => ?_, by rw [r3 0 (by omega)]; exact ⟨h4, by omega⟩⟩, Ds.k (D := D) hDs (by rw [r3 35 (by omega), h1 35 (by omega) (by omega) (by omega)]) (by rw [r3 36 (by omega), h1 36 (by omega) (by omega) (by omega)]) (by rw [r3 37 (by omega), h1 37 (by omega) (by omega) (by omega)])⟩ (by show z + cs.length ≤ q'; omega))
        · show EnLd _ k (if k = w then cs else D.2.1 k) _
          unfold EnLd
          rw [r3 39 (by omega), r3 41 (by omega), h2]
          by_cases ek : k = w
          · subst ek
            rw [if_pos rfl, u2_at, u2_at]
            exact Or.inr ⟨hne, z, rfl, rfl, Nat.le_refl _, fun i hi => h6 i hi⟩
          · rw [if_neg ek, u2_k ek, u2_k ek, h1 40 (by omega) (by omega) (by omega)]
            rcases hDl.1 k hk with ⟨y1, y2⟩ | ⟨y1, f, y2, y3, y4, y5⟩
            · exact Or.inl ⟨y1, y2⟩
            · exact Or.inr ⟨y1, f, y2, y3, by omega, fun i hi => by rw [h5 (f + i) (by omega)]; exact y5 i hi⟩
        · show ((if k = w then cs else D.2.1 k) = [] ∨ tcs (if k = w then cs else D.2.1 k) [] = some [true]) ∧ ∀ c, c ∈ (if k = w then cs else D.2.1 k) → lok k c
          by_cases ek : k = w
          · subst ek
            rw [if_pos rfl]
            exact ⟨Or.inr hty.1, fun c hc => okc_lok (by rw [← hsco]; exact hty.2 c hc) hk⟩
          · rw [if_neg ek]; exact hDl.2.1 k hk
      | succ n ih =>
        intro i I2 hi h1 h2 h3 h4 h5 h6 hf
        refine bX13_codesTold_89 ?_
        rw [h3 94 (by omega), c1.1, h4, nI_clamp (by omega), nI_clamp (by omega), nI_clamp (by omega), h1 75 (by omega) (by omega) (by omega), c1.2 i (by omega), nI_1]
        refine ⟨fun y => absurd ((nI_leI (by omega) (by omega)).mp y) (by omega), fun _ => ⟨vp_in_nI (by omega) (by omega), vp_in_nI (by omega) (by omega), ?_⟩⟩
        rintro _ rfl
        rw [u2_row (show 0 ≠ 41 by omega), h4, nI_1]
        refine ih (i + 1) _ (by omega) (fun a b c v => by rw [u2_row b, u2_row v]; exact h1 a b c v) (by rw [u2_row (by omega), u2_row (by omega)]; exact h2) (fun k hk => by rw [u2_k hk, u2_row (by omega)]; exact h3 k hk) (by rw [u2_at]; rfl) (fun k hk => by rw [u2_row (by omega), u2_k (by omega)]; exact h5 k (by omega)) (fun j hj => ?_) (hf.trans ((FrGm.u (by omega)).trans (FrGm.f (by omega))))
        rw [u2_row (by omega)]
        by_cases ej : j = i
        · subst ej; rw [u2_at]
        · rw [u2_k (by omega)]; exact h6 j (by omega)
    refine key cs.length 0 _ (by omega) (fun a a0 a9 _ => u2_row a9) rfl (fun k _ => by rw [u2_row (by omega)]) (by rw [u2_row (by omega)]; exact e50) (fun k _ => by rw [u2_row (by omega)]) (fun j hj => absurd hj (by omega)) (fS.trans (f1.G.trans (FrGm.u (by omega))))
  have k2 : nI w = 2 ↔ w = 2 := by rw [show (2 : Int32) = nI 2 from rfl, nI_eq (by omega) (by omega)]
  rw [k2]
  refine ⟨fun y => main 0 (by rw [hsco, if_neg y]; rfl), fun y => main 1 (by rw [hsco, if_pos y]; rfl)⟩
theorem mz_num {i b : Nat} {K : KV} (hib : (i = 2 ∧ b = 99) ∨ (i = 3 ∧ b = 9) ∨ (i = 4 ∧ b = 100)) (hG : TxG I g) (hp : Rpr I g (adv g q)) (hD : EnDm I J D z) (hz : z ≤ adv g q) (hK : ∀ I' J', SOm g I J (sNum g i 0 b D q) I' J' → K I' J') : CalI wM (d + 1) mX13_number [.ref 0, .int 0, .int (nI b)] I J (fun x I1 J1 => K (u2 I1 38 (i - 2) x) J1) := by
  have hle := hp.le
  have a2 := adv2 (g := g) hle
  refine m_number (a := 0) (b := b) hG hp (by omega) (by omega) (fun m0 I1 f1 r1 => ?_) (fun m0 v I1 f1 l1 => ?_)
  · have e : sNum g i 0 b D q = (0, adv g (adv g q), up D.1 0 i (tvl g (adv g q)), D.2.1, D.2.2) := by unfold sNum; rw [if_neg (fun v => v m0)]
    rw [e] at hK
    have hv9 : tvl g (adv g q) ≤ b := by
      unfold nmf at m0
      split at m0
      · split at m0
        · split at m0
          · omega
          · exact absurd m0 (by simp)
        · exact absurd m0 (by simp)
      · exact absurd m0 (by simp)
    generalize tvl g (adv g q) = tv at *
    have u0 : ∀ j, up D.1 0 i tv 0 j = if j = i then tv else D.1 0 j := fun j => by by_cases v : j = i <;> simp [up, v]
    have ur : ∀ a, a ≠ 0 → up D.1 0 i tv a = D.1 a := fun a ha => by funext j; simp [up, ha]
    have hD1 := hD.K f1
    obtain ⟨⟨hk0, hk1, hkf, hkp⟩, ⟨hn2, hn3, hn4⟩, hDl, hs1, hs2, hs3⟩ := hD1
    refine hK _ _ (SOm.ok (z := z) (f1.G.trans (FrGm.u (by omega))) rfl (r1.eq (by rw [u2_row (by omega)]) (by rw [u2_row (by omega)]) (by rw [u2_row (by omega)])) ⟨?_, ?_, Dl.k (D := D) hDl (u2_row (by omega)) (u2_row (by omega)) (u2_row (by omega)) (by rw [u2_row (by omega)]), ?_⟩ (by show z ≤ adv g (adv g q); omega))
    · unfold Dk
      rw [show (up D.1 0 i tv, D.2.1, D.2.2).1 = up D.1 0 i tv from rfl, u0, u0, if_neg (by omega), if_neg (by omega), ur 1 (by omega), ur 2 (by omega), ur 3 (by omega), ur 4 (by omega), u2_row (by omega), u2_row (by omega), u2_row (by omega)]
      exact ⟨hk0, hk1, hkf, hkp⟩
    · unfold Dn
      rw [show (up D.1 0 i tv, D.2.1, D.2.2).1 = up D.1 0 i tv from rfl, u0, u0, u0]
      rcases hib with ⟨rfl, rfl⟩ | ⟨rfl, rfl⟩ | ⟨rfl, rfl⟩
      · rw [if_pos rfl, if_neg (by omega), if_neg (by omega), u2_at, u2_k (by omega), u2_k (by omega)]
        exact ⟨⟨rfl, hv9⟩, hn3, hn4⟩
      · rw [if_neg (by omega), if_pos rfl, if_neg (by omega), u2_k (by omega), u2_at, u2_k (by omega)]
        exact ⟨hn2, ⟨rfl, hv9⟩, hn4⟩
      · rw [if_neg (by omega), if_neg (by omega), if_pos rfl, u2_k (by omega), u2_k (by omega), u2_at]
        exact ⟨hn2, hn3, ⟨rfl, hv9⟩⟩
    · refine ⟨by rw [u2_row (by omega), u2_row (by omega), u2_row (by omega)]; exact hs1, okS_sc (sc' := up D.1 0 i tv) hs2 (by rw [u0, if_neg (by omega)]; exact Nat.le_refl _) (by rw [u0, if_neg (by omega)]; exact Nat.le_refl _), hs3⟩
  · have e : sNum g i 0 b D q = ((nmf g 0 b (adv g q)).1, (nmf g 0 b (adv g q)).2, D) := by unfold sNum; rw [if_pos m0]
    rw [e] at hK
    exact hK _ _ (SOm.no (f1.G.trans (FrGm.u (by omega))) m0 nmf_f ⟨by rw [u2_row (by omega)]; exact l1.1, by rw [u2_row (by omega)]; exact l1.2⟩)
end MAA

/-! the reference: ask, whole -/
section MW
variable {d : Nat} {I : Ii} {J : Jj} {sc s g : Sx} {L : Nat → List Nat} {ps : Nat → Sx} {p f q : Nat}
/-- a reading begins: the tape is cut, nothing is bad -/
def Beg (I S : Ii) : Prop := (∀ a, a ≠ 0 → S a = I a) ∧ (∀ k, k = 58 ∨ k = 60 ∨ k = 65 ∨ k = 66 ∨ k = 104 → S 0 k = I 0 k) ∧ S 0 1 = 0 ∧ S 0 3 = I 0 1 ∧ S 0 2 = 0 ∧ S 0 4 = -1 ∧ S 0 5 = 0 ∧ S 0 6 = -1
theorem Beg.T {S : Ii} (h : Beg I S) (hM : EnM I J sc L s ps g) : TxG S g ∧ Rpr S g (skp g 0) := by
  obtain ⟨h1, h2, h3, h4, h5, h6, h7, h8⟩ := h
  have hT := hM.2.2.2.2.2.1
  have hW := hM.2.2.2.2.2.2.2.2.2.2.2.2
  refine ⟨⟨⟨by rw [h4]; exact hT.1.1, hT.1.2⟩, by rw [h1 1 (by omega)]; exact hT.2, fun a ha k hk => by rw [h1 a (by omega)]; exact hW a ha k hk⟩, h7, 0, ⟨h5, by omega, 0, h6, by omega, ?_, fun z => absurd z (by omega)⟩, rfl⟩
  exact ⟨fun z => absurd z (by omega), fun z => absurd z.1 (by omega)⟩
theorem Beg.M {S I' : Ii} {J' : Jj} {k pl : Nat} (h : Beg I S) (hM : EnM I J sc L s ps g) (hf : FrQm S I') (hj : J' 32 = J 32) (hj0 : J' 0 67 = J 0 67) {I2 : Ii} (hr : ∀ a, a ≠ 0 → I2 a = I' a) (h0 : ∀ j, j = 58 ∨ j = 60 ∨ j = 65 ∨ j = 66 ∨ j = 104 ∨ j = 1 → I2 0 j = I' 0 j) (h7 : I2 0 7 = nI k) (h8 : I2 0 8 = mI pl) : EnM I2 J' sc L s ps (up (up (up g 0 0 0) 0 1 k) 0 2 pl) := by
  have e : ∀ j, j = 58 ∨ j = 60 ∨ j = 65 ∨ j = 66 ∨ j = 104 ∨ j = 1 → I' 0 j = S 0 j := fun j hj => hf.2 j (by omega) (by omega) (by omega) (by omega) (by omega) (by omega) (by omega) (by omega) (by omega)
  refine hM.rq (fun a a0 a5 a6 => by rw [hr a a0, hf.1 a a0 a5 a6]; exact h.1 a a0) (fun j hj => by rw [h0 j (by omega), e j (by omega)]; exact h.2.1 j hj) (by rw [h0 1 (by omega), e 1 (by omega)]; exact h.2.2.1) h7 h8 hj hj0
theorem y_ask {v : Int32} {K : KL} (hM : EnM I J sc L s ps g) (h : ∀ I' J', EnM I' J' sc L s ps (g_ask sc g v) → K (r_ask sc s g v) I' J') : CalL wM (d + 9) mX13_ask [.ref 0, .int v] I J K := by
  obtain ⟨hC, hV, -⟩ := id hM
  have hP := hV.2.2.1
  have hF8 := hV.2.2.2.1
  refine Cal.of (by decide) (Nat.le_of_ble_eq_true rfl) (bX13_ask_0 (m_isPerson (d := d + 7) hC ⟨fun q => ?_, fun q => ?_⟩))
  case refine_2 =>
    rw [b01_0] at q
    rw [r_ask, g_ask, if_neg (by simp [q]), if_neg (by simp [q])] at h
    exact h _ _ (hM.cut (n := 0) (by omega))
  rw [b01_n] at q
  obtain ⟨ev, h8⟩ := isin_t q
  rw [g_ask, if_pos q] at h
  rintro _ rfl _ rfl _ rfl _ rfl _ rfl _ rfl
  generalize hS : u2 (u2 (u2 (u2 (u2 (u2 (u2 (u2 (u2 (u2 (u2 I 0 3 (I 0 1)) 0 1 0) 0 2 0) 0 4 (-1)) 0 5 0) 0 6 (-1)) 0 52 2) 0 94 0) 0 96 0) 0 97 0) 0 98 0 = S
  have hB : Beg I S := by
    subst hS
    refine ⟨fun a ha => by simp only [u2_row ha], fun k hk => ?_, ?_, ?_, ?_, ?_, ?_, ?_⟩
    · rcases hk with rfl | rfl | rfl | rfl | rfl <;> rfl
    all_goals rfl
  have e52 : S 0 52 = 2 := by subst hS; rfl
  have c0' : CS S [] [] 0 := by subst hS; exact ⟨⟨rfl, fun i hi => absurd hi (by simp)⟩, ⟨rfl, trivial⟩, rfl⟩
  obtain ⟨hG, hr⟩ := hB.T hM
  have hle := hr.le
  have h16 := hG.1.2
  have hb : ∀ k, k < g 0 0 → g 1 k < 256 := fun k hk => (hG.2.1 k hk).2
  generalize hj : idx v = p at *
  subst ev
  -- a fault
  have bad : ∀ (x : Int32) (I1 : Ii), FrQm S I1 → (qrd g).1 ≠ 0 → Flm I1 (qrd g).1 (qrd g).2.1 → (¬ I1 0 5 = 0) → ∀ I20 : Ii, I20 = u2 I1 0 7 (I1 0 5) → ∀ I21 : Ii, I21 = u2 I20 0 8 (I20 0 6) → (((I21 0 5) = 0) → (((2 ≤ x) → (GoL wM (d + 8 + 1) mX13_ask 189 [(0, .ref (0)), (2, .int (x)), (3, .int (0))] [] (u2 (u2 I21 0 102 1) 0 55 (nI p)) (w2 J 0 101 0) K)) ∧ ((¬ 2 ≤ x) → (GoL wM (d + 8 + 1) mX13_ask 189 [(0, .ref (0)), (2, .int (x)), (3, .int (0))] [] (u2 (u2 I21 0 102 1) 0 55 (nI p)) (w2 J 0 101 ((-1))) K)))) ∧ ((¬ (I21 0 5) = 0) → (K ((-1000000000000000)) I21 J)) := by
    intro x I1 f1 hn l1 hn5
    rintro _ rfl _ rfl
    have e5 : u2 (u2 I1 0 7 (I1 0 5)) 0 8 (u2 I1 0 7 (I1 0 5) 0 6) 0 5 = I1 0 5 := by rw [u2_k (by omega), u2_k (by omega)]
    rw [e5]
    refine ⟨fun z => absurd z hn5, fun _ => ?_⟩
    rw [r_ask, if_neg (fun z => hn z.2)] at h
    refine h _ _ ?_
    have hg : gfl (up g 0 0 0) (qrd g) = up (up (up g 0 0 0) 0 1 (qrd g).1) 0 2 ((qrd g).2.1 + 1) := by rw [gfl, if_neg hn]
    rw [hg]
    refine hB.M hM f1 rfl rfl (fun a ha => by rw [u2_row ha, u2_row ha]) (fun j hj => by rw [u2_k (by omega), u2_k (by omega)]) (by rw [u2_k (by omega), u2_at]; exact l1.1) (by rw [u2_at, u2_k (by omega), mI_s]; exact l1.2)
  -- no fault
  have good : (qrd g).1 = 0 → ∀ (I1 : Ii), FrQm S I1 → I1 0 5 = 0 → Cod I1 (qrd g).2.2 → (qrd g).2.2.length ≤ 1600 → ∀ I20 : Ii, I20 = u2 I1 0 7 (I1 0 5) → ∀ I21 : Ii, I21 = u2 I20 0 8 (I20 0 6) → (((I21 0 5) = 0) → (((2 ≤ nI (wd g (skp g 0) - 28)) → (GoL wM (d + 8 + 1) mX13_ask 189 [(0, .ref (0)), (2, .int (nI (wd g (skp g 0) - 28))), (3, .int (0))] [] (u2 (u2 I21 0 102 1) 0 55 (nI p)) (w2 J 0 101 0) K)) ∧ ((¬ 2 ≤ nI (wd g (skp g 0) - 28)) → (GoL wM (d + 8 + 1) mX13_ask 189 [(0, .ref (0)), (2, .int (nI (wd g (skp g 0) - 28))), (3, .int (0))] [] (u2 (u2 I21 0 102 1) 0 55 (nI p)) (w2 J 0 101 ((-1))) K)))) ∧ ((¬ (I21 0 5) = 0) → (K ((-1000000000000000)) I21 J)) := by
    intro hz I1 f1 e5 hcd hcl
    rintro _ rfl _ rfl
    obtain ⟨hw, -, hoc⟩ := qrd_ok hz
    obtain ⟨tb, hty, htb⟩ := qrd_ty hz
    rw [r_ask, if_pos ⟨q, hz⟩, hj] at h
    have hg : gfl (up g 0 0 0) (qrd g) = up (up (up g 0 0 0) 0 1 0) 0 2 0 := by rw [gfl, hz]; simp
    rw [hg] at h
    have e6 : I1 0 6 = -1 := by rw [f1.e6 e5]; exact hB.2.2.2.2.2.2.2
    generalize (qrd g).2.2 = cs at *
    generalize hwd : wd g (skp g 0) = w at *
    generalize hI : u2 (u2 (u2 (u2 I1 0 7 (I1 0 5)) 0 8 (u2 I1 0 7 (I1 0 5) 0 6)) 0 102 1) 0 55 (nI p) = IB
    have rB : ∀ a, a ≠ 0 → IB a = I1 a := fun a ha => by subst hI; rw [u2_row ha, u2_row ha, u2_row ha, u2_row ha]
    have kB : ∀ k, k ≠ 7 → k ≠ 8 → k ≠ 102 → k ≠ 55 → IB 0 k = I1 0 k := fun k a b c e => by subst hI; rw [u2_k e, u2_k c, u2_k b, u2_k a]
    have b7 : IB 0 7 = nI 0 := by subst hI; rw [u2_k (by omega), u2_k (by omega), u2_k (by omega), u2_at]; exact e5
    have b8 : IB 0 8 = mI 0 := by subst hI; rw [u2_k (by omega), u2_k (by omega), u2_at, u2_k (by omega)]; exact e6
    have b102 : IB 0 102 = 1 := by subst hI; rw [u2_k (by omega), u2_at]
    have b55 : IB 0 55 = nI p := by subst hI; rw [u2_at]
    have e5' : u2 (u2 I1 0 7 (I1 0 5)) 0 8 (u2 I1 0 7 (I1 0 5) 0 6) 0 5 = I1 0 5 := by rw [u2_k (by omega), u2_k (by omega)]
    rw [e5', e5]
    refine ⟨fun _ => ?_, fun z => absurd rfl z⟩
    have rS : ∀ a, a ≠ 0 → a ≠ 75 → a ≠ 76 → IB a = I a := fun a h0 h5 h6 => by rw [rB a h0, f1.1 a h0 h5 h6]; exact hB.1 a h0
    have hCB : ∀ J', J' 32 = J 32 → EnMC IB J' sc L := fun J' ej => hC.kept (fun a ha => rS a (by omega) (by omega) (by omega)) ej
    have hVB : EnV IB sc s := hV.row (rS 42 (by omega) (by omega) (by omega))
    have hcB : Cod IB cs := ⟨by rw [kB 94 (by omega) (by omega) (by omega) (by omega)]; exact hcd.1, fun i hi => by rw [rB 75 (by omega)]; exact hcd.2 i hi⟩
    have b52 : IB 0 52 = 2 := by rw [kB 52 (by omega) (by omega) (by omega) (by omega), f1.at (Or.inl rfl)]; exact e52
    have vsm : ∀ k, k < sc 0 0 → okv tb (qv sc s p cs k) := by
      intro k hk
      have kk : ∀ (cs : List Nat) (ts us : List Bool) (st : List Int), tcs cs ts = some us → okst ts st → okst us (evs (sq sc s p k) (who s 1 k) cs st) := by
        intro cs
        induction cs with
        | nil => intro ts us st h1 h2; simp only [tcs, Option.some.injEq] at h1; subst h1; exact h2
        | cons c cs ih =>
          intro ts us st h1 h2
          simp only [tcs] at h1
          cases e : tc1 c ts with
          | none => rw [e] at h1; cases h1
          | some t1 =>
            rw [e] at h1
            simp only at h1
            by_cases hl : t1.length ≤ 60
            · rw [if_pos hl] at h1
              exact ih t1 us _ h1 (ev_ok (fun j _ => msq_sm hC hV h8 hk j) h2 e)
            · rw [if_neg hl] at h1; cases h1
      have := kk cs [] [tb] [] hty trivial
      unfold qv
      match hx : evs (sq sc s p k) (who s 1 k) cs [], this with
      | [v], this => exact this.1
    have key : ∀ r n (I2 : Ii) (J2 : Jj), n + r = sc 0 0 → (∀ a, a ≠ 0 → I2 a = IB a) → (∀ k, k ≠ 100 → k ≠ 102 → I2 0 k = IB 0 k) → I2 0 102 = (if n = 0 then 1 else 0) → J2 0 101 = lI (qac w (qv sc s p cs) n) → (∀ a, a ≠ 0 → a ≠ 77 → J2 a = J a) → (∀ k, k ≠ 101 → J2 0 k = J 0 k) → GoL wM (d + 8 + 1) mX13_ask 189 [(0, .ref 0), (2, .int (nI (w - 28))), (3, .int (nI n))] [] I2 J2 K := by
      intro r
      induction r with
      | zero =>
        intro n I2 J2 hn r2 k2 e102 e101 j2 jk
        obtain rfl : n = sc 0 0 := by omega
        have hC2 : EnMC I2 J2 sc L := (hCB J2 (j2 32 (by omega) (by omega))).kept (fun a ha => r2 a (by omega)) rfl
        refine bX13_ask_189 (m_fm hC2 ⟨fun _ => ?_, fun z => absurd (nI_le (Nat.le_refl _) (by omega)) z⟩)
        rw [e101]
        refine h I2 J2 (hB.M hM f1 (j2 32 (by omega) (by omega)) (jk 67 (by omega)) (fun a ha => by rw [r2 a ha, rB a ha]) (fun j hj => by rw [k2 j (by omega) (by omega), kB j (by omega) (by omega) (by omega) (by omega)]) (by rw [k2 7 (by omega) (by omega)]; exact b7) (by rw [k2 8 (by omega) (by omega)]; exact b8))
      | succ r ih =>
        intro n I2 J2 hn r2 k2 e102 e101 j2 jk
        have hC2 : EnMC I2 J2 sc L := (hCB J2 (j2 32 (by omega) (by omega))).kept (fun a ha => r2 a (by omega)) rfl
        have hV2 : EnV I2 sc s := hVB.row (r2 42 (by omega))
        refine bX13_ask_189 (m_fm hC2 ⟨fun z => absurd ((nI_leI (by omega) (by omega)).mp z) (by omega), fun _ => ?_⟩)
        refine m_qTold (d := d + 5) hC2 hV2 (by rw [k2 55 (by omega) (by omega)]; exact b55) (by rw [k2 52 (by omega) (by omega)]; exact b52) h8 (by omega) (⟨by rw [k2 94 (by omega) (by omega)]; exact hcB.1, fun i hi => by rw [r2 75 (by omega)]; exact hcB.2 i hi⟩ : Cod I2 cs) hcl hty hoc (fun I3 J3 r3 k3 j3 hov => ?_)
        have hbq := qac_b (w := w) (v := qv sc s p cs) (n := n) (fun j hj => okv_sm (vsm j (by omega))) (by omega)
        refine m_qTakes (vf := qv sc s p cs) hw (by omega) (by rw [j3 0 (by omega)]; exact e101) (by rw [k3 102 (by omega)]; exact e102) (by omega) (okv_sm hov) (fun hw3 => by rw [htb hw3] at hov; exact hov) (fun J4 e4 j4 jk4 => ?_)
        rw [nI_1]
        refine ih (n + 1) _ J4 (by omega) (fun a ha => by rw [u2_row ha, r3 a ha, r2 a ha]) (fun k h1 h2 => by rw [u2_k h2, k3 k h1, k2 k h1 h2]) (by rw [u2_at, if_neg (by omega)]) e4 (fun a h0 h7 => by rw [j4 a h0, j3 a h7, j2 a h0 h7]) (fun k hk => by rw [jk4 k hk, j3 0 (by omega)]; exact jk k hk)
    have st : ∀ x, x = lI (qac w (qv sc s p cs) 0) → GoL wM (d + 8 + 1) mX13_ask 189 [(0, .ref 0), (2, .int (nI (w - 28))), (3, .int 0)] [] IB (w2 J 0 101 x) K := fun x ex =>
      key (sc 0 0) 0 IB _ (by omega) (fun _ _ => rfl) (fun _ _ _ => rfl) b102 (by rw [w2_at]; exact ex) (fun a h0 _ => by funext j; rw [w2_o h0]) (fun k hk => w2_k hk)
    rw [show (2 : Int32) = nI 2 from rfl, nI_leI (by omega) (by omega)]
    refine ⟨fun z => st 0 ?_, fun z => st (-1) ?_⟩
    · simp only [qac]; rw [if_neg (by omega)]; rfl
    · simp only [qac]; rw [if_pos (by omega)]; rfl
  -- the end of the text
  have fin : ∀ (r : Res) (I1 : Ii), qrd g = qend g r → r.1 = 0 → FrQm S I1 → Rpr I1 g r.2.1 → Cod I1 r.2.2 → r.2.2.length ≤ 1600 → 
      CalI wM (d + 8) mX13_look [.ref (0)] I1 J (fun x46 I44 J45 => (((x46 = ((-1))) → (∀ I48 : Ii, I48 = u2 I44 0 7 (I44 0 5) → (∀ I49 : Ii, I49 = u2 I48 0 8 (I48 0 6) → ((((I49 0 5) = 0) → (((2 ≤ nI (wd g (skp g 0) - 28)) → (GoL wM (d + 8 + 1) mX13_ask 189 [(0, .ref (0)), (2, .int (nI (wd g (skp g 0) - 28))), (3, .int (0))] [] (u2 (u2 I49 0 102 1) 0 55 (nI p)) (w2 J45 0 101 0) K)) ∧ ((¬ 2 ≤ nI (wd g (skp g 0) - 28)) → (GoL wM (d + 8 + 1) mX13_ask 189 [(0, .ref (0)), (2, .int (nI (wd g (skp g 0) - 28))), (3, .int (0))] [] (u2 (u2 I49 0 102 1) 0 55 (nI p)) (w2 J45 0 101 ((-1))) K)))) ∧ ((¬ (I49 0 5) = 0) → (K ((-1000000000000000)) I49 J45)))))) ∧ ((¬ x46 = ((-1))) → (CalV wM (d + 8) mX13_fail [.ref (0), .int (1), .int (I44 0 2)] I44 J45 (fun I58 J59 => (∀ I60 : Ii, I60 = u2 I58 0 7 (I58 0 5) → (∀ I61 : Ii, I61 = u2 I60 0 8 (I60 0 6) → ((((I61 0 5) = 0) → (((2 ≤ nI (wd g (skp g 0) - 28)) → (GoL wM (d + 8 + 1) mX13_ask 189 [(0, .ref (0)), (2, .int (nI (wd g (skp g 0) - 28))), (3, .int (0))] [] (u2 (u2 I61 0 102 1) 0 55 (nI p)) (w2 J59 0 101 0) K)) ∧ ((¬ 2 ≤ nI (wd g (skp g 0) - 28)) → (GoL wM (d + 8 + 1) mX13_ask 189 [(0, .ref (0)), (2, .int (nI (wd g (skp g 0) - 28))), (3, .int (0))] [] (u2 (u2 I61 0 102 1) 0 55 (nI p)) (w2 J59 0 101 ((-1))) K)))) ∧ ((¬ (I61 0 5) = 0) → (K ((-1000000000000000)) I61 J59)))))))))) := by
    intro r I1 eq hr0 f1 r1 cd1 cl1
    have hG1 := hG.Q f1
    refine m_look hG1 r1 (fun I2 f2 r2 => ?_)
    rw [bat_end hG1 r1.le]
    refine ⟨fun z => ?_, fun z => ?_⟩
    · have eq2 : qrd g = r := by rw [eq, qend, if_pos hr0, if_pos z]
      refine good (by rw [eq2]; exact hr0) I2 (f1.trans f2.Q) r2.1 ?_ (by rw [eq2]; exact cl1)
      rw [eq2]
      exact ⟨by rw [f2.e94]; exact cd1.1, fun i hi => by rw [f2.1 75 (by omega)]; exact cd1.2 i hi⟩
    · have eq2 : qrd g = (1, r.2.1, []) := by rw [eq, qend, if_pos hr0, if_neg z]
      rw [r2.a]
      refine m_fail (k := 1) r2.1 (fun I3 f3 e5 e6 _ => bad _ I3 (f1.trans (f2.Q.trans f3.Q)) (by rw [eq2]; simp) (by rw [eq2]; exact ⟨e5, e6⟩) (by rw [e5]; decide))
  refine m_qKind (d := d + 4) hG hr (fun hw I1 f1 r1 => ?_) (fun hw x I1 f1 l1 => ?_)
  · refine ⟨fun z => absurd r1.1 z, fun _ => ?_⟩
    have hadv := adv_le (g := g) hle
    have eq : qrd g = qend g (if wd g (skp g 0) ≤ 30 then pTest g 4 6 (adv g (skp g 0)) else pSum g 4 6 (adv g (skp g 0))) := by unfold qrd; rw [if_pos hw]
    have e52' : I1 0 52 = tko 4 := by rw [f1.Q.at (Or.inl rfl)]; exact e52
    rw [show (3 : Int32) = nI 3 from rfl, nI_leI (by omega) (by omega)]
    refine ⟨fun z => ?_, fun z => ?_⟩
    · rw [if_neg (by omega)] at eq
      refine m_qSums (e := d + 2) (sco := 4) (oS := 0) (m := 6) (U := []) (C := []) (hG.K f1) (by omega) e52' (fun x hx => by simp at hx) r1 (c0'.K f1) (by simp) (by omega) (fun z0 I2 f2 r2 c2 l2 _ => ⟨fun y => absurd r2.1 y, fun _ => ?_⟩) (fun z0 I2 n f2 l2 hn e2 _ => ?_)
      · have hgd := Gd_sum (sco := 4) (m := 6) (adv g (skp g 0)) hadv.1 z0
        exact fin _ I2 eq z0 (f1.Q.trans f2) r2 (by simpa using c2.1) (by omega)
      · have eq2 : qrd g = pSum g 4 6 (adv g (skp g 0)) := by rw [eq, qend, if_neg z0]
        have n5 := l2.b ⟨by omega, pSum_f _⟩
        exact ⟨fun y => bad _ I2 (f1.Q.trans f2) (by rw [eq2]; exact z0) (by rw [eq2]; exact l2) y, fun y => absurd y n5⟩
    · rw [if_pos (by omega)] at eq
      refine m_qTest (e := d) (sco := 4) (hG.K f1) (by omega) e52' r1 (c0'.K f1) (fun z0 I2 f2 r2 c2 => ⟨fun y => absurd r2.1 y, fun _ => ?_⟩) (fun z0 I2 n f2 l2 hn e2 => ?_)
      · have hgd := Gd_rLp (Gd_rLp (Gd_claim (g := g) (sco := 4) 6) (fun _ => opA_lt)) (fun _ => opO_lt) (adv g (skp g 0)) hadv.1 z0
        have hgd' : adv g (skp g 0) + (pTest g 4 6 (adv g (skp g 0))).2.2.length ≤ (pTest g 4 6 (adv g (skp g 0))).2.1 ∧ (pTest g 4 6 (adv g (skp g 0))).2.1 ≤ g 0 0 := hgd
        exact fin _ I2 eq z0 (f1.Q.trans f2) r2 c2 (by omega)
      · have eq2 : qrd g = pTest g 4 6 (adv g (skp g 0)) := by rw [eq, qend, if_neg z0]
        have n5 := l2.b ⟨by omega, pTest_f _⟩
        exact ⟨fun y => bad _ I2 (f1.Q.trans f2) (by rw [eq2]; exact z0) (by rw [eq2]; exact l2) y, fun y => absurd y n5⟩
  · have eq : qrd g = (1, skp g 0, []) := by unfold qrd; rw [if_neg hw]
    exact ⟨fun y => bad _ I1 f1.Q (by rw [eq]; simp) (by rw [eq]; exact l1) y, fun y => absurd y (by rw [l1.1]; decide)⟩
end MW

/-! the reference: a part told -/
section SS
variable {g : Sx} {sco e oS : Nat} {U : List Nat} {I0 : Ii} {J : Jj} {was : Int32} {K : KV}
/-- a word's bracket opens -/
theorem S_open {I : Ii} {q q' o x : Nat} {y : Int32} {C T : List Nat} (hy : y = nI x) (hx : x = 21 ∨ x = 22) (hG0 : TxG I0 g)
    (hP : if tk g q' = 40 then (if o = 6 then FTm I0 J was K 4 q' else PTm g e oS U I0 J was K (adv g q') C (x :: T) (o + 1)) else FTm I0 J was K 1 q')
    (hf : FrQm I0 I) (hr : Rpr I g q') (hC : CS I C (T ++ U) o) (h98 : I 0 98 = nI U.length) (hl : C.length + (T ++ U).length ≤ q) (hq : q < q') (ho : o = oS + ct T) (ho6 : o ≤ 6) (hv : ∀ x ∈ T, x ≤ 60) (hk : okF true T = true) :
    CalI wM (e + 4) mX13_look [.ref 0] I J (fun x45 I43 J44 => (((¬ x45 = 40) → (CalV wM (e + 4) mX13_asksSign [.ref (0), .int (40)] I43 J44 (fun I47 J48 => (GoV wM (e + 4 + 1) mX13_qPartTold 2 [(0, .ref (0)), (1, .int (1))] [] I47 J48 (kSP e was K))))) ∧ ((x45 = 40) → ((((I43 0 2) = ((-1))) → (CalV wM (e + 4) mX13_asksSign [.ref (0), .int (40)] I43 J44 (fun I51 J52 => (GoV wM (e + 4 + 1) mX13_qPartTold 2 [(0, .ref (0)), (1, .int (1))] [] I51 J52 (kSP e was K))))) ∧ ((¬ (I43 0 2) = ((-1))) → (CalV wM (e + 4) mX13_qOpens [.ref (0), .int y, .int (I43 0 2)] I43 J44 (fun I54 J55 => (CalV wM (e + 4) mX13_asksSign [.ref (0), .int (40)] I54 J55 (fun I56 J57 => (GoV wM (e + 4 + 1) mX13_qPartTold 2 [(0, .ref (0)), (1, .int (1))] [] I56 J57 (kSP e was K))))))))))) := by
  subst hy
  have hG := hG0.Q hf
  have h16 := hG.1.2
  have hle := hr.le
  have hs40 : isS 40 := isS_of (by omega)
  refine m_look hG hr (fun I1 f1 r1 => ?_)
  have b40 : bat g q' = 40 ↔ tk g q' = 40 := bat_eq (c := 40) hG hs40
  have c1 := hC.K f1
  by_cases t40 : tk g q' = 40
  · rw [if_pos t40] at hP
    refine ⟨fun z => absurd (b40.mpr t40) z, fun _ => ?_⟩
    rw [r1.a]
    refine ⟨fun z => absurd z (nI_ne_m1 (by omega)), fun _ => ?_⟩
    refine m_qOpens r1.1 c1 (by omega) ho6 (fun z I2 f2 c2 => ?_) (fun z I2 f2 l2 => ?_)
    · rw [if_neg z] at hP
      refine m_asksSign (c := 40) ((hG.K f1).Q f2.Q) (f2.pr r1.P) hs40 (fun _ I3 f3 r3 => ?_) (fun y => absurd t40 y)
      refine hP I3 ⟨hf.trans (f1.Q.trans (f2.Q.trans f3.Q)), r3, c2.K f3, by rw [f3.e98, f2.e98, f1.e98]; exact h98, ?_, ?_, by omega, ?_, ?_⟩
      · have := (adv_le hle).2.2 (tk_q (by omega) t40)
        simp at hl ⊢; omega
      · have hkx : isK x = true := by unfold isK; exact decide_eq_true (by omega)
        simp only [ct]
        rw [if_pos (Or.inl hkx)]; omega
      · intro y hy
        rcases List.mem_cons.mp hy with rfl | hy
        · omega
        · exact hv y hy
      · have hkx : isK x = true := by unfold isK; exact decide_eq_true (by omega)
        simp only [okF]
        rw [if_neg (by omega), hkx]; exact hk
    · rw [if_pos z] at hP
      refine m_asksSign_b (by rw [l2.1]; decide) (pt_b (by omega) hP (hf.trans (f1.Q.trans f2.Q)) l2 (n := C.length) (by omega) (by rw [f2.e94, f1.e94]; exact hC.1.1))
  · rw [if_neg t40] at hP
    refine ⟨fun _ => ?_, fun z => absurd (b40.mp z) t40⟩
    refine m_asksSign (c := 40) (hG.K f1) r1.P hs40 (fun y => absurd y t40) (fun _ I2 f2 l2 => ?_)
    exact pt_b (by omega) hP (hf.trans (f1.Q.trans f2.Q)) l2 (n := C.length) (by omega) (by rw [f2.e94, f1.e94]; exact hC.1.1)
theorem S_P (hG0 : TxG I0 g) (hs : sco = 1 ∨ sco = 2 ∨ sco = 4) (h52 : I0 0 52 = tko sco) : ∀ q C T o, PTP g sco (PTm g e oS U I0 J was K) (GOm g e oS U I0 J was K) (FTm I0 J was K) q C T o → PTm g e oS U I0 J was K q C T o := by
  intro q C T o hP I hS
  obtain ⟨hf, hr, hC, h98, hl, ho, ho6, hv, hk⟩ := hS
  have hG := hG0.Q hf
  have e52 : I 0 52 = tko sco := by rw [hf.at (Or.inl rfl)]; exact h52
  have h16 := hG.1.2
  have hle := hr.le
  have hs40 : isS 40 := isS_of (by omega)
  refine bX13_qPartTold_2 ⟨fun z => absurd z (by decide), fun _ => ⟨fun z => absurd hr.1 z, fun _ => ?_⟩⟩
  refine m_look hG hr (fun I1 f1 r1 => ?_)
  refine m_qWordBy (d := e + 1) (hG.K f1) r1.P hs (by rw [f1.2 52 (by omega) (by omega) (by omega) (by omega) (by omega)]; exact e52) (fun I2 f2 r2 => ?_)
  have f12 : FrK I I2 := f1.trans f2
  have hG2 := hG.K f12
  have c2 := hC.K f12
  have b40 : bat g q = 40 ↔ tk g q = 40 := bat_eq (c := 40) hG hs40
  unfold PTP at hP
  by_cases t40 : tk g q = 40
  · rw [if_pos t40] at hP
    refine ⟨fun z => absurd (b40.mpr t40) z, fun _ => ?_⟩
    rw [r2.a]
    refine m_qOpens (x := 20) r2.1 c2 (by omega) ho6 (fun z I3 f3 c3 => ?_) (fun z I3 f3 l3 => ?_)
    · rw [if_neg z] at hP
      rw [f3.e2, r2.a, nI_1]
      refine hP _ ⟨hf.trans (f12.Q.trans (f3.Q.trans (FrQm.f (by omega)))), (f3.lk r2).sign (hG2.Q f3.Q) hs40 t40 (u2_at _ _ _ _) (u2_k (by omega)) (u2_k (by omega)), c3.f (by omega), by rw [u2_k (by omega), f3.e98, f12.e98]; exact h98, ?_, ?_, by omega, ?_, ?_⟩
      · have := (adv_le hle).2.2 (tk_q (by omega) t40)
        simp at hl ⊢; omega
      · simp only [ct]
        rw [if_pos (Or.inl (by decide))]; omega
      · intro y hy
        rcases List.mem_cons.mp hy with rfl | hy
        · omega
        · exact hv y hy
      · simp only [okF]
        rw [if_neg (by omega)]; exact hk
    · rw [if_pos z] at hP
      exact pt_b (by omega) hP (hf.trans (f12.Q.trans (f3.Q.trans (FrQm.f (by omega))))) ⟨by rw [u2_k (by omega)]; exact l3.1, by rw [u2_k (by omega)]; exact l3.2⟩ (n := C.length) (by omega) (by rw [u2_k (by omega), f3.e94, f12.e94]; exact hC.1.1)
  rw [if_neg t40] at hP
  refine ⟨fun _ => ?_, fun z => absurd (b40.mp z) t40⟩
  refine m_isHere (a := 60) hG2 r2.P (by unfold isW; omega) (fun I3 f3 r3 => here_fi (fun w14 => ?_) (fun w14 => ?_))
  · have w14 : wd g q = 14 := w14
    rw [if_pos (Or.inl w14)] at hP
    rw [if_pos w14] at hP
    have hq2 := (adv_le hle).2.2 (tk256 (wd_t w14 (by omega)) (fun k hk => (hG.2.1 k hk).2)).1
    refine m_takes (d := e + 2) (a := 60) (hG2.K f3) r3.P (by unfold isW; omega) (fun _ I4 f4 r4 => ⟨fun _ => ?_, fun z => absurd z (by decide)⟩) (fun z => absurd w14 z)
    have f14 := (f12.trans f3).trans f4
    exact S_open (x := 21) rfl (by omega) hG0 hP (hf.trans f14.Q) r4 (hC.K f14) (by rw [f14.e98]; exact h98) hl hq2 ho ho6 hv hk
  have w14 : ¬ wd g q = 14 := w14
  refine m_isHere (a := 61) (hG2.K f3) r3.P (by unfold isW; omega) (fun I4 f4 r4 => here_if (fun w15 => ?_) (fun w15 => ?_))
  · have w15 : wd g q = 15 := w15
    rw [if_pos (Or.inr w15)] at hP
    rw [if_neg w14] at hP
    have hq2 := (adv_le hle).2.2 (tk256 (wd_t w15 (by omega)) (fun k hk => (hG.2.1 k hk).2)).1
    refine m_takes (d := e + 2) (a := 60) ((hG2.K f3).K f4) r4.P (by unfold isW; omega) (fun z => absurd z w14) (fun _ I5 f5 r5 => ⟨fun z => absurd rfl z, fun _ => ?_⟩)
    refine m_asks (d := e + 1) (a := 61) (((hG2.K f3).K f4).K f5) r5.P (by unfold isW; omega) (fun _ I6 f6 r6 => ?_) (fun z => absurd w15 z)
    have f16 := (((f12.trans f3).trans f4).trans f5).trans f6
    exact S_open (x := 22) rfl (by omega) hG0 hP (hf.trans f16.Q) r6 (hC.K f16) (by rw [f16.e98]; exact h98) hl hq2 ho ho6 hv hk
  have w15 : ¬ wd g q = 15 := w15
  rw [if_neg (by omega)] at hP
  have f14 := (f12.trans f3).trans f4
  have hG4 := hG.K f14
  by_cases w3 : wd g q = 3 ∧ sco = 4
  · rw [if_pos w3] at hP
    rw [if_pos w3]
    refine ⟨fun z => absurd z (by decide), fun _ => ?_⟩
    rw [r4.a]
    have hq2 := (adv_le hle).2.2 (tk256 (wd_t w3.1 (by omega)) (fun k hk => (hG.2.1 k hk).2)).1
    refine m_qOpens (x := 60) r4.1 (hC.K f14) (by omega) ho6 (fun z I5 f5 c5 => ?_) (fun z I5 f5 l5 => ?_)
    · rw [if_neg z] at hP
      refine m_qAsksWord (j := 12) (by omega) (m_asks (d := e) (a := 74) (hG4.Q f5.Q) (f5.pr r4.P) (by unfold isW; omega) (fun _ I6 f6 r6 => ?_) (fun y => absurd w3.1 y))
      refine hP I6 ⟨hf.trans (f14.Q.trans (f5.Q.trans f6.Q)), r6, c5.K f6, by rw [f6.e98, f5.e98, f14.e98]; exact h98, ?_, ?_, by omega, ?_, ?_⟩
      · simp at hl ⊢; omega
      · simp only [ct]
        rw [if_pos (Or.inr trivial)]; omega
      · intro y hy
        rcases List.mem_cons.mp hy with rfl | hy
        · omega
        · exact hv y hy
      · simp only [okF, if_true, Bool.true_and]; exact hk
    · rw [if_pos z] at hP
      refine m_qAsksWord (j := 12) (by omega) (m_asks_b (d := e) (a := 74) (by rw [l5.1]; decide) (by unfold isW; omega) ?_)
      exact pt_b (by omega) hP (hf.trans (f14.Q.trans f5.Q)) l5 (n := C.length) (by omega) (by rw [f5.e94, f14.e94]; exact hC.1.1)
  rw [if_neg w3] at hP
  rw [if_neg w3]
  refine ⟨fun _ => bX13_qPartTold_2 ⟨fun _ => ⟨fun _ => ?_, fun z => absurd r4.1 z⟩, fun z => absurd rfl z⟩, fun z => absurd rfl z⟩
  refine m_qWordSum (d := e + 1) hG4 r4.P hs (by rw [f14.2 52 (by omega) (by omega) (by omega) (by omega) (by omega)]; exact e52) (fun ha I5 f5 r5 => ?_) (fun ha I5 f5 r5 => ?_)
  · have hr16 := alw_r ha
    rw [if_pos ha] at hP
    have hq2 := (adv_le hle).2.2 (tk256 (wd_t (w := wd g q) rfl (by omega)) (fun k hk => (hG.2.1 k hk).2)).1
    refine ⟨fun z => absurd z (nI_ne_m1 (by omega)), fun _ => ?_⟩
    have f15 := f14.trans f5
    have ew : wd g q = wpl (62 + (wd g q - 16)) := by
      obtain ⟨j, hj⟩ : ∃ j, wd g q = 16 + j := ⟨wd g q - 16, by omega⟩
      rw [hj]
      have : ∀ j, j < 12 → 16 + j = wpl (62 + (16 + j - 16)) := by decide
      exact this j (by omega)
    refine m_qAsksWord (j := wd g q - 16) (by omega) (m_asks (d := e) (hG4.K f5) r5.P (by unfold isW; omega) (fun _ I6 f6 r6 => ?_) (fun y => absurd ew y))
    have f16 := f15.trans f6
    rw [show (40 : Int32) = nI 40 from rfl, nI_add, show 40 + (wd g q - 16) = 24 + wd g q by omega]
    exact S_end hP (hf.trans f16.Q) r6 (hC.K f16) (by rw [f16.e98]; exact h98) hl hq2 h16 ho ho6 hv hk
  · have ha' : ¬ alw sco (wd g q) = true := by rw [ha]; decide
    rw [if_neg ha'] at hP
    refine ⟨fun _ => ?_, fun z => absurd rfl z⟩
    have f15 := f14.trans f5
    refine m_number (a := 0) (b := 9999) (hG4.K f5) r5.P (by omega) (by omega) (fun z I6 f6 r6 => ?_) (fun z v I6 f6 l6 => ?_)
    · rw [if_pos z] at hP
      have f16 := f15.trans f6
      have hq2 : q < adv g q := by
        refine (adv_le hle).2.2 (tk257 ?_ (fun k hk => (hG.2.1 k hk).2)).1
        rw [nmf_p] at z
        by_cases y : tk g q = 257
        · exact y
        · rw [if_neg y] at z; exact absurd z (by simp)
      rw [show (1000 : Int32) = nI 1000 from rfl, nI_add]
      exact S_end hP (hf.trans f16.Q) r6 (hC.K f16) (by rw [f16.e98]; exact h98) hl hq2 h16 ho ho6 hv hk
    · rw [if_neg z] at hP
      have f16 := f15.trans f6
      have hn : 1 ≤ (nmf g 0 9999 q).1 ∧ (nmf g 0 9999 q).1 < 10 := by
        refine ⟨by omega, ?_⟩
        rw [nmf_p]
        split
        · split <;> simp
        · simp
      have h5 : ¬ I6 0 5 = 0 := by rw [l6.1, show (0 : Int32) = nI 0 from rfl, nI_eq (by omega) (by omega)]; omega
      refine m_qCode_b (n := C.length) (by rw [f16.e94]; exact hC.1.1) (by omega) (fun I7 f7 e7 => ?_)
      refine m_qEndsPart_b (by rw [f7.e5]; exact h5) (kSP_b hn hP (hf.trans (f16.Q.trans f7.Q)) ⟨by rw [f7.e5]; exact l6.1, by rw [f7.e6]; exact l6.2⟩ (n := C.length + 1) (by omega) e7)
end SS

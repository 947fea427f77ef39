/-! the class's Calendar: what it fills, lessonOf, beliefTaken -/
def FrL (I I' : Ii) : Prop := ∀ a, a ≠ 12 → a ≠ 33 → I' a = I a
theorem FrL.trans {I I1 I2 : Ii} (h1 : FrL I I1) (h2 : FrL I1 I2) : FrL I I2 := fun a ha hb => (h2 a ha hb).trans (h1 a ha hb)
/-- the slots that a person fills -/
def Sl1 (I : Ii) (sc s : Sx) (p : Nat) : Prop := ∀ j, j < 4 → ∀ f, I 33 j = iI (sg sc s p f j)
def Sl2 (I : Ii) (sc s : Sx) (p : Nat) : Prop := Sl1 I sc s p ∧ ∀ f, I 33 5 = iI (sg sc s p f 5) ∧ I 33 6 = iI (sg sc s p f 6)
theorem EnS.L {I I' : Ii} {o : Nat} {s : Sx} (h : EnS I o s) (ho : z_Ob wX o 9) (hk : FrL I I') : EnS I' o s := h.kept (fun a h1 h2 => by have := st_dis ho; exact hk a (by omega) (by omega))
theorem EnC.L {I I' : Ii} {sc : Sx} {L : Nat → List Nat} (h : EnC I 3 sc L) (hk : FrL I I') : EnC I' 3 sc L := h.kept (fun a h1 h2 => hk a (by omega) (by omega))
section SP
variable {d : Nat} {I : Ii} {J : Jj} {sc s : Sx} {L : Nat → List Nat}
theorem c0 : ((0 : Int32)).toNatClampNeg = 0 := rfl
theorem c1 : ((1 : Int32)).toNatClampNeg = 1 := rfl
theorem c2 : ((2 : Int32)).toNatClampNeg = 2 := rfl
theorem c3 : ((3 : Int32)).toNatClampNeg = 3 := rfl
theorem c4 : ((4 : Int32)).toNatClampNeg = 4 := rfl
theorem c5 : ((5 : Int32)).toNatClampNeg = 5 := rfl
theorem c6 : ((6 : Int32)).toNatClampNeg = 6 := rfl
theorem c7 : ((7 : Int32)).toNatClampNeg = 7 := rfl
theorem c8 : ((8 : Int32)).toNatClampNeg = 8 := rfl
theorem s_fillPerson {o1 p : Nat} {K : KV} (ho1 : z_Ob wX o1 9) (hC : EnC I 3 sc L) (hs : EnS I o1 s) (hp : p < sc 0 1)
    (h : ∀ I', (∀ a, a ≠ 33 → I' a = I a) → (∀ j, 4 ≤ j → I' 33 j = I 33 j) → Sl1 I' sc s p → K I' J) : CalV wX (d + 1) mX1_fillPerson [.ref 32, .ref o1, .int (nI p)] I J K := by
  have hP := hC.2.1.2
  have hdis := st_dis ho1
  refine Cal.of (by decide) (Nat.le_of_ble_eq_true rfl) (bX1_fillPerson_0 ho1 (s_isPlace (by omega) ⟨fun _ => ⟨vp_in_nI (by omega) (by omega), ?_⟩, fun q => absurd q (by decide)⟩))
  rw [c0, c1, c2, c3, nI_clamp (show p < 2 ^ 31 by omega), (hC.2.2.2.2.2.2.1 p hp).2.2.1]
  intro I7 e7
  have r7 : ∀ a, a ≠ 33 → I7 a = I a := fun a ha => by rw [e7]; exact u2_row ha
  rw [r7 (o1 + 2) (by omega), (hs.2.1 p (by omega)).1]
  refine s_bitCount (hs.2.1 p (by omega)).2 ?_
  intro I12 e12
  have r12 : ∀ a, a ≠ 33 → I12 a = I a := fun a ha => by rw [e12, u2_row ha]; exact r7 a ha
  rw [r12 (o1 + 3) (by omega), (hs.2.2.1 p (by omega)).1]
  refine s_bitCount (hs.2.2.1 p (by omega)).2 ?_
  intro I17 e17
  have r17 : ∀ a, a ≠ 33 → I17 a = I a := fun a ha => by rw [e17, u2_row ha]; exact r12 a ha
  rw [r17 o1 (by omega), hs.2.2.2.2.1.1]
  refine h _ (fun a ha => by rw [u2_row ha]; exact r17 a ha) (fun j hj => by rw [u2_k (by omega), e17, u2_k (by omega), e12, u2_k (by omega), e7, u2_k (by omega)]) ?_
  intro j hj f
  rcases (show j = 0 ∨ j = 1 ∨ j = 2 ∨ j = 3 by omega) with rfl | rfl | rfl | rfl
  · rw [u2_k (by omega), e17, u2_k (by omega), e12, u2_k (by omega), e7, u2_at]; exact (iI_n _).symm
  · rw [u2_k (by omega), e17, u2_k (by omega), e12, u2_at]; exact (iI_n _).symm
  · rw [u2_k (by omega), e17, u2_at]; exact (iI_n _).symm
  · rw [u2_at]; exact (iI_n _).symm
theorem s_fillLesson {o1 p : Nat} {K : KV} (ho1 : z_Ob wX o1 9) (hC : EnC I 3 sc L) (hs : EnS I o1 s) (hp : p < sc 0 1) (hm0 : s 0 p ≠ 0) (hm : s 0 p ≤ sc 0 1)
    (h : ∀ I', (∀ a, a ≠ 33 → I' a = I a) → Sl2 I' sc s p → K I' J) : CalV wX (d + 2) mX1_fillLesson [.ref 32, .ref o1, .int (nI p), .int (nI (s 0 p - 1))] I J K := by
  have hP := hC.2.1.2
  have hdis := st_dis ho1
  refine Cal.of (by decide) (Nat.le_of_ble_eq_true rfl) (bX1_fillLesson_0 ho1 (s_isPlace (by omega) ⟨fun q => absurd q (by decide), fun _ => s_isPlace (by omega) ⟨fun _ => ?_, fun q => absurd q (by decide)⟩⟩))
  refine s_fillPerson ho1 hC hs hp (fun I9 r9 k9 hsl => ?_)
  have hs9 : EnS I9 o1 s := hs.kept (fun a h1 h2 => r9 a (by omega))
  refine s_pupilsOf ho1 hs9 (by omega) ?_
  rw [show s 0 p - 1 + 1 = s 0 p by omega]
  have hmk := msk_lt (fun k => decide (s 0 k = s 0 p)) 8
  refine s_bitCount (by omega) ?_
  intro I18 e18
  rw [c5] at e18
  rw [c6, nI_clamp (show s 0 p - 1 < 2 ^ 31 by omega)]
  have r18 : ∀ a, a ≠ 33 → I18 a = I a := fun a ha => by rw [e18, u2_row ha]; exact r9 a ha
  refine ⟨vp_in_nI (by omega) (by omega), ?_⟩
  rw [r18 7 (by omega), (hC.2.2.2.2.2.2.1 (s 0 p - 1) (by omega)).2.2.1]
  refine h _ (fun a ha => by rw [u2_row ha]; exact r18 a ha) ⟨fun j hj f => ?_, fun f => ⟨?_, ?_⟩⟩
  · rw [u2_k (by omega), e18, u2_k (by omega)]
    exact hsl j hj f
  · rw [u2_k (by omega), e18, u2_at]; exact (iI_n _).symm
  · rw [u2_at]
    show nI _ = iI (if s 0 p = 0 then 0 else _)
    rw [if_neg hm0]
    exact (iI_n _).symm
theorem sg_sm {o1 p f : Nat} (hC : EnC I 3 sc L) (hs : EnS I o1 s) (hp : p < sc 0 1) (hm : s 0 p ≤ sc 0 1) (j : Nat) : sm (sg sc s p f j) := by
  have hP := hC.2.1.2
  have h4 := (hC.2.2.2.2.2.2.1 p hp).2.2.2
  have b1 := pc8_le (s 1 p)
  have b2 := pc8_le (s 2 p)
  have by_ := hs.2.2.2.2.1.2
  have b5 := pc8_le (msk (fun k => decide (s 0 k = s 0 p)) 8)
  have b7 := (hs.2.2.2.1 p (by omega)).2
  have b8 := mrkN_b (sc := sc) (s := s) (p := p) (n := sc 0 0) (fun k hk => (hC.2.2.2.2.2.1 k hk).2.2.2)
  have bF := hC.1.2
  unfold sg sm
  split
  · omega
  · omega
  · omega
  · omega
  · split
    · next h => have := (hC.2.2.2.2.2.1 f h).2.2.2; omega
    · omega
  · omega
  · split
    · omega
    · have := (hC.2.2.2.2.2.2.1 (s 0 p - 1) (by omega)).2.2.2; omega
  · omega
  · unfold mrk; omega
  · omega
theorem s_lawL {p f w : Nat} {K : KI} {o1 : Nat} (hC : EnC I 3 sc L) (hs : EnS I o1 s) (hp : p < sc 0 1) (hm : s 0 p ≤ sc 0 1) (hw : w < 2) (hn : L w ≠ []) (hf : f < sc 0 0) (hsl : Sl2 I sc s p) (h4 : I 33 4 = nI (sc 2 f))
    (h : ∀ v I', (v = 0 ∨ v = 1) → (hld sc L s w p f = decide (v = 1)) → (∀ q, q ≠ 12 → I' q = I q) → K (iI v) I' J) : CalI wX (d + 2) mX3_value [.ref 8, .int (nI w), .ref 33] I J K := by
  have hlok := hC.2.2.2.2.2.2.2.2 w (by omega)
  have htc : tcs (L w) [] = some [true] := hlok.1.resolve_left hn
  refine s_value (σ := sg sc s p f) (who := 0) (t := true) obX_8 arX_33 (by omega) (by decide) (hC.2.2.2.2.2.2.2.1 w (by omega)) hn (fun j hj => ⟨sg_sm hC hs hp hm j, fun hmem => ?_⟩) ⟨by omega, fun q => absurd rfl (hlok.2 60 q).1⟩ htc (fun v I' hev hov hfr => h v I' hov ?_ hfr)
  · have := (hlok.2 _ hmem).2 (by omega) (by omega)
    rw [if_neg (by omega)] at this
    rcases (show j < 4 ∨ j = 4 ∨ j = 5 ∨ j = 6 by omega) with e | rfl | rfl | rfl
    · exact hsl.1 j e f
    · rw [h4]
      show nI _ = iI (if f < sc 0 0 then _ else _)
      rw [if_pos hf]
      exact (iI_n _).symm
    · exact (hsl.2 f).1
    · exact (hsl.2 f).2
  · unfold hld
    rw [hev]
    simp
theorem s_lessonOf {o1 p : Nat} {K : KI} (ho1 : z_Ob wX o1 9) (hC : EnC I 3 sc L) (hs : EnS I o1 s) (hp : p < sc 0 1) (hm : s 0 p ≤ sc 0 1) (h : ∀ I', FrL I I' → K (mI (lsn sc L s p)) I' J) : CalI wX (d + 3) mX1_lessonOf [.ref 32, .ref o1, .int (nI p)] I J K := by
  have hP := hC.2.1.2
  have hF := hC.1.2
  refine Cal.of (by decide) (Nat.le_of_ble_eq_true rfl) (bX1_lessonOf_0 ho1 (s_masterOf ho1 hs (by omega) ?_))
  by_cases hm0 : s 0 p = 0
  · rw [hm0, mI_0]
    refine ⟨fun q => absurd rfl q, fun _ => ?_⟩
    have := h I (fun _ _ _ => rfl)
    simpa [lsn, hm0, mI_0] using this
  have em : mI (s 0 p) = nI (s 0 p - 1) := by simp [mI, hm0]
  rw [em]
  refine ⟨fun _ => ?_, fun q => absurd q (nI_ne_m1 (by omega))⟩
  refine s_lessonsFor ho1 hs (by omega) (by omega) ?_
  have hop : opn s p (s 0 p - 1) < 256 := by
    have a1 := (hs.2.1 (s 0 p - 1) (by omega)).2
    have a2 := (hs.2.2.1 (s 0 p - 1) (by omega)).2
    have a3 := (hs.2.2.1 p (by omega)).2
    exact or_lt8 (and_lt8 (or_lt8 a1 a2)) (and_lt8 a3)
  have h' : ∀ I', FrL I I' → K (mI (lsf (lsq sc L s p) (sc 0 0) 0)) I' J := fun I' hf => by
    have := h I' hf
    simpa [lsn, hm0] using this
  generalize hO : opn s p (s 0 p - 1) = O at hop ⊢
  -- the loop over the facts
  have key : ∀ (tst : Nat) (n f : Nat) (I1 : Ii), (tst = 0 ∧ (O = 0 ∨ L 0 = []) ∨ tst = 1 ∧ L 0 ≠ [] ∧ Sl2 I1 sc s p) → f + n = sc 0 0 → FrL I I1 → (∀ I', FrL I I' → K (mI (lsf (lsq sc L s p) n f)) I' J) →
      GoI wX (d + 2 + 1) mX1_lessonOf 62 [(0, .ref 32), (4, .int (nI O)), (5, .int (nI tst)), (6, .int (nI f))] [] I1 J K := by
    intro tst n
    induction n with
    | zero =>
      intro f I1 ht hfn hfr hK
      refine bX1_lessonOf_62 ho1 ⟨fun _ => hK I1 hfr, fun q => absurd ?_ q⟩
      rw [hfr 3 (by omega) (by omega), hC.1.1]
      exact nI_le (by omega) (by omega)
    | succ n ih =>
      intro f I1 ht hfn hfr hK
      have hC1 : EnC I1 3 sc L := hC.L hfr
      refine bX1_lessonOf_62 ho1 ⟨fun q => ?_, fun _ => ⟨fun q => absurd ((nI_leI (a := 8) (by decide) (by omega)).mp q) (by omega), fun _ => ⟨fun q => ?_, fun q => ⟨vp_in_nI (by omega) (by omega), ?_⟩⟩⟩⟩
      · rw [hC1.1.1] at q
        exact absurd ((nI_leI (by omega) (by omega)).mp q) (by omega)
      · -- nothing is open
        have q : O = 0 := (nI_eq (b := 0) (by omega) (by decide)).mp q
        have hno : ∀ n f, lsf (lsq sc L s p) n f = 0 := by
          intro n
          induction n with
          | zero => intro f; rfl
          | succ n ih2 =>
            intro f
            have : lsq sc L s p f = false := by simp [lsq, hO, q, bq]
            simp [lsf, this, ih2]
        have := hK I1 hfr
        rw [hno, mI_0] at this
        exact this
      · have q : O ≠ 0 := fun e => q (by rw [e]; rfl)
        rw [c4, nI_clamp (by omega), (hC1.2.2.2.2.2.1 f (by omega)).2.2.1, nI_1]
        have hfr2 : FrL I (u2 I1 33 4 (nI (sc 2 f))) := fun a ha hb => by rw [u2_row hb]; exact hfr a ha hb
        have hsl2 : Sl2 I1 sc s p → Sl2 (u2 I1 33 4 (nI (sc 2 f))) sc s p := fun hS => ⟨fun j hj f' => by rw [u2_k (by omega)]; exact hS.1 j hj f', fun f' => ⟨by rw [u2_k (by omega)]; exact (hS.2 f').1, by rw [u2_k (by omega)]; exact (hS.2 f').2⟩⟩
        refine s_hasBit hop (by omega) ?_
        rcases bq01 O f with e | e
        · rw [e]
          refine ⟨fun _ => ?_, fun q2 => absurd rfl q2⟩
          refine ih (f + 1) _ (ht.imp id (fun z => ⟨z.1, z.2.1, hsl2 z.2.2⟩)) (by omega) hfr2 (fun I' hf' => ?_)
          have := hK I' hf'
          simpa [lsf, lsq, hO, e] using this
        · rw [e]
          refine ⟨fun q2 => absurd q2 (by decide), fun _ => ⟨fun q2 => ?_, fun q2 => ?_⟩⟩
          · have hL0 : L 0 = [] := by
              rcases ht with ⟨-, z | z⟩ | ⟨rfl, -⟩
              · exact absurd z q
              · exact z
              · exact absurd q2 (by decide)
            have := hK _ hfr2
            have e9 : lsq sc L s p f = true := by simp [lsq, hO, e, hL0]
            simp only [lsf, e9, if_true, mI_s] at this
            exact this
          · obtain ⟨rfl, hL0, hS⟩ : tst = 1 ∧ L 0 ≠ [] ∧ Sl2 I1 sc s p := by
              rcases ht with ⟨rfl, -⟩ | z
              · exact absurd rfl q2
              · exact z
            have hC2 : EnC (u2 I1 33 4 (nI (sc 2 f))) 3 sc L := hC.L hfr2
            have hs2 : EnS (u2 I1 33 4 (nI (sc 2 f))) o1 s := hs.L ho1 hfr2
            refine s_lawL (w := 0) hC2 hs2 hp hm (by omega) hL0 (by omega) (hsl2 hS) (u2_at _ _ _ _) (fun v I' hv hh hfr3 => ?_)
            have hfr4 : FrL I I' := fun a ha hb => by rw [hfr3 a ha]; exact hfr2 a ha hb
            refine ⟨fun q3 => ?_, fun q3 => ?_⟩
            · have hv0 : ¬ v = 1 := fun z => q3 (by rw [z]; rfl)
              refine ih (f + 1) _ (Or.inr ⟨rfl, hL0, ?_⟩) (by omega) hfr4 (fun I'' hf' => ?_)
              · have hS2 := hsl2 hS
                exact ⟨fun j hj f' => by rw [hfr3 33 (by omega)]; exact hS2.1 j hj f', fun f' => ⟨by rw [hfr3 33 (by omega)]; exact (hS2.2 f').1, by rw [hfr3 33 (by omega)]; exact (hS2.2 f').2⟩⟩
              · have := hK I'' hf'
                simpa [lsf, lsq, hO, e, hL0, hh, hv0] using this
            · have hv1 : v = 1 := by
                rcases hv with rfl | rfl
                · exact absurd q3 (by decide)
                · rfl
              have := hK _ hfr4
              have e9 : lsq sc L s p f = true := by simp [lsq, hO, e, hh, hv1]
              simp only [lsf, e9, if_true, mI_s] at this
              exact this
  refine ⟨fun q => ?_, fun q => ?_⟩
  · have q : O = 0 := (nI_eq (b := 0) (by omega) (by decide)).mp q
    exact key 0 (sc 0 0) 0 I (Or.inl ⟨rfl, Or.inl q⟩) (by omega) (fun _ _ _ => rfl) h'
  · refine s_isTold (k := 0) obX_8 (by omega) (hC.2.2.2.2.2.2.2.1 0 (by omega)) ?_
    refine ⟨fun q2 => ?_, fun q2 => ?_⟩
    · have : L 0 = [] := by
        by_cases e : L 0 = []
        · exact e
        · rw [if_neg e] at q2; exact absurd q2 (by decide)
      exact key 0 (sc 0 0) 0 I (Or.inl ⟨rfl, Or.inr this⟩) (by omega) (fun _ _ _ => rfl) h'
    · have : L 0 ≠ [] := fun e => by rw [if_pos e] at q2; exact absurd rfl q2
      refine s_fillLesson ho1 hC hs hp hm0 hm (fun I' hfr hsl => ?_)
      exact key 1 (sc 0 0) 0 I' (Or.inr ⟨rfl, this, hsl⟩) (by omega) (fun a _ hb => hfr a hb) h'
end SP

/-! Calendar: beliefTaken, examine -/
section SP
variable {d : Nat} {I : Ii} {J : Jj} {sc s : Sx} {L : Nat → List Nat}
theorem s_beliefTaken {o1 p f : Nat} {K : KI} (ho1 : z_Ob wX o1 9) (hC : EnC I 3 sc L) (hs : EnS I o1 s) (hp : p < sc 0 1) (hm0 : s 0 p ≠ 0) (hm : s 0 p ≤ sc 0 1) (hf : f < sc 0 0) (h : ∀ I', FrL I I' → K (nI (tkn sc L s p f)) I' J) : CalI wX (d + 3) mX1_beliefTaken [.ref 32, .ref o1, .int (nI p), .int (nI f)] I J K := by
  have hP := hC.2.1.2
  have hF := hC.1.2
  refine Cal.of (by decide) (Nat.le_of_ble_eq_true rfl) (bX1_beliefTaken_0 ho1 (s_masterOf ho1 hs (by omega) (s_beliefOf ho1 hs (by omega) (by omega) ?_)))
  have em : mI (s 0 p) = nI (s 0 p - 1) := by simp [mI, hm0]
  rw [em]
  refine ⟨fun q => ?_, fun q => ?_⟩
  · have q : bel s p f ≠ 2 := fun e => q (by rw [e]; rfl)
    refine s_beliefOf ho1 hs (by omega) (by omega) ⟨fun q2 => ?_, fun q2 => ?_⟩
    · have q2 : bel s (s 0 p - 1) f ≠ 2 := fun e => q2 (by rw [e]; rfl)
      refine s_isTold (k := 1) obX_8 (by omega) (hC.2.2.2.2.2.2.2.1 1 (by omega)) ⟨fun q3 => ?_, fun q3 => ⟨fun q4 => absurd q4 (nI_pos (by omega)), fun _ => ⟨fun _ => ?_, fun q4 => absurd (nI_lt (b := 8) (show f < 8 by omega) (by decide)) q4⟩⟩⟩
      · have e : L 1 = [] := by
          by_cases e : L 1 = []
          · exact e
          · rw [if_neg e] at q3; exact absurd q3 (by decide)
        have := h I (fun _ _ _ => rfl)
        simp only [tkn, q, q2, e, if_false, ne_eq, not_true_eq_false, false_and] at this
        exact this
      · have e : L 1 ≠ [] := fun e => by rw [if_pos e] at q3; exact absurd rfl q3
        refine s_fillLesson ho1 hC hs hp hm0 hm (fun I' hfr hsl => ⟨vp_in_nI (by omega) (by omega), ?_⟩)
        have hfrL : FrL I I' := fun a _ hb => hfr a hb
        have hC1 : EnC I' 3 sc L := hC.L hfrL
        rw [c4, nI_clamp (by omega), (hC1.2.2.2.2.2.1 f hf).2.2.1]
        have hfr2 : FrL I (u2 I' 33 4 (nI (sc 2 f))) := fun a ha hb => by rw [u2_row hb]; exact hfrL a ha hb
        refine s_lawL (w := 1) (hC.L hfr2) (hs.L ho1 hfr2) hp hm (by omega) e hf ⟨fun j hj f' => by rw [u2_k (by omega)]; exact hsl.1 j hj f', fun f' => ⟨by rw [u2_k (by omega)]; exact (hsl.2 f').1, by rw [u2_k (by omega)]; exact (hsl.2 f').2⟩⟩ (u2_at _ _ _ _) (fun v I'' hv hh hfr3 => ?_)
        have hfr4 : FrL I I'' := fun a ha hb => by rw [hfr3 a ha]; exact hfr2 a ha hb
        have hK := h I'' hfr4
        simp only [tkn, q, q2, e, hh, if_false, ne_eq, not_false_eq_true, true_and, decide_eq_true_eq] at hK
        refine ⟨fun q5 => ?_, fun q5 => ?_⟩
        · have hv0 : ¬ v = 1 := fun z => q5 (by rw [z]; rfl)
          rw [if_neg hv0] at hK
          exact hK
        · have hv1 : v = 1 := by
            rcases hv with rfl | rfl
            · exact absurd q5 (by decide)
            · rfl
          rw [if_pos hv1] at hK
          exact hK
    · have q2 : bel s (s 0 p - 1) f = 2 := by
        rcases bel3 s (s 0 p - 1) f with e | e | e
        · rw [e] at q2; exact absurd q2 (by decide)
        · rw [e] at q2; exact absurd q2 (by decide)
        · exact e
      have := h I (fun _ _ _ => rfl)
      simp only [tkn, q, q2, if_false, if_true] at this
      exact this
  · have q : bel s p f = 2 := by
      rcases bel3 s p f with e | e | e
      · rw [e] at q; exact absurd q (by decide)
      · rw [e] at q; exact absurd q (by decide)
      · exact e
    have := h I (fun _ _ _ => rfl)
    simp only [tkn, q, if_true] at this
    exact this
/-- what a year may change, beside the State at o -/
def FrY (o : Nat) (I I' : Ii) : Prop := ∀ a, a ≠ 12 → a ≠ 33 → a ≠ 34 → a ≠ 35 → (a < o ∨ o + 5 < a) → I' a = I a
theorem FrY.trans {o : Nat} {I I1 I2 : Ii} (h1 : FrY o I I1) (h2 : FrY o I1 I2) : FrY o I I2 := fun a h3 h4 h5 h6 h7 => (h2 a h3 h4 h5 h6 h7).trans (h1 a h3 h4 h5 h6 h7)
theorem FrL.Y {o : Nat} {I I' : Ii} (h : FrL I I') : FrY o I I' := fun a h1 h2 _ _ _ => h a h1 h2
theorem FrS.Y {o : Nat} {I I' : Ii} (h : FrS o I I') : FrY o I I' := fun a _ _ _ _ h5 => h a h5
theorem EnC.Y {o : Nat} {I I' : Ii} (ho : z_Ob wX o 9) (h : EnC I 3 sc L) (hk : FrY o I I') : EnC I' 3 sc L := h.kept (fun a h1 h2 => by have := st_dis ho; exact hk a (by omega) (by omega) (by omega) (by omega) (by omega))
theorem EnS.put {o i : Nat} {I : Ii} {s : Sx} (hs : EnS I o s) {k v : Nat} (hi : i = 3 ∧ k < 8 ∧ v < 256) : EnS (u2 I (o + 4) k (nI v)) o (up s 3 k v) := by
  refine ⟨fun j hj => ?_, fun j hj => ?_, fun j hj => ?_, fun j hj => ?_, ?_, ?_, ?_, ?_, fun j hj => ?_⟩
  · rw [u2_o (by omega)]; simpa [up] using hs.1 j hj
  · rw [u2_o (by omega)]; simpa [up] using hs.2.1 j hj
  · rw [u2_o (by omega)]; simpa [up] using hs.2.2.1 j hj
  · by_cases e : j = k
    · subst e; rw [u2_at]; simp [up]; omega
    · rw [u2_k e]; simpa [up, e] using hs.2.2.2.1 j hj
  · rw [u2_o (by omega)]; simpa [up] using hs.2.2.2.2.1
  · rw [u2_o (by omega)]; simpa [up] using hs.2.2.2.2.2.1
  · rw [u2_o (by omega)]; simpa [up] using hs.2.2.2.2.2.2.1
  · rw [u2_o (by omega)]; simpa [up] using hs.2.2.2.2.2.2.2.1
  · rw [u2_o (by omega)]; simpa [up] using hs.2.2.2.2.2.2.2.2 j hj
theorem EnS.put4 {o : Nat} {I : Ii} {s : Sx} (hs : EnS I o s) {k v : Nat} (hk : k = 1 ∨ k = 2) (hv : v < 256) : EnS (u2 I o k (nI v)) o (up s 4 k v) := by
  refine ⟨fun j hj => ?_, fun j hj => ?_, fun j hj => ?_, fun j hj => ?_, ?_, ?_, ?_, ?_, fun j hj => ?_⟩
  · rw [u2_o (by omega)]; simpa [up] using hs.1 j hj
  · rw [u2_o (by omega)]; simpa [up] using hs.2.1 j hj
  · rw [u2_o (by omega)]; simpa [up] using hs.2.2.1 j hj
  · rw [u2_o (by omega)]; simpa [up] using hs.2.2.2.1 j hj
  · rw [u2_k (by omega)]; have : ¬ 0 = k := by omega
    simpa [up, this] using hs.2.2.2.2.1
  · rcases hk with rfl | rfl
    · rw [u2_at]; simp [up, hv]
    · rw [u2_k (by omega)]; simpa [up] using hs.2.2.2.2.2.1
  · rcases hk with rfl | rfl
    · rw [u2_k (by omega)]; simpa [up] using hs.2.2.2.2.2.2.1
    · rw [u2_at]; simp [up, hv]
  · rw [u2_k (by omega)]; have : ¬ 3 = k := by omega
    simpa [up, this] using hs.2.2.2.2.2.2.2.1
  · rw [u2_o (by omega)]; simpa [up] using hs.2.2.2.2.2.2.2.2 j hj
theorem kep_0 (s : Sx) (p b i : Nat) (h : i < 4) : kep s p b i = s i := by
  funext j
  unfold kep
  split
  · simp [up, show ¬ i = 4 by omega, show ¬ i = 5 by omega]
  · simp [show ¬ i = 5 by omega]
theorem kep_4 (s : Sx) (p b j : Nat) (h : j ≠ 3) : kep s p b 4 j = s 4 j := by
  unfold kep
  split
  · simp [up, h]
  · simp
theorem ex1_m (sc : Sx) (L : Nat → List Nat) (aw : Nat) (t : Sx) (k : Nat) : ex1 sc L aw t k 0 = t 0 ∧ ex1 sc L aw t k 1 = t 1 ∧ ex1 sc L aw t k 2 = t 2 ∧ ex1 sc L aw t k 4 0 = t 4 0 := by
  unfold ex1
  split
  · simp
  · split
    · refine ⟨?_, ?_, ?_, ?_⟩ <;> (try funext j) <;> simp [up]
    · refine ⟨?_, ?_, ?_, ?_⟩
      · rw [kep_0 _ _ _ _ (by omega)]; funext j; simp [up]
      · rw [kep_0 _ _ _ _ (by omega)]; funext j; simp [up]
      · rw [kep_0 _ _ _ _ (by omega)]; funext j; simp [up]
      · rw [kep_4 _ _ _ _ (by omega)]; simp [up]
theorem exs_m (sc : Sx) (L : Nat → List Nat) (aw : Nat) (s : Sx) : ∀ n, exs sc L aw s n 0 = s 0 ∧ exs sc L aw s n 1 = s 1 ∧ exs sc L aw s n 2 = s 2 ∧ exs sc L aw s n 4 0 = s 4 0
  | 0 => ⟨rfl, rfl, rfl, rfl⟩
  | n + 1 => by
    have h1 := ex1_m sc L aw (exs sc L aw s n) n
    have h2 := exs_m sc L aw s n
    simp only [exs]
    exact ⟨h1.1.trans h2.1, h1.2.1.trans h2.2.1, h1.2.2.1.trans h2.2.2.1, h1.2.2.2.trans h2.2.2.2⟩
theorem s_lawS {p : Nat} {K : KI} {o1 : Nat} (hC : EnC I 3 sc L) (hs : EnS I o1 s) (hp : p < sc 0 1) (hm : s 0 p ≤ sc 0 1) (hn : L 2 ≠ []) (hsl : Sl1 I sc s p) (h7 : I 33 7 = nI (s 3 p)) (h8 : I 33 8 = iI (mrk sc s p))
    (h : ∀ v I', (v = 0 ∨ v = 1) → (hld sc L s 2 p 0 = decide (v = 1)) → (∀ q, q ≠ 12 → I' q = I q) → K (iI v) I' J) : CalI wX (d + 2) mX3_value [.ref 8, .int (nI 2), .ref 33] I J K := by
  have hlok := hC.2.2.2.2.2.2.2.2 2 (by omega)
  have htc : tcs (L 2) [] = some [true] := hlok.1.resolve_left hn
  refine s_value (σ := sg sc s p 0) (who := 0) (t := true) obX_8 arX_33 (by omega) (by decide) (hC.2.2.2.2.2.2.2.1 2 (by omega)) hn (fun j hj => ⟨sg_sm hC hs hp hm j, fun hmem => ?_⟩) ⟨by omega, fun q => absurd rfl (hlok.2 60 q).1⟩ htc (fun v I' hev hov hfr => h v I' hov ?_ hfr)
  · have := (hlok.2 _ hmem).2 (by omega) (by omega)
    rw [if_pos rfl] at this
    rcases (show j < 4 ∨ j = 7 ∨ j = 8 by omega) with e | rfl | rfl
    · exact hsl j e 0
    · rw [h7]; exact (iI_n _).symm
    · exact h8
  · unfold hld
    rw [hev]
    simp
end SP

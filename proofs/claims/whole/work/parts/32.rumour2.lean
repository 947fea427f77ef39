/-! Rumour: sources, probes -/
/-- what is noted of a source -/
def Hld (I : Ii) (t : Sx) (f k : Nat) : Prop := ∀ b, b < 3 → ∀ p, p < 8 → (I 52 (b * 8 + k) >>> (nI p &&& 31)) &&& 1 = nI (if bel t p f = b then 1 else 0)
section SP
variable {d : Nat} {I : Ii} {J : Jj} {sc s t g : Sx} {L : Nat → List Nat}
theorem s_noteHolders {k f : Nat} {K : KV} (ht : EnS I 44 t) (hw : WFS sc t) (hk : k < 8) (hf : f < 8) (h : ∀ I', (∀ a, a ≠ 52 → I' a = I a) → (∀ j b, j < 8 → b < 3 → j ≠ k → I' 52 (b * 8 + j) = I 52 (b * 8 + j)) → Hld I' t f k → K I' J) : CalV wX (d + 2) mX6_noteHolders [.ref 43, .int (nI k), .int (nI f)] I J K := by
  have l1 := who_lt t 1 f
  have l2 := who_lt t 2 f
  refine Cal.of (by decide) (Nat.le_of_ble_eq_true rfl) (bX6_noteHolders_0 (s_isPlace hk ⟨fun _ => ?_, fun q => absurd q (by decide)⟩))
  refine s_whoHas (s := t) (i := 1) arX_46 ht.2.1 hf (s_whoHas (s := t) (i := 2) arX_47 ht.2.2.1 hf ?_)
  rw [show (0 : Int32) = nI 0 from rfl, show (8 : Int32) = nI 8 from rfl, show (16 : Int32) = nI 16 from rfl, nI_add, nI_add, nI_add, nI_clamp (by omega), nI_clamp (by omega), nI_clamp (by omega), nI_or]
  refine ⟨vp_in_nI (by omega) (by omega), vp_in_nI (by omega) (by omega), vp_in_nI (by omega) (by omega), h _ (fun a ha => by rw [u2_row ha, u2_row ha, u2_row ha]) (fun j b hj hb hne => by rw [u2_k (by omega), u2_k (by omega), u2_k (by omega)]) (fun b hb p hp => ?_)⟩
  have hd := (hw.1 p hp).2.2.2.1 f hf
  have w1 : bq (who t 1 f) p = if bq (t 1 p) f = 1 then 1 else 0 := by unfold who; rw [msk_bq _ 8 p hp]; simp
  have w2 : bq (who t 2 f) p = if bq (t 2 p) f = 1 then 1 else 0 := by unfold who; rw [msk_bq _ 8 p hp]; simp
  rcases (show b = 0 ∨ b = 1 ∨ b = 2 by omega) with rfl | rfl | rfl
  · rw [u2_k (by omega), u2_k (by omega), show 0 * 8 + k = 0 + k by omega, u2_at, k8_nbit _ (or_lt8 l1 l2) p hp, bel_who hp]
    by_cases e : bel t p f = 0
    · simp [e]
    · simp [e]
  · rw [u2_k (by omega), show 1 * 8 + k = 8 + k by omega, u2_at, k8_bit _ l1 p hp, w1]
    unfold bel
    by_cases e : bq (t 1 p) f = 1
    · simp [e]
    · by_cases e2 : bq (t 2 p) f = 1
      · simp [e, e2]
      · simp [e, e2]
  · rw [show 2 * 8 + k = 16 + k by omega, u2_at, k8_bit _ l2 p hp, w2]
    unfold bel
    by_cases e : bq (t 1 p) f = 1
    · have e2 : ¬ bq (t 2 p) f = 1 := fun z => hd ⟨e, z⟩
      simp [e, e2]
    · by_cases e2 : bq (t 2 p) f = 1
      · simp [e, e2]
      · simp [e, e2]
theorem s_findSources {f n : Nat} {K : KI} (hB : EnB I sc L s) (hR : EnR I sc g) (hf : f < sc 0 0) (hn : s 4 0 + n ≤ 999) (h : ∀ I', FrG I I' → (∀ k, k < 8 → bq (srs sc L s g f n) k = 1 → Hld I' (sou sc L s f n k) f k) → K (nI (srs sc L s g f n)) I' J) : CalI wX (d + 6) mX6_findSources [.ref 43, .int (nI f), .int (nI n)] I J K := by
  have hP := hB.1.2.1.2
  have hF := hB.1.1.2
  have hl := or_lt8 (who_lt s 1 f) (who_lt s 2 f)
  refine Cal.of (by decide) (Nat.le_of_ble_eq_true rfl) (bX6_findSources_0 (s_whoHas (s := s) (i := 1) arX_21 hB.2.1.2.1 (by omega) (s_whoHas (s := s) (i := 2) arX_22 hB.2.1.2.2.1 (by omega) ?_)))
  rw [nI_or]
  have key : ∀ r k I1, k + r = sc 0 1 → FrG I I1 → (∀ j, j < k → bel s j f ≠ 0 → Hld I1 (sou sc L s f n j) f j) → GoI wX (d + 5 + 1) mX6_findSources 30 [(0, .ref 43), (1, .int (nI f)), (2, .int (nI n)), (3, .int (nI (who s 1 f ||| who s 2 f))), (4, .int (nI (msk (srq sc L s g f n) k))), (5, .int (nI k))] [] I1 J K := by
    intro r
    induction r with
    | zero =>
      intro k I1 hk f1 hh
      obtain rfl : k = sc 0 1 := by omega
      refine bX6_findSources_30 ?_
      rw [(hB.G f1).1.2.1.1]
      have fin : K (nI (msk (srq sc L s g f n) (sc 0 1))) I1 J := by
        refine h I1 f1 (fun j hj hb => ?_)
        have hjP : j < sc 0 1 := by
          rcases Nat.lt_or_ge j (sc 0 1) with z | z
          · exact z
          · have := msk_lt (srq sc L s g f n) (sc 0 1)
            have h2 : 2 ^ sc 0 1 ≤ 2 ^ j := Nat.pow_le_pow_right (by omega) z
            rw [show bq (srs sc L s g f n) j = 0 from bq_lo (Nat.lt_of_lt_of_le this h2)] at hb
            exact absurd hb (by omega)
        unfold srs at hb
        rw [msk_bq _ _ _ hjP] at hb
        refine hh j hjP ?_
        by_cases e : srq sc L s g f n j = true
        · simp only [srq, Bool.and_eq_true, decide_eq_true_eq] at e; exact e.1
        · rw [if_neg e] at hb; exact absurd hb (by omega)
      repeat' (first | (refine ⟨vp_in_nI (by omega) (by omega), ?_⟩) | (with_reducible refine And.intro ?_ ?_) | (with_reducible intro I9 e9; subst e9) | (with_reducible intro q9; try (simp (disch := omega) only [Int32.le_iff_toInt_le, Int32.lt_iff_toInt_lt, ← Int32.toInt_inj, nI_toInt, t_bq, t_pc8, t_bel, t_mI, t_ite, t_dec, sm_t, Int32.reduceToInt, t_m1, t_0, t_1, t_2, t_3, t_8, Int.natCast_eq_zero, Int.ofNat_le, Int.ofNat_lt, Int.ofNat_inj, not_true_eq_false, not_false_eq_true, forall_const] at q9); try (exfalso; omega)))
      exact fin
    | succ r ih =>
      intro k I1 hk f1 hh
      have hB1 := hB.G f1
      refine bX6_findSources_30 ?_
      rw [hB1.1.2.1.1, nI_1]
      repeat' (first | (refine ⟨vp_in_nI (by omega) (by omega), ?_⟩) | (with_reducible refine And.intro ?_ ?_) | (with_reducible intro I9 e9; subst e9) | (with_reducible intro q9; try (simp (disch := omega) only [Int32.le_iff_toInt_le, Int32.lt_iff_toInt_lt, ← Int32.toInt_inj, nI_toInt, t_bq, t_pc8, t_bel, t_mI, t_ite, t_dec, sm_t, Int32.reduceToInt, t_m1, t_0, t_1, t_2, t_3, t_8, Int.natCast_eq_zero, Int.ofNat_le, Int.ofNat_lt, Int.ofNat_inj, not_true_eq_false, not_false_eq_true, forall_const] at q9); try (exfalso; omega)))
      refine s_hasBit hl (by omega) ?_
      rw [bel_who (by omega)]
      by_cases e : bel s k f = 0
      · rw [if_neg (by simp [e])]
        refine ⟨fun _ => ?_, fun q => absurd rfl q⟩
        rw [msk_no _ (by simp [srq, e])]
        refine ih (k + 1) I1 (by omega) f1 (fun j hj hb => hh j ?_ hb)
        rcases Nat.lt_or_ge j k with z | z
        · exact z
        · obtain rfl : j = k := by omega
          exact absurd e hb
      · rw [if_pos e]
        refine ⟨fun q => absurd q (by decide), fun _ => ?_⟩
        refine s_supposeSource hB1 (by omega) hf hn (fun I2 h2 f2 => ?_)
        have wS : WFS sc (sou sc L s f n k) := yrs_WFS hF hP (spN_WFS hF hP hB.2.2.1 hf _ (Nat.le_refl _)) n
        have f12 := f1.trans f2.G
        have nx : ∀ I3, (∀ a, a ≠ 52 → I3 a = I2 a) → (∀ j b, j < 8 → b < 3 → j ≠ k → I3 52 (b * 8 + j) = I2 52 (b * 8 + j)) → Hld I3 (sou sc L s f n k) f k → FrG I I3 ∧ ∀ j, j < k + 1 → bel s j f ≠ 0 → Hld I3 (sou sc L s f n j) f j := by
          intro I3 r3 o3 h3
          refine ⟨f12.trans (fun a _ _ _ _ ha _ => r3 a ha), fun j hj hb => ?_⟩
          by_cases ej : j = k
          · subst ej; exact h3
          · have := hh j (by omega) hb
            intro b hb3 p hp
            rw [o3 j b (by omega) hb3 ej, f2 52 (by omega) (by omega) (by omega) (by omega) (by omega)]
            exact this b hb3 p hp
        refine s_agrees (hR.G f12) hP h2 (by omega) ?_
        by_cases ea : agr g (sou sc L s f n k) f (g 0 3) = true
        · rw [if_pos ea]
          refine ⟨fun q => absurd q (by decide), fun _ => s_noteHolders h2 wS (by omega) (by omega) (fun I3 r3 o3 h3 => ?_)⟩
          rw [msk_or _ (by omega) (by simp [srq, e, ea])]
          exact ih (k + 1) I3 (by omega) (nx I3 r3 o3 h3).1 (nx I3 r3 o3 h3).2
        · rw [if_neg ea]
          refine ⟨fun _ => s_noteHolders h2 wS (by omega) (by omega) (fun I3 r3 o3 h3 => ?_), fun q => absurd rfl q⟩
          rw [or0, msk_no _ (by simp [srq, ea])]
          exact ih (k + 1) I3 (by omega) (nx I3 r3 o3 h3).1 (nx I3 r3 o3 h3).2
  exact key (sc 0 1) 0 I (by omega) (FrG.refl I) (fun j hj => absurd hj (by omega))
theorem nI_mx {a b : Nat} (ha : a < 1000) (hb : b < 1000) : (if nI a < nI b then nI b else nI a) = nI (mx a b) := by
  unfold mx
  by_cases e : a < b
  · rw [if_pos e, if_pos (nI_lt e (by omega))]
  · rw [if_neg e, if_neg (fun q => e ((nI_ltI (by omega) (by omega)).mp q))]
theorem mx_le {a b c : Nat} (ha : a ≤ c) (hb : b ≤ c) : mx a b ≤ c := by unfold mx; split <;> assumption
theorem s_mostLeft {p m f n : Nat} {K : KI} (hm : m < 256) (hp : p < 8) (hh : ∀ k, k < 8 → bq m k = 1 → Hld I (sou sc L s f n k) f k) (h : K (nI (mlf sc L s f n m p)) I J) : CalI wX (d + 1) mX6_mostLeft [.ref 43, .int (nI p), .int (nI m)] I J K := by
  refine Cal.of (by decide) (Nat.le_of_ble_eq_true rfl) (bX6_mostLeft_0 ?_)
  have inner : ∀ b w, b < 3 → w ≤ 8 → GoI wX (d + 1) mX6_mostLeft 5 [(0, .ref 43), (1, .int (nI p)), (2, .int (nI m)), (3, .int (nI (mx w (cls sc L s f n m p b 8)))), (4, .int (nI (b + 1)))] [] I J K → ∀ r k, k + r = 8 → GoI wX (d + 1) mX6_mostLeft 17 [(0, .ref 43), (1, .int (nI p)), (2, .int (nI m)), (3, .int (nI w)), (4, .int (nI b)), (5, .int (nI (cls sc L s f n m p b k))), (6, .int (nI k))] [] I J K := by
    intro b w hb hw hK r
    induction r with
    | zero =>
      intro k hk
      obtain rfl : k = 8 := by omega
      have := cls_le sc L s f n m p b 8
      refine bX6_mostLeft_17 ?_
      rw [nI_1]
      refine ⟨fun _ => s_max ?_, fun q => absurd (by decide) q⟩
      rw [nI_mx (by omega) (by omega)]
      exact hK
    | succ r ih =>
      intro k hk
      refine bX6_mostLeft_17 ?_
      rw [show (8 : Int32) = nI 8 from rfl, pk_mul, nI_add, nI_clamp (by omega)]
      simp only [nI_1]
      repeat' (first | (refine ⟨vp_in_nI (by omega) (by omega), ?_⟩) | (with_reducible refine And.intro ?_ ?_) | (with_reducible intro I9 e9; subst e9) | (with_reducible intro q9; try (simp (disch := omega) only [Int32.le_iff_toInt_le, Int32.lt_iff_toInt_lt, ← Int32.toInt_inj, nI_toInt, t_bq, t_pc8, t_bel, t_mI, t_ite, t_dec, sm_t, Int32.reduceToInt, t_m1, t_0, t_1, t_2, t_3, t_8, Int.natCast_eq_zero, Int.ofNat_le, Int.ofNat_lt, Int.ofNat_inj, not_true_eq_false, not_false_eq_true, forall_const] at q9); try (exfalso; omega)))
      refine s_hasBit hm (by omega) ?_
      rcases bq01 m k with e | e
      · rw [e]
        refine ⟨fun _ => ?_, fun q => absurd rfl q⟩
        have := ih (k + 1) (by omega)
        simpa [cls, e] using this
      · rw [e]
        refine ⟨fun q => absurd q (by decide), fun _ => ⟨vp_in_nI (by omega) (by omega), ?_⟩⟩
        refine s_hasBitV (hh k (by omega) e b hb p hp) (by split <;> simp) hp ?_
        by_cases eb : bel (sou sc L s f n k) p f = b
        · rw [if_pos eb]
          refine ⟨fun q => absurd q (by decide), fun _ => ?_⟩
          have := ih (k + 1) (by omega)
          simpa [cls, e, eb] using this
        · rw [if_neg eb]
          refine ⟨fun _ => ?_, fun q => absurd rfl q⟩
          have := ih (k + 1) (by omega)
          simpa [cls, e, eb] using this
  have c0' := cls_le sc L s f n m p 0 8
  have c1' := cls_le sc L s f n m p 1 8
  have c2' := cls_le sc L s f n m p 2 8
  refine bX6_mostLeft_5 ⟨fun q => absurd q (by decide), fun _ => ?_⟩
  refine inner 0 0 (by omega) (by omega) ?_ 8 0 (by omega)
  refine bX6_mostLeft_5 ⟨fun q => absurd q (by decide), fun _ => ?_⟩
  refine inner 1 _ (by omega) (mx_le (by omega) c0') ?_ 8 0 (by omega)
  refine bX6_mostLeft_5 ⟨fun q => absurd q (by decide), fun _ => ?_⟩
  refine inner 2 _ (by omega) (mx_le (mx_le (by omega) c0') c1') ?_ 8 0 (by omega)
  refine bX6_mostLeft_5 ⟨fun _ => h, fun q => absurd (by decide) q⟩
theorem mlf_le (f n m p : Nat) : mlf sc L s f n m p ≤ 8 := mx_le (mx_le (mx_le (by omega) (cls_le _ _ _ _ _ _ _ _ 8)) (cls_le _ _ _ _ _ _ _ _ 8)) (cls_le _ _ _ _ _ _ _ _ 8)
theorem prb_le (f n m : Nat) : ∀ k, (prb sc L s f n m k).1 ≤ k ∧ (prb sc L s f n m k).2 ≤ 8
  | 0 => by simp [prb]
  | k + 1 => by
    have ih := prb_le f n m k
    have := mlf_le (sc := sc) (s := s) (L := L) f n m k
    simp only [prb]
    split
    · simp only; omega
    · omega
theorem s_findProbe {m f n : Nat} {K : KV} (hC : EnC I 3 sc L) (hm : m < 256) (hh : ∀ k, k < 8 → bq m k = 1 → Hld I (sou sc L s f n k) f k)
    (h : ∀ I', (∀ a, a ≠ 43 → I' a = I a) → (∀ j, j < 8 → I' 43 j = I 43 j) → (I' 43 8 = if m = 0 then -1 else mI (prb sc L s f n m (sc 0 1)).1) → (I' 43 9 = if m = 0 ∨ (prb sc L s f n m (sc 0 1)).1 = 0 then -1 else nI (prb sc L s f n m (sc 0 1)).2) → K I' J) : CalV wX (d + 2) mX6_findProbe [.ref 43, .int (nI m)] I J K := by
  have hP := hC.2.1.2
  refine Cal.of (by decide) (Nat.le_of_ble_eq_true rfl) (bX6_findProbe_0 ?_)
  by_cases em : m = 0
  · subst em
    have hK := h (u2 (u2 I 43 8 (-1)) 43 9 (-1)) (fun a ha => by rw [u2_row ha, u2_row ha]) (fun j hj => by rw [u2_k (by omega), u2_k (by omega)]) (by rw [u2_k (by omega), u2_at]; rfl) (by rw [u2_at]; rfl)
    exact bX6_findProbe_12 ⟨fun _ => hK, fun _ => ⟨fun _ => hK, fun q => absurd rfl q⟩⟩
  have key : ∀ r k I1, k + r = sc 0 1 → (∀ a, a ≠ 43 → I1 a = I a) → (∀ j, j < 8 → I1 43 j = I 43 j) → I1 43 8 = mI (prb sc L s f n m k).1 → (I1 43 9 = if (prb sc L s f n m k).1 = 0 then -1 else nI (prb sc L s f n m k).2) → GoV wX (d + 1 + 1) mX6_findProbe 12 [(0, .ref 43), (1, .int (nI m)), (2, .int (nI k))] [] I1 J K := by
    intro r
    induction r with
    | zero =>
      intro k I1 hk r1 o1 ha hb
      obtain rfl : k = sc 0 1 := by omega
      refine bX6_findProbe_12 ?_
      rw [r1 3 (by omega), hC.2.1.1]
      repeat' (first | (refine ⟨vp_in_nI (by omega) (by omega), ?_⟩) | (with_reducible refine And.intro ?_ ?_) | (with_reducible intro I9 e9; subst e9) | (with_reducible intro q9; try (simp (disch := omega) only [Int32.le_iff_toInt_le, Int32.lt_iff_toInt_lt, ← Int32.toInt_inj, nI_toInt, t_bq, t_pc8, t_bel, t_mI, t_ite, t_dec, sm_t, Int32.reduceToInt, t_m1, t_0, t_1, t_2, t_3, t_8, Int.natCast_eq_zero, Int.ofNat_le, Int.ofNat_lt, Int.ofNat_inj, not_true_eq_false, not_false_eq_true, forall_const] at q9); try (exfalso; omega)))
      refine h I1 r1 o1 (by rw [if_neg em]; exact ha) ?_
      simp only [em, false_or]
      exact hb
    | succ r ih =>
      intro k I1 hk r1 o1 ha hb
      have hl := prb_le (sc := sc) (s := s) (L := L) f n m k
      have hml := mlf_le (sc := sc) (s := s) (L := L) f n m k
      refine bX6_findProbe_12 ?_
      rw [r1 3 (by omega), hC.2.1.1, nI_1]
      repeat' (first | (refine ⟨vp_in_nI (by omega) (by omega), ?_⟩) | (with_reducible refine And.intro ?_ ?_) | (with_reducible intro I9 e9; subst e9) | (with_reducible intro q9; try (simp (disch := omega) only [Int32.le_iff_toInt_le, Int32.lt_iff_toInt_lt, ← Int32.toInt_inj, nI_toInt, t_bq, t_pc8, t_bel, t_mI, t_ite, t_dec, sm_t, Int32.reduceToInt, t_m1, t_0, t_1, t_2, t_3, t_8, Int.natCast_eq_zero, Int.ofNat_le, Int.ofNat_lt, Int.ofNat_inj, not_true_eq_false, not_false_eq_true, forall_const] at q9); try (exfalso; omega)))
      refine s_mostLeft (sc := sc) (s := s) (L := L) (f := f) (n := n) hm (by omega) (fun j hj hb => by have := hh j hj hb; unfold Hld at this ⊢; rw [r1 52 (by omega)]; exact this) ?_
      have put : ((prb sc L s f n m k).1 = 0 ∨ mlf sc L s f n m k < (prb sc L s f n m k).2) → GoV wX (d + 1 + 1) mX6_findProbe 12 [(0, .ref 43), (1, .int (nI m)), (2, .int (nI (k + 1)))] [] (u2 (u2 I1 43 8 (nI k)) 43 9 (nI (mlf sc L s f n m k))) J K := by
        intro hc
        have e : prb sc L s f n m (k + 1) = (k + 1, mlf sc L s f n m k) := by simp only [prb]; rw [if_pos hc]
        refine ih (k + 1) _ (by omega) (fun a ha => by rw [u2_row ha, u2_row ha]; exact r1 a ha) (fun j hj => by rw [u2_k (by omega), u2_k (by omega)]; exact o1 j hj) (by rw [u2_k (by omega), u2_at, e]; exact (mI_s k).symm) ?_
        rw [u2_at, e]
        simp
      rw [ha, hb]
      by_cases e0 : (prb sc L s f n m k).1 = 0
      · rw [e0]
        exact ⟨fun _ => put (Or.inl e0), fun q => absurd rfl q⟩
      · rw [if_neg e0]
        repeat' (first | (refine ⟨vp_in_nI (by omega) (by omega), ?_⟩) | (with_reducible refine And.intro ?_ ?_) | (with_reducible intro I9 e9; subst e9) | (with_reducible intro q9; try (simp (disch := omega) only [Int32.le_iff_toInt_le, Int32.lt_iff_toInt_lt, ← Int32.toInt_inj, nI_toInt, t_bq, t_pc8, t_bel, t_mI, t_ite, t_dec, sm_t, Int32.reduceToInt, t_m1, t_0, t_1, t_2, t_3, t_8, Int.natCast_eq_zero, Int.ofNat_le, Int.ofNat_lt, Int.ofNat_inj, not_true_eq_false, not_false_eq_true, forall_const] at q9); try (exfalso; omega)))
        · have e : prb sc L s f n m (k + 1) = prb sc L s f n m k := by simp only [prb]; rw [if_neg (by omega)]
          exact ih (k + 1) I1 (by omega) r1 o1 (by rw [e]; exact ha) (by rw [e]; exact hb)
        · exact put (Or.inr (by omega))
  exact key (sc 0 1) 0 _ (by omega) (fun a ha => by rw [u2_row ha, u2_row ha]) (fun j hj => by rw [u2_k (by omega), u2_k (by omega)]) (by rw [u2_k (by omega), u2_at]; rfl) (by rw [u2_at]; rfl)
end SP

/-! State: what changes it -/
theorem up_at (s : Sx) (i k v : Nat) : up s i k v i k = v := by simp [up]
theorem up_i {s : Sx} {i k v a j : Nat} (h : a ≠ i) : up s i k v a j = s a j := by simp [up, h]
theorem up_k {s : Sx} {i k v a j : Nat} (h : j ≠ k) : up s i k v a j = s a j := by simp [up, h]
theorem FrS.refl (o : Nat) (I : Ii) : FrS o I I := fun _ _ => rfl
theorem FrS.trans {o : Nat} {I I1 I2 : Ii} (h1 : FrS o I I1) (h2 : FrS o I1 I2) : FrS o I I2 := fun a ha => (h2 a ha).trans (h1 a ha)
/-- a State elsewhere stays -/
theorem EnS.kept {I I' : Ii} {o : Nat} {s : Sx} (h : EnS I o s) (hk : ∀ a, o ≤ a → a ≤ o + 5 → I' a = I a) : EnS I' o s := by
  have e0 := hk o (by omega) (by omega)
  have e1 := hk (o + 1) (by omega) (by omega)
  have e2 := hk (o + 2) (by omega) (by omega)
  have e3 := hk (o + 3) (by omega) (by omega)
  have e4 := hk (o + 4) (by omega) (by omega)
  have e5 := hk (o + 5) (by omega) (by omega)
  unfold EnS at h ⊢
  rw [e0, e1, e2, e3, e4, e5]
  exact h
section SP
variable {d : Nat} {I : Ii} {J : Jj}
theorem s_believe {o p f b : Nat} {s : Sx} {K : KV} (ho : z_Ob wX o 9) (hs : EnS I o s) (hp : p < 8) (hf : f < 8) (hb : b < 3) (h : ∀ I', EnS I' o (blv s p f b) → FrS o I I' → K I' J) : CalV wX (d + 1) mX9_believe [.ref o, .int (nI p), .int (nI f), .int (nI b)] I J K := by
  refine Cal.of (by decide) (Nat.le_of_ble_eq_true rfl) (bX9_believe_0 ho (s_isPlace hp ⟨fun _ => ⟨vp_in_nI hp (by omega), ?_⟩, fun q => absurd q (by decide)⟩))
  intro I6 e6 I7 e7
  have hr := (hs.2.1 p hp)
  have hw := (hs.2.2.1 p hp)
  rw [nI_clamp (by omega)] at e6 e7 ⊢
  rw [hr.1, k8_clr _ hr.2 f hf] at e6
  have e62 : I6 (o + 2) p = nI (bz (s 1 p) f) := by rw [e6, u2_at]
  have e63 : I6 (o + 3) p = nI (s 2 p) := by rw [e6, u2_o (by omega)]; exact hw.1
  rw [e63, k8_clr _ hw.2 f hf] at e7
  have e72 : I7 (o + 2) p = nI (bz (s 1 p) f) := by rw [e7, u2_o (by omega)]; exact e62
  have e73 : I7 (o + 3) p = nI (bz (s 2 p) f) := by rw [e7, u2_at]
  have hbr := (k8_bsl _ hr.2 f hf).2
  have hbw := (k8_bsl _ hw.2 f hf).2
  have hbr2 := (k8_bsl _ hbr f hf).1
  have hbw2 := (k8_bsl _ hbw f hf).1
  -- any memory whose two rows are as told
  have fin : ∀ (I' : Ii) (x y : Nat), x < 256 → y < 256 → I' (o + 2) p = nI x → I' (o + 3) p = nI y → (∀ a j, ¬ (a = o + 2 ∧ j = p) → ¬ (a = o + 3 ∧ j = p) → I' a j = I a j) → EnS I' o (up (up s 1 p x) 2 p y) ∧ FrS o I I' := by
    intro I' x y hx hy h2 h3 hk
    refine ⟨⟨fun k hk8 => ?_, fun k hk8 => ?_, fun k hk8 => ?_, fun k hk8 => ?_, ?_, ?_, ?_, ?_, fun k hk30 => ?_⟩, fun a ha => ?_⟩
    · rw [hk _ _ (by omega) (by omega)]; simpa [up] using hs.1 k hk8
    · by_cases e : k = p
      · subst e; simp [up, h2, hx]
      · rw [hk _ _ (by omega) (by omega)]; simpa [up, e] using hs.2.1 k hk8
    · by_cases e : k = p
      · subst e; simp [up, h3, hy]
      · rw [hk _ _ (by omega) (by omega)]; simpa [up, e] using hs.2.2.1 k hk8
    · rw [hk _ _ (by omega) (by omega)]; simpa [up] using hs.2.2.2.1 k hk8
    · rw [hk _ _ (by omega) (by omega)]; simpa [up] using hs.2.2.2.2.1
    · rw [hk _ _ (by omega) (by omega)]; simpa [up] using hs.2.2.2.2.2.1
    · rw [hk _ _ (by omega) (by omega)]; simpa [up] using hs.2.2.2.2.2.2.1
    · rw [hk _ _ (by omega) (by omega)]; simpa [up] using hs.2.2.2.2.2.2.2.1
    · rw [hk _ _ (by omega) (by omega)]; simpa [up] using hs.2.2.2.2.2.2.2.2 k hk30
    · funext j
      exact hk a j (by omega) (by omega)
  have k67 : ∀ a j, ¬ (a = o + 2 ∧ j = p) → ¬ (a = o + 3 ∧ j = p) → I7 a j = I a j := by
    intro a j h1 h2
    rw [e7, e6]
    simp [u2, h1, h2]
  refine ⟨fun q1 => ⟨fun q2 => ?_, fun q2 => ?_⟩, fun q1 => ?_⟩
  · have hb0 : b = 0 := by
      rcases (show b = 0 ∨ b = 1 ∨ b = 2 by omega) with e | e | e
      · exact e
      · subst e; exact absurd rfl q1
      · subst e; exact absurd rfl q2
    subst hb0
    obtain ⟨g1, g2⟩ := fin I7 _ _ hbr hbw e72 e73 k67
    exact h I7 (by simpa [blv] using g1) g2
  · have hb2 : b = 2 := by
      have := (nI_eq (a := b) (b := 2) (by omega) (by decide)).mp q2
      exact this
    subst hb2
    rw [e73, k8_set _ hbw f hf]
    obtain ⟨g1, g2⟩ := fin (u2 I7 (o + 3) p (nI (bs (bz (s 2 p) f) f))) _ _ hbr hbw2 (by rw [u2_o (by omega)]; exact e72) (u2_at _ _ _ _) (fun a j h1 h2 => by rw [← k67 a j h1 h2]; simp [u2, h2])
    exact h _ (by simpa [blv] using g1) g2
  · have hb1 : b = 1 := by
      have := (nI_eq (a := b) (b := 1) (by omega) (by decide)).mp q1
      exact this
    subst hb1
    rw [e72, k8_set _ hbr f hf]
    obtain ⟨g1, g2⟩ := fin (u2 I7 (o + 2) p (nI (bs (bz (s 1 p) f) f))) _ _ hbr2 hbw (u2_at _ _ _ _) (by rw [u2_o (by omega)]; exact e73) (fun a j h1 h2 => by rw [← k67 a j h1 h2]; simp [u2, h1])
    exact h _ (by simpa [blv] using g1) g2
theorem cp_at (I : Ii) (a b x y n : Nat) : cp I a b x y n b = va_cpy (I a) (I b) x y n := by simp [cp]
theorem cp_ne {I : Ii} {a b x y n q : Nat} (h : q ≠ b) : cp I a b x y n q = I q := by simp [cp, h]
theorem cpy0 {f g : Nat → Int32} {n j : Nat} (hj : j < n) : va_cpy f g 0 0 n j = f j := by simp [va_cpy, hj]
theorem s_copyFrom {o o1 : Nat} {s : Sx} {K : KV} (ho : z_Ob wX o 9) (ho1 : z_Ob wX o1 9) (hs : EnS I o1 s) (hd : o + 5 < o1 ∨ o1 + 5 < o) (h : ∀ I', EnS I' o s → FrS o I I' → K I' J) : CalV wX (d + 1) mX9_copyFrom [.ref o, .ref o1] I J K := by
  refine Cal.of (by decide) (Nat.le_of_ble_eq_true rfl) (bX9_copyFrom_0 ho ho1 ?_)
  rintro I1 rfl I2 rfl I3 rfl
  refine h _ ⟨fun k hk => ?_, fun k hk => ?_, fun k hk => ?_, fun k hk => ?_, ?_, ?_, ?_, ?_, fun k hk => ?_⟩ (fun a ha => ?_)
  · rw [cp_ne (by omega), cp_ne (by omega), cp_ne (by omega), cp_ne (by omega), cp_at, cpy0 hk, u2_row (by omega), u2_row (by omega), u2_row (by omega), u2_row (by omega)]
    exact hs.1 k hk
  · rw [cp_ne (by omega), cp_ne (by omega), cp_ne (by omega), cp_at, cpy0 hk, cp_ne (by omega), u2_row (by omega), u2_row (by omega), u2_row (by omega), u2_row (by omega)]
    exact hs.2.1 k hk
  · rw [cp_ne (by omega), cp_ne (by omega), cp_at, cpy0 hk, cp_ne (by omega), cp_ne (by omega), u2_row (by omega), u2_row (by omega), u2_row (by omega), u2_row (by omega)]
    exact hs.2.2.1 k hk
  · rw [cp_ne (by omega), cp_at, cpy0 hk, cp_ne (by omega), cp_ne (by omega), cp_ne (by omega), u2_row (by omega), u2_row (by omega), u2_row (by omega), u2_row (by omega)]
    exact hs.2.2.2.1 k hk
  · rw [cp_ne (by omega), cp_ne (by omega), cp_ne (by omega), cp_ne (by omega), cp_ne (by omega), u2_k (by omega), u2_k (by omega), u2_k (by omega), u2_at]
    exact hs.2.2.2.2.1
  · rw [cp_ne (by omega), cp_ne (by omega), cp_ne (by omega), cp_ne (by omega), cp_ne (by omega), u2_k (by omega), u2_k (by omega), u2_at, u2_o (by omega)]
    exact hs.2.2.2.2.2.1
  · rw [cp_ne (by omega), cp_ne (by omega), cp_ne (by omega), cp_ne (by omega), cp_ne (by omega), u2_k (by omega), u2_at, u2_o (by omega), u2_o (by omega)]
    exact hs.2.2.2.2.2.2.1
  · rw [cp_ne (by omega), cp_ne (by omega), cp_ne (by omega), cp_ne (by omega), cp_ne (by omega), u2_at, u2_o (by omega), u2_o (by omega), u2_o (by omega)]
    exact hs.2.2.2.2.2.2.2.1
  · rw [cp_at, cpy0 hk, cp_ne (by omega), cp_ne (by omega), cp_ne (by omega), cp_ne (by omega), u2_row (by omega), u2_row (by omega), u2_row (by omega), u2_row (by omega)]
    exact hs.2.2.2.2.2.2.2.2 k hk
  · rw [cp_ne (by omega), cp_ne (by omega), cp_ne (by omega), cp_ne (by omega), cp_ne (by omega), u2_row (by omega), u2_row (by omega), u2_row (by omega), u2_row (by omega)]
theorem s_setMaster {o p c : Nat} {s : Sx} {K : KV} (ho : z_Ob wX o 9) (hs : EnS I o s) (hp : p < 8) (hc : c ≤ 8) (h : ∀ I', EnS I' o (up s 0 p c) → FrS o I I' → K I' J) : CalV wX (d + 1) mX9_setMaster [.ref o, .int (nI p), .int (mI c)] I J K := by
  refine Cal.of (by decide) (Nat.le_of_ble_eq_true rfl) (bX9_setMaster_0 ho (s_isPlace hp ⟨fun q => absurd q (by decide), fun _ => ⟨vp_in_nI hp (by omega), ?_⟩⟩))
  rw [nI_clamp (by omega)]
  refine h _ ⟨fun k hk => ?_, fun k hk => ?_, fun k hk => ?_, fun k hk => ?_, ?_, ?_, ?_, ?_, fun k hk => ?_⟩ (fun a ha => ?_)
  · by_cases e : k = p
    · subst e; rw [u2_at]; simp [up, hc]
    · rw [u2_k e]; simpa [up, e] using hs.1 k hk
  · rw [u2_o (by omega)]; simpa [up] using hs.2.1 k hk
  · rw [u2_o (by omega)]; simpa [up] using hs.2.2.1 k hk
  · rw [u2_o (by omega)]; simpa [up] using hs.2.2.2.1 k hk
  · rw [u2_o (by omega)]; simpa [up] using hs.2.2.2.2.1
  · rw [u2_o (by omega)]; simpa [up] using hs.2.2.2.2.2.1
  · rw [u2_o (by omega)]; simpa [up] using hs.2.2.2.2.2.2.1
  · rw [u2_o (by omega)]; simpa [up] using hs.2.2.2.2.2.2.2.1
  · rw [u2_o (by omega)]; simpa [up] using hs.2.2.2.2.2.2.2.2 k hk
  · rw [u2_row (by omega)]
/-- one more is kept: the oldest goes when thirty are -/
def kep (s : Sx) (p b : Nat) : Sx := if s 4 3 < 30 then up (up s 5 (s 4 3) ((s 4 0 * 8 + p) * 4 + b)) 4 3 (s 4 3 + 1) else fun a j => if a = 5 then (if j < 29 then s 5 (j + 1) else if j = 29 then (s 4 0 * 8 + p) * 4 + b else s 5 j) else s a j
theorem s_keep {o p b : Nat} {s : Sx} {K : KV} (ho : z_Ob wX o 9) (hs : EnS I o s) (hp : p < 8) (hb : b < 4) (h : ∀ I', EnS I' o (kep s p b) → FrS o I I' → K I' J) : CalV wX (d + 1) mX9_keep [.ref o, .int (nI p), .int (nI b)] I J K := by
  have hy := hs.2.2.2.2.1
  have hn := hs.2.2.2.2.2.2.2.1
  have hrow : ((nI (s 4 0) * 8 + nI p) * 4 + nI b) = nI ((s 4 0 * 8 + p) * 4 + b) := by
    rw [show (8 : Int32) = nI 8 from rfl, show (4 : Int32) = nI 4 from rfl, pk_mul, nI_add, pk_mul, nI_add]
  refine Cal.of (by decide) (Nat.le_of_ble_eq_true rfl) (bX9_keep_0 ho ⟨fun q => ?_, fun q => ?_⟩)
  · rw [hn.1] at q
    have q : s 4 3 < 30 := (nI_ltI (b := 30) (by omega) (by decide)).mp q
    rw [hn.1]
    refine ⟨vp_in_nI q (by omega), ?_⟩
    intro I3 e3
    rw [nI_clamp (by omega), hy.1, hrow] at e3
    have e33 : I3 o 3 = nI (s 4 3) := by rw [e3, u2_o (by omega)]; exact hn.1
    rw [e33, nI_1, e3]
    refine h _ ?_ (fun a ha => by rw [u2_row (by omega), u2_row (by omega)])
    simp only [kep, q, if_true]
    refine ⟨fun k hk => ?_, fun k hk => ?_, fun k hk => ?_, fun k hk => ?_, ?_, ?_, ?_, ?_, fun k hk => ?_⟩
    · rw [u2_o (by omega), u2_o (by omega)]; simpa [up] using hs.1 k hk
    · rw [u2_o (by omega), u2_o (by omega)]; simpa [up] using hs.2.1 k hk
    · rw [u2_o (by omega), u2_o (by omega)]; simpa [up] using hs.2.2.1 k hk
    · rw [u2_o (by omega), u2_o (by omega)]; simpa [up] using hs.2.2.2.1 k hk
    · rw [u2_k (by omega), u2_o (by omega)]; simpa [up] using hs.2.2.2.2.1
    · rw [u2_k (by omega), u2_o (by omega)]; simpa [up] using hs.2.2.2.2.2.1
    · rw [u2_k (by omega), u2_o (by omega)]; simpa [up] using hs.2.2.2.2.2.2.1
    · rw [u2_at]; simp [up]; omega
    · rw [u2_o (by omega)]
      by_cases e : k = s 4 3
      · subst e; rw [u2_at]; simp [up]; omega
      · rw [u2_k e]; simpa [up, e] using hs.2.2.2.2.2.2.2.2 k hk
  · rw [hn.1] at q
    have q : ¬ s 4 3 < 30 := fun z => q ((nI_ltI (b := 30) (by omega) (by decide)).mpr z)
    intro I5 e5
    have h53 : I5 o 3 = nI 29 := by rw [e5, u2_at]; rfl
    have h50 : I5 o 0 = nI (s 4 0) := by rw [e5, u2_k (by omega), cp_ne (by omega)]; exact hy.1
    rw [h53]
    refine ⟨vp_in_nI (by omega) (by omega), ?_⟩
    intro I7 e7
    rw [nI_clamp (by omega), h50, hrow] at e7
    have e73 : I7 o 3 = nI 29 := by rw [e7, u2_o (by omega)]; exact h53
    rw [e73, nI_1, e7, e5]
    refine h _ ?_ (fun a ha => by rw [u2_row (by omega), u2_row (by omega), u2_row (by omega), cp_ne (by omega)])
    have e30 : s 4 3 = 30 := by omega
    simp only [kep, q, if_false]
    refine ⟨fun k hk => ?_, fun k hk => ?_, fun k hk => ?_, fun k hk => ?_, ?_, ?_, ?_, ?_, fun k hk => ?_⟩
    · rw [u2_o (by omega), u2_o (by omega), u2_o (by omega), cp_ne (by omega)]; simpa using hs.1 k hk
    · rw [u2_o (by omega), u2_o (by omega), u2_o (by omega), cp_ne (by omega)]; simpa using hs.2.1 k hk
    · rw [u2_o (by omega), u2_o (by omega), u2_o (by omega), cp_ne (by omega)]; simpa using hs.2.2.1 k hk
    · rw [u2_o (by omega), u2_o (by omega), u2_o (by omega), cp_ne (by omega)]; simpa using hs.2.2.2.1 k hk
    · rw [u2_k (by omega), u2_o (by omega), u2_k (by omega), cp_ne (by omega)]; simpa using hs.2.2.2.2.1
    · rw [u2_k (by omega), u2_o (by omega), u2_k (by omega), cp_ne (by omega)]; simpa using hs.2.2.2.2.2.1
    · rw [u2_k (by omega), u2_o (by omega), u2_k (by omega), cp_ne (by omega)]; simpa using hs.2.2.2.2.2.2.1
    · rw [u2_at]; simp [e30]
    · rw [u2_o (by omega)]
      by_cases e : k = 29
      · subst e; rw [u2_at]; simp; omega
      · rw [u2_k e, u2_o (by omega), cp_at]
        have hk2 : k < 29 := by omega
        have h9 := hs.2.2.2.2.2.2.2.2 (k + 1) (by omega)
        have e9 : va_cpy (I (o + 5)) (I (o + 5)) 1 0 29 k = I (o + 5) (k + 1) := by
          rw [pk_cpy_in (by omega) (by omega), show 1 + (k - 0) = k + 1 by omega]
        rw [e9]
        simpa [hk2] using h9
end SP

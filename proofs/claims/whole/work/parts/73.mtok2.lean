/-! the reference: is a word here, signs, numbers, names -/
def wln (a : Nat) : Nat := (wM.1 a).2
def isW (a : Nat) : Prop := (3 ≤ a ∧ a ≤ 30) ∨ (50 ≤ a ∧ a ≤ 74)
theorem wd_fac0 : ∀ a, a < 75 → (a < 3 ∨ (30 < a ∧ a < 50) ∨ ((wM.1 a).1 = 2 ∧ 1 ≤ (wM.1 a).2 ∧ (wM.1 a).2 ≤ 6 ∧ wpl a < 34 ∧ pkN (wpl a) / 32 ^ (wM.1 a).2 = 0 ∧ ∀ k, k < 6 → k < (wM.1 a).2 → 1 ≤ pkN (wpl a) / 32 ^ k % 32 ∧ pkN (wpl a) / 32 ^ k % 32 ≤ 26)) := by decide +kernel
theorem wd_fac {a : Nat} (h : isW a) : z_Ar wM a 2 (wln a) ∧ 1 ≤ wln a ∧ wln a ≤ 6 ∧ wpl a < 34 ∧ Ln (pkN (wpl a)) (wln a) := by
  unfold isW at h
  have h75 : a < 75 := by omega
  rcases wd_fac0 a h75 with z | z | ⟨z1, z2, z3, z4, z5, z6⟩
  · omega
  · omega
  · refine ⟨⟨?_, ?_, by omega⟩, z2, z3, z4, fun i hi => z6 i (by unfold wln at hi; omega) hi, z5⟩
    · show wM.1 a = (2, (wM.1 a).2)
      rw [← z1]
    · show a < 79; omega
theorem pkN_pos : ∀ i, i < 34 → pkN i ≠ 0 := by decide +kernel
theorem Ln_uniq {v l m : Nat} (h1 : Ln v l) (h2 : Ln v m) : l = m := by
  rcases Nat.lt_trichotomy l m with z | z | z
  · exact absurd h1.2 (Ln_ne h2 z)
  · exact z
  · exact absurd h2.2 (Ln_ne h1 z)
theorem Ln_wfn : ∀ n v l, Ln v l → l ≤ n → wfn n v = true
  | 0, v, l, h, hl => by
    obtain rfl : l = 0 := by omega
    have := h.2
    simp at this
    simp [wfn, this]
  | n + 1, v, 0, h, hl => by
    have := h.2
    simp at this
    simp [wfn, this]
  | n + 1, v, l + 1, h, hl => by
    simp only [wfn, Bool.or_eq_true, Bool.and_eq_true, decide_eq_true_eq]
    right
    refine ⟨by have := h.1 0 (by omega); simpa [lt32] using this, Ln_wfn n (v / 32) l ⟨fun i hi => ?_, ?_⟩ (by omega)⟩
    · rw [lt32_s]; exact h.1 (i + 1) (by omega)
    · have := h.2
      rw [Nat.pow_succ, Nat.mul_comm, ← Nat.div_div_eq_div_mul] at this
      exact this
theorem lt32_add {x c n k : Nat} (hx : x < 32 ^ n) (hc : c < 32) (hk : k ≤ n) : lt32 (x + c * 32 ^ n) k = if k = n then c else lt32 x k := by
  unfold lt32
  by_cases z : k = n
  · subst z
    rw [if_pos rfl, Nat.add_mul_div_right _ _ (Nat.pow_pos (by omega)), Nat.div_eq_of_lt hx, Nat.zero_add, Nat.mod_eq_of_lt hc]
  · rw [if_neg z]
    obtain ⟨e, rfl⟩ : ∃ e, n = k + 1 + e := ⟨n - k - 1, by omega⟩
    have e1 : c * 32 ^ (k + 1 + e) = 32 ^ k * (32 * (c * 32 ^ e)) := by
      rw [Nat.pow_add, Nat.pow_succ]
      simp only [Nat.mul_assoc, Nat.mul_comm, Nat.mul_left_comm]
    rw [e1, Nat.add_mul_div_left _ _ (Nat.pow_pos (by omega)), Nat.add_mul_mod_self_left]
section MB
variable {d : Nat} {I I' : Ii} {J J' : Jj} {g : Sx} {q : Nat}
theorem pck_Ln {n : Nat} (h : ∀ i, i < n → isL (g 1 (q + i)) = true) : Ln (pck g q n) n ∧ ∀ k, k < n → lt32 (pck g q n) k = g 1 (q + k) - 96 := by
  have hb : ∀ i, i < n → g 1 (q + i) - 96 < 32 := fun i hi => by have := isL_t.mp (h i hi); omega
  have key : ∀ m, m ≤ n → pck g q m < 32 ^ m ∧ ∀ k, k < m → lt32 (pck g q m) k = g 1 (q + k) - 96 := by
    intro m
    induction m with
    | zero => intro _; exact ⟨by simp [pck], fun k hk => absurd hk (by omega)⟩
    | succ m ih =>
      intro hm
      obtain ⟨h1, h2⟩ := ih (by omega)
      refine ⟨pck_lt g q (m + 1) (fun i hi => hb i (by omega)), fun k hk => ?_⟩
      show lt32 (pck g q m + (g 1 (q + m) - 96) * 32 ^ m) k = _
      rw [lt32_add h1 (hb m (by omega)) (by omega)]
      by_cases z : k = m
      · rw [if_pos z, z]
      · rw [if_neg z]; exact h2 k (by omega)
  obtain ⟨h1, h2⟩ := key n (by omega)
  refine ⟨⟨fun i hi => ?_, Nat.div_eq_of_lt h1⟩, h2⟩
  rw [h2 i hi]
  have := isL_t.mp (h i hi)
  omega
theorem wen_L {k : Nat} (h1 : q ≤ k) (h2 : k < wen g q) : isL (g 1 k) = true := rn_in (q := fun k => isL (g 1 k)) (n := g 0 0) h1 h2
theorem den_D {k : Nat} (h1 : q ≤ k) (h2 : k < den g q) : isD (g 1 k) = true := rn_in (q := fun k => isD (g 1 k)) (n := g 0 0) h1 h2
theorem wen_le (h : q ≤ g 0 0) : q ≤ wen g q ∧ wen g q ≤ g 0 0 := ⟨(rn_le _ _ _).1, (rn_le _ _ _).2 h⟩
theorem den_le (h : q ≤ g 0 0) : q ≤ den g q ∧ den g q ≤ g 0 0 := ⟨(rn_le _ _ _).1, (rn_le _ _ _).2 h⟩
theorem wen_lt (h : q < g 0 0) (hl : isL (g 1 q) = true) : q < wen g q := by
  have : wen g q = wen g (q + 1) := rn_go (q := fun k => isL (g 1 k)) h hl
  rw [this]
  have := (rn_le (fun k => isL (g 1 k)) (g 0 0) (q + 1)).1
  unfold wen
  omega
theorem den_lt (h : q < g 0 0) (hl : isD (g 1 q) = true) : q < den g q := by
  have : den g q = den g (q + 1) := rn_go (q := fun k => isD (g 1 k)) h hl
  rw [this]
  have := (rn_le (fun k => isD (g 1 k)) (g 0 0) (q + 1)).1
  unfold den
  omega
theorem tk256 (h : tk g q = 256) (hb : ∀ k, k < g 0 0 → g 1 k < 256) : q < g 0 0 ∧ isL (g 1 q) = true := by
  have hq := tk_lt (g := g) (q := q) (by omega)
  refine ⟨hq, ?_⟩
  unfold tk at h
  rw [if_neg (by omega)] at h
  split at h
  · assumption
  · split at h
    · split at h <;> omega
    · have := hb q hq; omega
theorem wd_here {a : Nat} (ha : isW a) (h : tk g q = 256) (hb : ∀ k, k < g 0 0 → g 1 k < 256) : wd g q = wpl a ↔ (wen g q - q = wln a ∧ ∀ k, k < wln a → g 1 (q + k) = wch (wpl a) k) := by
  obtain ⟨hq, hl⟩ := tk256 h hb
  obtain ⟨-, w1, w6, w34, wL⟩ := wd_fac ha
  have hw := wen_le (g := g) (q := q) (by omega)
  have hwd : wd g q = wlk (tpk g q) := by unfold wd; rw [if_pos h]
  rw [hwd, wlk_iff w34]
  have et : tpk g q = if wen g q - q ≤ 6 then pck g q (wen g q - q) else 0 := by unfold tpk; rw [if_neg (by omega), if_pos hl]
  obtain ⟨pL, pl⟩ := pck_Ln (g := g) (q := q) (n := wen g q - q) (fun i hi => wen_L (g := g) (q := q) (k := q + i) (by omega) (by omega))
  rw [et]
  constructor
  · intro e
    by_cases z : wen g q - q ≤ 6
    · rw [if_pos z] at e
      rw [← e] at pL pl
      have hn := Ln_uniq pL wL
      refine ⟨hn, fun k hk => ?_⟩
      have h1 := pl k (by omega)
      have h2 := isL_t.mp (wen_L (g := g) (q := q) (k := q + k) (by omega) (by omega))
      unfold wch
      unfold lt32 at h1
      omega
    · rw [if_neg z] at e
      exact absurd e (pkN_pos _ w34)
  · rintro ⟨e1, e2⟩
    rw [if_pos (by omega)]
    have hx : ∀ i, i < wln a → lt32 (pkN (wpl a)) i = lt32 (pck g q (wen g q - q)) i := fun i hi => by
      rw [pl i (by omega), e2 i hi]
      unfold wch lt32
      omega
    have := lt32_ext (wln a) hx
    rw [Ln_mod wL] at this
    rw [this]
    have := Ln_mod pL
    rw [e1] at this ⊢
    exact this
theorem AtE.word {e : Nat} (hq : q < g 0 0) (hl : isL (g 1 q) = true) (he : e = wen g q) (h2 : I' 0 2 = nI e) (h4 : I' 0 4 = nI e) : AtE I' g e := by
  have hw := wen_le (g := g) (q := q) (by omega)
  have hw2 := wen_lt hq hl
  have hle := wen_L (g := g) (q := q) (k := e - 1) (by omega) (by omega)
  refine ⟨h2, by omega, e + 1, by rw [mI_s]; exact h4, by omega, ⟨fun _ => ⟨by omega, by unfold isLD; rw [hle]; rfl⟩, fun _ => rfl⟩, fun _ hlt => ⟨fun z => ?_, fun z => ?_⟩⟩
  · have := rn_at (q := fun k => isL (g 1 k)) (n := g 0 0) (p := q) (by omega) (by show wen g q < g 0 0; omega)
    rw [he] at z
    exact absurd (z.2.symm.trans this) (by decide)
  · have h1 := isL_t.mp hle
    have h3 := isD_t.mp z.1
    omega
theorem AtE.numb {e : Nat} (hq : q < g 0 0) (hl : isD (g 1 q) = true) (he : e = den g q) (h2 : I' 0 2 = nI e) (h4 : I' 0 4 = nI e) : AtE I' g e := by
  have hw := den_le (g := g) (q := q) (by omega)
  have hw2 := den_lt hq hl
  have hle := den_D (g := g) (q := q) (k := e - 1) (by omega) (by omega)
  refine ⟨h2, by omega, e + 1, by rw [mI_s]; exact h4, by omega, ⟨fun _ => ⟨by omega, by unfold isLD; rw [hle]; simp⟩, fun _ => rfl⟩, fun _ hlt => ⟨fun z => ?_, fun z => ?_⟩⟩
  · have h1 := isD_t.mp hle
    have h3 := isL_t.mp z.1
    omega
  · have := rn_at (q := fun k => isD (g 1 k)) (n := g 0 0) (p := q) (by omega) (by show den g q < g 0 0; omega)
    rw [he] at z
    exact absurd (z.2.symm.trans this) (by decide)
theorem adv_w (hq : q < g 0 0) (hl : isL (g 1 q) = true) : adv g q = skp g (wen g q) := by unfold adv tsp; rw [if_neg (by omega), if_pos hl]
theorem adv_d (hq : q < g 0 0) (hl : isD (g 1 q) = true) : adv g q = skp g (den g q) := by
  unfold adv tsp
  have : isL (g 1 q) = false := by rw [isD_t] at hl; unfold isL; exact decide_eq_false (by omega)
  rw [if_neg (by omega), if_neg (by rw [this]; decide), if_pos hl]
theorem m_isHere {a : Nat} {K : KI} (hG : TxG I g) (hp : Rpr I g q) (ha : isW a) (h : ∀ I', FrK I I' → Rlk I' g q → K (b01 (decide (wd g q = wpl a))) I' J) : CalI wM (d + 1) mX13_isHere [.ref 0, .ref a] I J K := by
  obtain ⟨hA, w1, w6, w34, wL⟩ := wd_fac ha
  have h16 := hG.1.2
  have hb256 : ∀ k, k < g 0 0 → g 1 k < 256 := fun k hk => (hG.2.1 k hk).2
  have hqle := hp.le
  have eon : Int32.ofNat (wln a) = nI (wln a) := rfl
  have no : ¬ tk g q = 256 → ∀ I1, FrK I I1 → Rlk I1 g q → K 0 I1 J := fun z I1 f1 hL => by
    have := h I1 f1 hL
    rw [decide_eq_false (fun y => by unfold wd at y; rw [if_neg z] at y; omega)] at this
    exact this
  refine Cal.of (by decide) (Nat.le_of_ble_eq_true rfl) (bX13_isHere_0 hA ⟨fun z => absurd hp.1 z, fun _ => m_look hG hp (fun I1 f1 hL => m_isLetterB (hG.K f1) ⟨fun z => ?_, fun z => ?_⟩)⟩)
  · rw [b01_0] at z
    refine no (fun y => ?_) I1 f1 hL
    obtain ⟨y1, y2⟩ := tk256 y hb256
    rw [decide_eq_true y1, y2] at z
    exact absurd z (by decide)
  rw [b01_n] at z
  simp only [Bool.and_eq_true, decide_eq_true_eq] at z
  obtain ⟨hq, hl⟩ := z
  have htk := tk_L hL hq hl h16
  rw [htk.1]
  refine ⟨fun z => ?_, fun z => no (by omega) I1 f1 hL⟩
  have ht : tk g q = 256 := by omega
  have hG1 := hG.K f1
  have hw := wen_le (g := g) (q := q) (by omega)
  have hiff := wd_here ha ht hb256
  have h02 : I1 0 2 = nI q := hL.2.1.1
  rw [h02]
  -- the letters, one by one
  have cmp : wen g q - q = wln a → ∀ e k, k + e = wln a → (∀ j, j < k → g 1 (q + j) = wch (wpl a) j) → GoI wM (d + 1) mX13_isHere 76 [(0, .ref 0), (1, .ref a), (3, .int (nI k))] [] I1 J K := by
    intro hlen e
    induction e with
    | zero =>
      intro k hk hj
      obtain rfl : k = wln a := by omega
      refine bX13_isHere_76 hA ⟨fun _ => ?_, fun y => absurd (nI_le (Nat.le_refl _) (by omega)) y⟩
      have := h I1 f1 hL
      rw [decide_eq_true (hiff.mpr ⟨hlen, hj⟩)] at this
      exact this
    | succ e ih =>
      intro k hk hj
      have hby := hG1.2.1 (q + k) (by omega)
      have hch := hG1.2.2 a ha k (by show k < wln a; omega)
      have hwc : wch (wpl a) k < 256 := by have := (wL.1 k (by omega)).2; unfold wch; unfold lt32 at this; omega
      refine bX13_isHere_76 hA ⟨fun y => absurd ((nI_leI (by omega) (by omega)).mp y) (by omega), fun _ => ?_⟩
      rw [h02, nI_add, nI_clamp (by omega), nI_clamp (by omega), hby.1, hch, nI_eq (by omega) (by omega), nI_1]
      refine ⟨vp_in_nI (by omega) (by omega), vp_in_nI (by omega) (by omega), fun y => ?_, fun y => ?_⟩
      · refine ih (k + 1) (by omega) (fun j hj' => ?_)
        by_cases zj : j = k
        · rw [zj]; exact y
        · exact hj j (by omega)
      · have := h I1 f1 hL
        rw [decide_eq_false (fun y2 => y ((hiff.mp y2).2 k (by omega)))] at this
        exact this
  have fin : ∀ k, k = wen g q → ((((nI k) - (I1 0 2)) = (Int32.ofNat (wln a))) → (GoI wM (d + 1) mX13_isHere 76 [(0, .ref (0)), (1, .ref (a)), (3, .int (0))] [] I1 J K)) ∧ ((¬ ((nI k) - (I1 0 2)) = (Int32.ofNat (wln a))) → (K (0) I1 J)) := by
    rintro k rfl
    rw [h02, pk_sub hw.1, eon, nI_eq (by omega) (by omega)]
    refine ⟨fun y => cmp y (wln a) 0 (by omega) (fun j hj => absurd hj (by omega)), fun y => ?_⟩
    have := h I1 f1 hL
    rw [decide_eq_false (fun y2 => y (hiff.mp y2).1)] at this
    exact this
  have run : ∀ e k, k + e = wen g q → q ≤ k → GoI wM (d + 1) mX13_isHere 35 [(0, .ref 0), (1, .ref a), (2, .int (nI k))] [] I1 J K := by
    intro e
    induction e with
    | zero =>
      intro k hk hqk
      obtain rfl : k = wen g q := by omega
      refine bX13_isHere_35 hA ?_
      rw [hG1.1.1]
      refine ⟨fun _ => fin _ rfl, fun y => ?_⟩
      have hlt : wen g q < g 0 0 := Nat.lt_of_not_le (fun z2 => y (nI_le z2 (by omega)))
      have hby := hG1.2.1 (wen g q) hlt
      have hnl : isL (g 1 (wen g q)) = false := rn_at (q := fun k => isL (g 1 k)) (n := g 0 0) (p := q) (by omega) hlt
      rw [nI_clamp (by omega), hby.1]
      refine ⟨vp_in_nI (by omega) (by omega), m_isLetter (by omega) ?_⟩
      rw [hnl]
      exact ⟨fun _ => fin _ rfl, fun y2 => absurd rfl y2⟩
    | succ e ih =>
      intro k hk hqk
      have hby := hG1.2.1 k (by omega)
      have hll := wen_L (g := g) (q := q) (k := k) (by omega) (by omega)
      refine bX13_isHere_35 hA ?_
      rw [hG1.1.1, nI_clamp (by omega), hby.1]
      refine ⟨fun y => absurd ((nI_leI (by omega) (by omega)).mp y) (by omega), fun _ => ⟨vp_in_nI (by omega) (by omega), m_isLetter (by omega) ?_⟩⟩
      rw [hll, nI_1]
      exact ⟨fun y => absurd y (by decide), fun _ => ih (k + 1) (by omega) (by omega)⟩
  exact run (wen g q - q) q (by omega) (by omega)
theorem m_isHere_b {a : Nat} {K : KI} (h5 : ¬ I 0 5 = 0) (ha : isW a) (h : K 0 I J) : CalI wM (d + 1) mX13_isHere [.ref 0, .ref a] I J K := Cal.of (by decide) (Nat.le_of_ble_eq_true rfl) (bX13_isHere_0 (wd_fac ha).1 ⟨fun _ => h, fun z => absurd z h5⟩)
theorem m_takes {a : Nat} {K : KI} (hG : TxG I g) (hp : Rpr I g q) (ha : isW a) (h1 : wd g q = wpl a → ∀ I', FrK I I' → Rpr I' g (adv g q) → K 1 I' J) (h0 : wd g q ≠ wpl a → ∀ I', FrK I I' → Rlk I' g q → K 0 I' J) : CalI wM (d + 2) mX13_takes [.ref 0, .ref a] I J K := by
  obtain ⟨hA, w1, w6, w34, wL⟩ := wd_fac ha
  have h16 := hG.1.2
  have hb256 : ∀ k, k < g 0 0 → g 1 k < 256 := fun k hk => (hG.2.1 k hk).2
  refine Cal.of (by decide) (Nat.le_of_ble_eq_true rfl) (bX13_takes_0 hA (m_isHere (d := d) hG hp ha (fun I1 f1 hL => ⟨fun z => ?_, fun z => ?_⟩)))
  · rw [b01_n, decide_eq_true_eq] at z
    rintro _ rfl
    have ht : tk g q = 256 := by
      unfold wd at z
      split at z
      · assumption
      · omega
    obtain ⟨hq, hl⟩ := tk256 ht hb256
    have he := ((wd_here ha ht hb256).mp z).1
    have hw := wen_le (g := g) (q := q) (by omega)
    rw [hL.2.1.1, show Int32.ofNat (wln a) = nI (wln a) from rfl, nI_add, show q + wln a = wen g q by omega, u2_at]
    refine h1 z _ (f1.trans ⟨fun a ha => by rw [u2_row ha, u2_row ha], fun j j2 j4 _ _ _ => by rw [u2_k j4, u2_k j2]⟩) ⟨by rw [u2_k (by omega), u2_k (by omega)]; exact hL.1, wen g q, AtE.word hq hl rfl (by rw [u2_k (by omega), u2_at]) (u2_at _ _ _ _), (adv_w hq hl).symm⟩
  · rw [b01_0, decide_eq_false_iff_not] at z
    exact h0 z I1 f1 hL
theorem m_takes_b {a : Nat} {K : KI} (h5 : ¬ I 0 5 = 0) (ha : isW a) (h : K 0 I J) : CalI wM (d + 2) mX13_takes [.ref 0, .ref a] I J K := Cal.of (by decide) (Nat.le_of_ble_eq_true rfl) (bX13_takes_0 (wd_fac ha).1 (m_isHere_b (d := d) h5 ha ⟨fun z => absurd rfl z, fun _ => h⟩))
/-- a fault, noted -/
def Flm (I' : Ii) (k p : Nat) : Prop := I' 0 5 = nI k ∧ I' 0 6 = nI p
theorem m_asks {a : Nat} {K : KV} (hG : TxG I g) (hp : Rpr I g q) (ha : isW a) (h1 : wd g q = wpl a → ∀ I', FrK I I' → Rpr I' g (adv g q) → K I' J) (h0 : wd g q ≠ wpl a → ∀ I', FrK I I' → Flm I' 1 q → K I' J) : CalV wM (d + 3) mX13_asks [.ref 0, .ref a] I J K := by
  refine Cal.of (by decide) (Nat.le_of_ble_eq_true rfl) (bX13_asks_0 (wd_fac ha).1 ⟨fun z => absurd hp.1 z, fun _ => m_takes (d := d) hG hp ha (fun e I1 f1 hR => ⟨fun _ => h1 e I1 f1 hR, fun z => absurd z (by decide)⟩) (fun e I1 f1 hL => ⟨fun z => absurd rfl z, fun _ => ?_⟩)⟩)
  rw [hL.2.1.1]
  exact m_fail hL.1 (fun I2 f2 e5 e6 _ => h0 e I2 (f1.trans f2) ⟨e5, e6⟩)
theorem m_asks_b {a : Nat} {K : KV} (h5 : ¬ I 0 5 = 0) (ha : isW a) (h : K I J) : CalV wM (d + 3) mX13_asks [.ref 0, .ref a] I J K := Cal.of (by decide) (Nat.le_of_ble_eq_true rfl) (bX13_asks_0 (wd_fac ha).1 ⟨fun _ => h, fun z => absurd z h5⟩)
/-- signs -/
def isS (c : Nat) : Prop := c < 256 ∧ isL c = false ∧ isD c = false ∧ isB c = false
theorem tk_sg {c : Nat} (hc : isS c) (hb : ∀ k, k < g 0 0 → g 1 k < 256) : tk g q = c ↔ (q < g 0 0 ∧ g 1 q = c) := by
  unfold tk
  by_cases z : g 0 0 ≤ q
  · rw [if_pos z]; have := hc.1; constructor <;> intro y <;> omega
  · rw [if_neg z]
    have hcl := hc.1
    by_cases z1 : isL (g 1 q) = true
    · rw [if_pos z1]
      constructor
      · intro y; split at y <;> omega
      · intro y; rw [y.2, hc.2.1] at z1; exact absurd z1 (by decide)
    · rw [if_neg z1]
      by_cases z2 : isD (g 1 q) = true
      · rw [if_pos z2]
        constructor
        · intro y; split at y <;> omega
        · intro y; rw [y.2, hc.2.2.1] at z2; exact absurd z2 (by decide)
      · rw [if_neg z2]
        exact ⟨fun y => ⟨by omega, y⟩, fun y => y.2⟩
theorem AtE.sign {c : Nat} (hL : AtE I g q) (hq : q < g 0 0) (hc : isS c) (e : g 1 q = c) (h2 : I' 0 2 = nI (q + 1)) (h4 : I' 0 4 = I 0 4) : AtE I' g (q + 1) := by
  obtain ⟨-, -, c', h3, h5, -, -⟩ := hL
  refine ⟨h2, by omega, c', by rw [h4]; exact h3, by omega, ⟨fun z => by omega, fun z => ?_⟩, fun z => by omega⟩
  rw [Nat.add_sub_cancel, e] at z
  unfold isLD at z
  rw [hc.2.1, hc.2.2.1] at z
  exact absurd z.2 (by decide)
theorem adv_s {c : Nat} (hc : isS c) (hq : q < g 0 0) (e : g 1 q = c) : adv g q = skp g (q + 1) := by
  unfold adv tsp
  rw [if_neg (by omega), e, if_neg (by rw [hc.2.1]; decide), if_neg (by rw [hc.2.2.1]; decide)]
theorem bat_eq {c : Nat} (hG : TxG I g) (hc : isS c) : bat g q = nI c ↔ tk g q = c := by
  have hb256 : ∀ k, k < g 0 0 → g 1 k < 256 := fun k hk => (hG.2.1 k hk).2
  rw [tk_sg hc hb256]
  unfold bat
  have := hc.1
  by_cases z : q < g 0 0
  · rw [if_pos z, nI_eq (by have := hb256 q z; omega) (by omega)]; exact ⟨fun y => ⟨z, y⟩, fun y => y.2⟩
  · rw [if_neg z]; exact ⟨fun y => absurd y.symm (nI_ne_m1 (by omega)), fun y => absurd y.1 z⟩
theorem m_takesSign {c : Nat} {K : KI} (hG : TxG I g) (hp : Rpr I g q) (hc : isS c) (h1 : tk g q = c → q < g 0 0 → ∀ I', FrK I I' → Rpr I' g (adv g q) → I' 0 2 = nI (q + 1) → K 1 I' J) (h0 : tk g q ≠ c → ∀ I', FrK I I' → Rlk I' g q → K 0 I' J) : CalI wM (d + 1) mX13_takesSign [.ref 0, .int (nI c)] I J K := by
  have hb256 : ∀ k, k < g 0 0 → g 1 k < 256 := fun k hk => (hG.2.1 k hk).2
  refine Cal.of (by decide) (Nat.le_of_ble_eq_true rfl) (bX13_takesSign_0 ⟨fun z => absurd hp.1 z, fun _ => m_look hG hp (fun I1 f1 hL => ?_)⟩)
  rw [bat_eq hG hc]
  refine ⟨fun z => ?_, fun z => h0 z I1 f1 hL⟩
  obtain ⟨hq, e⟩ := (tk_sg hc hb256).mp z
  rw [hL.2.1.1, nI_1]
  refine h1 z hq _ (f1.trans ⟨fun a ha => u2_row ha, fun j j2 _ _ _ _ => u2_k j2⟩) ⟨by rw [u2_k (by omega)]; exact hL.1, q + 1, AtE.sign hL.2.1 hq hc e (u2_at _ _ _ _) (u2_k (by omega)), (adv_s hc hq e).symm⟩ (u2_at _ _ _ _)
theorem m_takesSign_b {x : Int32} {K : KI} (h5 : ¬ I 0 5 = 0) (h : K 0 I J) : CalI wM (d + 1) mX13_takesSign [.ref 0, .int x] I J K := Cal.of (by decide) (Nat.le_of_ble_eq_true rfl) (bX13_takesSign_0 ⟨fun _ => h, fun z => absurd z h5⟩)
theorem m_asksSign {c : Nat} {K : KV} (hG : TxG I g) (hp : Rpr I g q) (hc : isS c) (h1 : tk g q = c → ∀ I', FrK I I' → Rpr I' g (adv g q) → K I' J) (h0 : tk g q ≠ c → ∀ I', FrK I I' → Flm I' 1 q → K I' J) : CalV wM (d + 2) mX13_asksSign [.ref 0, .int (nI c)] I J K := by
  refine Cal.of (by decide) (Nat.le_of_ble_eq_true rfl) (bX13_asksSign_0 ⟨fun z => absurd hp.1 z, fun _ => m_takesSign (d := d) hG hp hc (fun e _ I1 f1 hR _ => ⟨fun _ => h1 e I1 f1 hR, fun z => absurd z (by decide)⟩) (fun e I1 f1 hL => ⟨fun z => absurd rfl z, fun _ => ?_⟩)⟩)
  rw [hL.2.1.1]
  exact m_fail hL.1 (fun I2 f2 e5 e6 _ => h0 e I2 (f1.trans f2) ⟨e5, e6⟩)
theorem m_asksSign_b {x : Int32} {K : KV} (h5 : ¬ I 0 5 = 0) (h : K I J) : CalV wM (d + 2) mX13_asksSign [.ref 0, .int x] I J K := Cal.of (by decide) (Nat.le_of_ble_eq_true rfl) (bX13_asksSign_0 ⟨fun _ => h, fun z => absurd z h5⟩)
theorem tk257 (h : tk g q = 257) (hb : ∀ k, k < g 0 0 → g 1 k < 256) : q < g 0 0 ∧ isD (g 1 q) = true := by
  have hq := tk_lt (g := g) (q := q) (by omega)
  refine ⟨hq, ?_⟩
  unfold tk at h
  rw [if_neg (by omega)] at h
  split at h
  · split at h <;> omega
  · split at h
    · assumption
    · have := hb q hq; omega
theorem m_number {a b : Nat} {K : KI} (hG : TxG I g) (hp : Rpr I g q) (ha : a < 20000) (hb : b < 20000) (h1 : (nmf g a b q).1 = 0 → ∀ I', FrK I I' → Rpr I' g (adv g q) → K (nI (tvl g q)) I' J) (h0 : (nmf g a b q).1 ≠ 0 → ∀ v I', FrK I I' → Flm I' (nmf g a b q).1 (nmf g a b q).2 → K v I' J) : CalI wM (d + 1) mX13_number [.ref 0, .int (nI a), .int (nI b)] I J K := by
  have h16 := hG.1.2
  have hb256 : ∀ k, k < g 0 0 → g 1 k < 256 := fun k hk => (hG.2.1 k hk).2
  have hqle := hp.le
  have no : ¬ tk g q = 257 → ∀ I1, FrK I I1 → Rlk I1 g q → CalV wM d mX13_fail [.ref 0, .int 1, .int (I1 0 2)] I1 J (fun I9 J10 => K 0 I9 J10) := fun z I1 f1 hL => by
    have en : nmf g a b q = (1, q) := by unfold nmf; rw [if_neg z]
    rw [en] at h0
    rw [hL.2.1.1]
    exact m_fail hL.1 (fun I2 f2 e5 e6 _ => h0 (by simp) 0 I2 (f1.trans f2) ⟨e5, e6⟩)
  refine Cal.of (by decide) (Nat.le_of_ble_eq_true rfl) (bX13_number_0 ⟨fun _ => m_look hG hp (fun I1 f1 hL => m_isDigitB (hG.K f1) ⟨fun z => ?_, fun z => ?_⟩), fun z => absurd hp.1 z⟩)
  · rw [b01_0] at z
    refine no (fun y => ?_) I1 f1 hL
    obtain ⟨y1, y2⟩ := tk257 y hb256
    rw [decide_eq_true y1, y2] at z
    exact absurd z (by decide)
  rw [b01_n] at z
  simp only [Bool.and_eq_true, decide_eq_true_eq] at z
  obtain ⟨hq, hl⟩ := z
  have htk := tk_D hL hq hl h16
  rw [htk.1]
  refine ⟨fun z => ?_, fun z => no (by omega) I1 f1 hL⟩
  have ht : tk g q = 257 := by omega
  have hw := den_le (g := g) (q := q) (by omega)
  have hw2 := den_lt hq hl
  have hnl : isL (g 1 q) = false := by rw [isD_t] at hl; unfold isL; exact decide_eq_false (by omega)
  have ets : tsp g q = den g q := by unfold tsp; rw [if_neg (by omega), if_neg (by rw [hnl]; decide), if_pos hl]
  have etv : tvl g q = val g q (if den g q - q ≤ 4 then den g q - q else 4) := by unfold tvl; rw [if_neg (by omega), if_neg (by rw [hnl]; decide), if_pos hl]
  have hvl : ∀ k, k ≤ den g q - q → val g q k < 10 ^ k := fun k hk => val_lt g q k (fun i hi => by have := isD_t.mp (den_D (g := g) (q := q) (k := q + i) (by omega) (by omega)); omega)
  -- the end of the number
  have fin : den g q - q ≤ 4 → ∀ I2, FrK I I2 → I2 0 2 = nI (den g q) → I2 0 5 = 0 → CalI wM d mX13_isIn [.long ((nI (tvl g q)).toInt64), .long ((nI a).toInt64), .long ((nI b).toInt64)] (u2 I2 0 4 (I2 0 2)) J (fun x5 I3 J4 => (((¬ x5 = 0) → (K (nI (tvl g q)) I3 J4)) ∧ ((x5 = 0) → (CalV wM d mX13_fail [.ref (0), .int (2), .int (nI q)] I3 J4 (fun I7 J8 => (K (nI (tvl g q)) I7 J8)))))) := fun h4 I2 f2 e2 e5 => by
    have htl := tvl_lt (g := g) q
    refine m_isIn ?_
    rw [Jvm.Kit.i64_of_i32, Jvm.Kit.i64_of_i32, Jvm.Kit.i64_of_i32, nI_toInt (by omega), nI_toInt (by omega), nI_toInt (by omega), e2]
    have f3 : FrK I (u2 I2 0 4 (nI (den g q))) := f2.trans ⟨fun a ha => u2_row ha, fun j _ j4 _ _ _ => u2_k j4⟩
    by_cases hin : a ≤ tvl g q ∧ tvl g q ≤ b
    · rw [decide_eq_true (by omega)]
      refine ⟨fun _ => h1 (by unfold nmf; rw [if_pos ht, ets, if_pos h4, if_pos hin]) _ f3 ⟨by rw [u2_k (by omega)]; exact e5, den g q, AtE.numb hq hl rfl (by rw [u2_k (by omega)]; exact e2) (u2_at _ _ _ _), (adv_d hq hl).symm⟩, fun y => absurd y (by decide)⟩
    · rw [decide_eq_false (by omega)]
      have en : nmf g a b q = (2, q) := by unfold nmf; rw [if_pos ht, ets, if_pos h4, if_neg hin]
      rw [en] at h0
      exact ⟨fun y => absurd rfl y, fun _ => m_fail (by rw [u2_k (by omega)]; exact e5) (fun I4 f4 g5 g6 _ => h0 (by simp) _ I4 (f3.trans f4) ⟨g5, g6⟩)⟩
  have run : ∀ e k I2, q + k + e = den g q → k ≤ 4 → FrK I I2 → I2 0 2 = nI (q + k) → I2 0 5 = 0 → GoI wM (d + 1) mX13_number 49 [(0, .ref 0), (1, .int (nI a)), (2, .int (nI b)), (3, .int (nI q)), (4, .int (nI (val g q k)))] [] I2 J K := by
    intro e
    induction e with
    | zero =>
      intro k I2 hk hk4 f2 e2 e5
      have hG2 := hG.K f2
      have hkd : q + k = den g q := by omega
      have etk : tvl g q = val g q k := by rw [etv, if_pos (by omega), show den g q - q = k by omega]
      refine bX13_number_49 ?_
      rw [hG2.1.1, e2, hkd, ← etk]
      rw [hkd] at e2
      have hff := fin (by omega) I2 f2 e2 e5
      rw [e2] at hff
      refine ⟨fun _ => hff, fun y => ?_⟩
      have hlt : den g q < g 0 0 := Nat.lt_of_not_le (fun z2 => y (nI_le z2 (by omega)))
      have hby := hG2.2.1 (den g q) hlt
      have hnd : isD (g 1 (den g q)) = false := rn_at (q := fun k => isD (g 1 k)) (n := g 0 0) (p := q) (by omega) hlt
      rw [nI_clamp (by omega), hby.1]
      refine ⟨vp_in_nI (by omega) (by omega), m_isDigit (by omega) ?_⟩
      rw [hnd]
      exact ⟨fun _ => by rw [e2]; exact hff, fun y2 => absurd rfl y2⟩
    | succ e ih =>
      intro k I2 hk hk4 f2 e2 e5
      have hG2 := hG.K f2
      have hby := hG2.2.1 (q + k) (by omega)
      have hdd := den_D (g := g) (q := q) (k := q + k) (by omega) (by omega)
      have hd2 := isD_t.mp hdd
      refine bX13_number_49 ?_
      rw [hG2.1.1, e2, nI_clamp (by omega), hby.1]
      refine ⟨fun y => absurd ((nI_leI (by omega) (by omega)).mp y) (by omega), fun _ => ⟨vp_in_nI (by omega) (by omega), m_isDigit (by omega) ?_⟩⟩
      rw [hdd, e2, pk_sub (by omega), show q + k - q = k by omega, show (4 : Int32) = nI 4 from rfl, nI_eq (by omega) (by omega), nI_clamp (by omega), hby.1]
      refine ⟨fun y => absurd y (by decide), fun _ => ⟨fun y => ⟨vp_in_nI (by omega) (by omega), ?_⟩, fun y => ?_⟩⟩
      · have ev : (10 : Int32) * nI (val g q k) + nI (g 1 (q + k)) - 48 = nI (val g q (k + 1)) := by
          rw [show (10 : Int32) = nI 10 from rfl, show (48 : Int32) = nI 48 from rfl, pk_mul, nI_add, pk_sub (by omega)]
          congr 1
          simp only [val]
          omega
        rw [ev, nI_1]
        rintro _ rfl
        exact ih (k + 1) _ (by omega) (by omega) (f2.trans ⟨fun a ha => u2_row ha, fun j j2 _ _ _ _ => u2_k j2⟩) (u2_at _ _ _ _) (by rw [u2_k (by omega)]; exact e5)
      · subst y
        have en : nmf g a b q = (1, q + 4) := by unfold nmf; rw [if_pos ht, ets, if_neg (by omega)]
        rw [en] at h0
        exact m_fail e5 (fun I4 f4 g5 g6 _ => h0 (by simp) _ I4 (f2.trans f4) ⟨g5, g6⟩)
  rw [hL.2.1.1]
  exact run (den g q - q) 0 I1 (by omega) (by omega) f1 hL.2.1.1 hL.1
theorem m_number_b {x y : Int32} {K : KI} (h5 : ¬ I 0 5 = 0) (h : K 0 I J) : CalI wM (d + 1) mX13_number [.ref 0, .int x, .int y] I J K := Cal.of (by decide) (Nat.le_of_ble_eq_true rfl) (bX13_number_0 ⟨fun z => absurd z h5, fun _ => h⟩)
end MB

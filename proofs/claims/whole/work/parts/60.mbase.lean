/-! the reference: its school and its state, and what reads them -/
/-- a name in sevens-and-twenties, out of one in two-and-thirties -/
def c27 : Nat → Nat → Nat → Nat
  | 0, a, _ => a
  | n + 1, a, v => if v = 0 then a else c27 n (27 * a + v % 32) (v / 32)
def n27 (v : Nat) : Nat := c27 6 0 v
def wfn : Nat → Nat → Bool
  | 0, v => decide (v = 0)
  | n + 1, v => decide (v = 0) || (decide (1 ≤ v % 32 ∧ v % 32 ≤ 26) && wfn n (v / 32))
def nmOK (v : Nat) : Prop := v < 2 ^ 30 ∧ v ≠ 0 ∧ wfn 6 v = true
def EnL (I : Ii) (w : Nat) (cs : List Nat) : Prop := (cs = [] ∧ I 39 (3 + w) = -1) ∨ (cs ≠ [] ∧ ∃ f, I 39 (3 + w) = nI f ∧ I 40 (3 + w) = nI (f + cs.length) ∧ f + cs.length ≤ 1600 ∧ ∀ i, i < cs.length → I 41 (1600 + f + i) = nI (cs.getD i 0))
/-- the reference's school -/
def EnMC (I : Ii) (J : Jj) (sc : Sx) (L : Nat → List Nat) : Prop :=
  (I 31 2 = nI (sc 0 0) ∧ sc 0 0 ≤ 8) ∧ (I 31 3 = nI (sc 0 1) ∧ sc 0 1 ≤ 8) ∧ (I 38 3 = nI (sc 0 2) ∧ sc 0 2 ≤ 99) ∧ (I 38 4 = nI (sc 0 3) ∧ sc 0 3 ≤ 9) ∧ (I 38 5 = nI (sc 0 4) ∧ sc 0 4 ≤ 100) ∧
  (∀ f, f < sc 0 0 → J 32 (16 + f) = lN (n27 (sc 1 f)) ∧ nmOK (sc 1 f) ∧ I 33 (8 + f) = nI (sc 2 f) ∧ sc 2 f ≤ 9) ∧ (∀ p, p < sc 0 1 → J 32 (24 + p) = lN (n27 (sc 3 p)) ∧ nmOK (sc 3 p) ∧ I 34 (8 + p) = nI (sc 4 p) ∧ sc 4 p ≤ 99) ∧ (∀ w, w < 3 → EnL I w (L w)) ∧ LOK L
/-- its state: a row of 41 -/
def EnN (R : Nat → Int32) (P : Nat) (s : Sx) : Prop := R 0 = nI (s 4 0) ∧ ∀ p, p < P → R (1 + 5 * p) = mI (s 0 p) ∧ R (2 + 5 * p) = nI (s 1 p) ∧ R (3 + 5 * p) = nI (s 2 p) ∧ R (4 + 5 * p) = nI (s 3 p) ∧ R (5 + 5 * p) = nI (bq (s 4 1) p + 2 * bq (s 4 2) p)
/-- what is kept -/
def EnK (R : Nat → Int32) (s : Sx) : Prop := R 41 = nI (s 4 3) ∧ ∀ k, k < s 4 3 → R (42 + 3 * k) = nI (s 5 k / 4 / 8) ∧ R (43 + 3 * k) = nI (s 5 k / 4 % 8) ∧ R (44 + 3 * k) = nI (s 5 k % 4)
def EnV (I : Ii) (sc s : Sx) : Prop := EnN (I 42) (sc 0 1) s ∧ WFS sc s ∧ sc 0 1 ≤ 8 ∧ sc 0 0 ≤ 8 ∧ s 4 0 ≤ 65000
theorem EnL.kept {I I' : Ii} {w : Nat} {cs : List Nat} (h : EnL I w cs) (h39 : I' 39 = I 39) (h40 : I' 40 = I 40) (h41 : I' 41 = I 41) : EnL I' w cs := by unfold EnL; rw [h39, h40, h41]; exact h
theorem EnMC.kept {I I' : Ii} {J J' : Jj} {sc : Sx} {L : Nat → List Nat} (h : EnMC I J sc L) (hk : ∀ a, (a = 31 ∨ a = 33 ∨ a = 34 ∨ a = 38 ∨ a = 39 ∨ a = 40 ∨ a = 41) → I' a = I a) (hj : J' 32 = J 32) : EnMC I' J' sc L := by
  unfold EnMC
  rw [hk 31 (by omega), hk 33 (by omega), hk 34 (by omega), hk 38 (by omega), hj]
  exact ⟨h.1, h.2.1, h.2.2.1, h.2.2.2.1, h.2.2.2.2.1, h.2.2.2.2.2.1, h.2.2.2.2.2.2.1, fun w hw => (h.2.2.2.2.2.2.2.1 w hw).kept (hk 39 (by omega)) (hk 40 (by omega)) (hk 41 (by omega)), h.2.2.2.2.2.2.2.2⟩
theorem EnV.row {I I' : Ii} {sc s : Sx} (h : EnV I sc s) (hr : I' 42 = I 42) : EnV I' sc s := by unfold EnV; rw [hr]; exact h
/-- only askWho, textKind and the pile change -/
def FrH (I : Ii) (J : Jj) (I' : Ii) (J' : Jj) : Prop := (∀ a, a ≠ 0 → I' a = I a) ∧ (∀ k, k ≠ 52 → k ≠ 55 → k ≠ 100 → I' 0 k = I 0 k) ∧ ∀ a, a ≠ 77 → J' a = J a
theorem FrH.refl (I : Ii) (J : Jj) : FrH I J I J := ⟨fun _ _ => rfl, fun _ _ _ _ => rfl, fun _ _ => rfl⟩
theorem FrH.trans {I I1 I2 : Ii} {J J1 J2 : Jj} (h1 : FrH I J I1 J1) (h2 : FrH I1 J1 I2 J2) : FrH I J I2 J2 := ⟨fun a ha => (h2.1 a ha).trans (h1.1 a ha), fun k a b c => (h2.2.1 k a b c).trans (h1.2.1 k a b c), fun a ha => (h2.2.2 a ha).trans (h1.2.2 a ha)⟩
theorem EnMC.H {I I' : Ii} {J J' : Jj} {sc : Sx} {L : Nat → List Nat} (h : EnMC I J sc L) (hk : FrH I J I' J') : EnMC I' J' sc L := h.kept (fun a ha => hk.1 a (by omega)) (hk.2.2 32 (by omega))
theorem EnV.H {I I' : Ii} {J J' : Jj} {sc s : Sx} (h : EnV I sc s) (hk : FrH I J I' J') : EnV I' sc s := h.row (hk.1 42 (by omega))
theorem ixP (p : Nat) : (1 : Int32) + 5 * nI p = nI (1 + 5 * p) := by rw [show (5 : Int32) = nI 5 from rfl, show (1 : Int32) = nI 1 from rfl, pk_mul, nI_add]
theorem nI_2 (a : Nat) : nI a + 2 = nI (a + 2) := by rw [show (2 : Int32) = nI 2 from rfl, nI_add]
theorem nI_3 (a : Nat) : nI a + 3 = nI (a + 3) := by rw [show (3 : Int32) = nI 3 from rfl, nI_add]
theorem nI_4 (a : Nat) : nI a + 4 = nI (a + 4) := by rw [show (4 : Int32) = nI 4 from rfl, nI_add]
theorem ix8 (p : Nat) : (8 : Int32) + nI p = nI (8 + p) := by rw [show (8 : Int32) = nI 8 from rfl, nI_add]
theorem ix3 (p : Nat) : (3 : Int32) + nI p = nI (3 + p) := by rw [show (3 : Int32) = nI 3 from rfl, nI_add]
theorem ix16 (p : Nat) : (1600 : Int32) + nI p = nI (1600 + p) := by rw [show (1600 : Int32) = nI 1600 from rfl, nI_add]
theorem nIm1 {a : Nat} (h : 1 ≤ a) : nI a - 1 = nI (a - 1) := by obtain ⟨b, rfl⟩ : ∃ b, a = b + 1 := ⟨a - 1, by omega⟩; exact nI_pred b
theorem k8_kern : ∀ n, n < 256 → n ≠ 0 → pc8 (n &&& (n - 1)) + 1 = pc8 n ∧ n &&& (n - 1) < n := by decide +kernel
theorem EnV.b {I : Ii} {sc s : Sx} (h : EnV I sc s) {p : Nat} (hp : p < 8) : s 0 p ≤ 8 ∧ s 1 p < 256 ∧ s 2 p < 256 ∧ s 3 p ≤ 9 := by
  have h1 := h.2.1.1 p hp
  have h2 := p2_8 h.2.2.2.1
  have := h.2.2.1
  exact ⟨by omega, by omega, by omega, h1.2.2.2.2.1⟩
theorem msk_P {q : Nat → Bool} {P : Nat} : ∀ n, (∀ k, P ≤ k → q k = false) → msk q (P + n) = msk q P
  | 0, _ => rfl
  | n + 1, h => by
    show msk q (P + n) + (if q (P + n) then 2 ^ (P + n) else 0) = _
    rw [h (P + n) (by omega), msk_P n h]
    rfl
theorem msk_8 {q : Nat → Bool} {P : Nat} (hP : P ≤ 8) (h : ∀ k, P ≤ k → k < 8 → q k = false) : msk q 8 = msk q P := by
  have e : msk q 8 = msk (fun k => q k && decide (k < 8)) 8 := msk_ext (fun i hi => by simp [hi])
  have e2 : msk q P = msk (fun k => q k && decide (k < 8)) P := msk_ext (fun i hi => by simp [show i < 8 by omega])
  rw [e, e2]
  have e3 := msk_P (q := fun k => q k && decide (k < 8)) (P := P) (8 - P) (fun k hk => by
    by_cases z : k < 8
    · show (q k && _) = false
      rw [h k hk z]; rfl
    · simp [z])
  rw [show P + (8 - P) = 8 by omega] at e3
  exact e3
section MB
variable {d : Nat} {I : Ii} {J : Jj} {sc s : Sx} {L : Nat → List Nat} {p f : Nat}
theorem m_pm {K : KI} (hC : EnMC I J sc L) (h : K (nI (sc 0 1)) I J) : CalI wM d mX13_personMany [.ref 0] I J K := Cal.of (by decide) (Nat.le_of_ble_eq_true rfl) (bX13_personMany_0 (by rw [c3, hC.2.1.1]; exact h))
theorem m_fm {K : KI} (hC : EnMC I J sc L) (h : K (nI (sc 0 0)) I J) : CalI wM d mX13_factMany [.ref 0] I J K := Cal.of (by decide) (Nat.le_of_ble_eq_true rfl) (bX13_factMany_0 (by rw [c2, hC.1.1]; exact h))
theorem m_masterOf {K : KI} (hV : EnV I sc s) (hp : p < sc 0 1) (h : K (mI (s 0 p)) I J) : CalI wM d mX13_masterOf [.ref 0, .int (nI p)] I J K := by
  have := hV.2.2.1
  refine Cal.of (by decide) (Nat.le_of_ble_eq_true rfl) (bX13_masterOf_0 ?_)
  rw [ixP, nI_clamp (by omega), (hV.1.2 p hp).1]
  exact ⟨vp_in_nI (by omega) (by omega), h⟩
theorem m_rightOf {K : KI} (hV : EnV I sc s) (hp : p < sc 0 1) (h : K (nI (s 1 p)) I J) : CalI wM d mX13_rightOf [.ref 0, .int (nI p)] I J K := by
  have := hV.2.2.1
  refine Cal.of (by decide) (Nat.le_of_ble_eq_true rfl) (bX13_rightOf_0 ?_)
  rw [ixP, nI_1, nI_clamp (by omega), show 1 + 5 * p + 1 = 2 + 5 * p by omega, (hV.1.2 p hp).2.1]
  exact ⟨vp_in_nI (by omega) (by omega), h⟩
theorem m_wrongOf {K : KI} (hV : EnV I sc s) (hp : p < sc 0 1) (h : K (nI (s 2 p)) I J) : CalI wM d mX13_wrongOf [.ref 0, .int (nI p)] I J K := by
  have := hV.2.2.1
  refine Cal.of (by decide) (Nat.le_of_ble_eq_true rfl) (bX13_wrongOf_0 ?_)
  rw [ixP, nI_2, nI_clamp (by omega), show 1 + 5 * p + 2 = 3 + 5 * p by omega, (hV.1.2 p hp).2.2.1]
  exact ⟨vp_in_nI (by omega) (by omega), h⟩
theorem m_leftOf {K : KI} (hV : EnV I sc s) (hp : p < sc 0 1) (h : K (nI (s 3 p)) I J) : CalI wM d mX13_leftOf [.ref 0, .int (nI p)] I J K := by
  have := hV.2.2.1
  refine Cal.of (by decide) (Nat.le_of_ble_eq_true rfl) (bX13_leftOf_0 ?_)
  rw [ixP, nI_3, nI_clamp (by omega), show 1 + 5 * p + 3 = 4 + 5 * p by omega, (hV.1.2 p hp).2.2.2.1]
  exact ⟨vp_in_nI (by omega) (by omega), h⟩
theorem k2_fl : ∀ a, a < 2 → ∀ b, b < 2 → nI (a + 2 * b) &&& 1 = nI a ∧ nI (a + 2 * b) &&& 2 = nI (2 * b) ∧ nI (a + 2 * b) ||| 1 = nI (1 + 2 * b) ∧ nI (a + 2 * b) ||| 2 = nI (a + 2) := by decide +kernel
theorem bq2 (n j : Nat) : bq n j < 2 := by have := bq01 n j; omega
theorem m_hasPassed {K : KI} (hV : EnV I sc s) (hp : p < sc 0 1) (h : K (nI (bq (s 4 1) p)) I J) : CalI wM d mX13_hasPassed [.ref 0, .int (nI p)] I J K := by
  have := hV.2.2.1
  refine Cal.of (by decide) (Nat.le_of_ble_eq_true rfl) (bX13_hasPassed_0 ?_)
  rw [ixP, nI_4, nI_clamp (by omega), show 1 + 5 * p + 4 = 5 + 5 * p by omega, (hV.1.2 p hp).2.2.2.2, (k2_fl _ (bq2 _ _) _ (bq2 _ _)).1]
  refine ⟨vp_in_nI (by omega) (by omega), fun q => ?_, fun q => ?_⟩
  · rcases bq01 (s 4 1) p with e | e
    · rw [e] at h; exact h
    · rw [e] at q; exact absurd q (by decide)
  · rcases bq01 (s 4 1) p with e | e
    · rw [e] at q; exact absurd rfl q
    · rw [e] at h; exact h
theorem m_isDoctor {K : KI} (hV : EnV I sc s) (hp : p < sc 0 1) (h : K (nI (bq (s 4 2) p)) I J) : CalI wM d mX13_isDoctor [.ref 0, .int (nI p)] I J K := by
  have := hV.2.2.1
  refine Cal.of (by decide) (Nat.le_of_ble_eq_true rfl) (bX13_isDoctor_0 ?_)
  rw [ixP, nI_4, nI_clamp (by omega), show 1 + 5 * p + 4 = 5 + 5 * p by omega, (hV.1.2 p hp).2.2.2.2, (k2_fl _ (bq2 _ _) _ (bq2 _ _)).2.1]
  refine ⟨vp_in_nI (by omega) (by omega), fun q => ?_, fun q => ?_⟩
  · rcases bq01 (s 4 2) p with e | e
    · rw [e] at h; exact h
    · rw [e] at q; exact absurd q (by decide)
  · rcases bq01 (s 4 2) p with e | e
    · rw [e] at q; exact absurd rfl q
    · rw [e] at h; exact h
theorem m_isOf {K : KI} (hV : EnV I sc s) (hp : p < sc 0 1) (hf : f < 8) (h : K (nI (bel s p f)) I J) : CalI wM (d + 1) mX13_isOf [.ref 0, .int (nI p), .int (nI f)] I J K := by
  have h8 := hV.2.2.1
  have hb := hV.b (p := p) (by omega)
  refine Cal.of (by decide) (Nat.le_of_ble_eq_true rfl) (bX13_isOf_0 (m_rightOf hV hp ?_))
  rw [k8_bit _ hb.2.1 f hf]
  unfold bel at h
  rcases bq01 (s 1 p) f with e | e
  · rw [e] at h ⊢
    refine ⟨fun _ => m_wrongOf hV hp ?_, fun q => absurd q (by decide)⟩
    rw [k8_bit _ hb.2.2.1 f hf]
    rcases bq01 (s 2 p) f with e2 | e2
    · rw [e2] at h ⊢
      exact ⟨fun _ => h, fun q => absurd q (by decide)⟩
    · rw [e2] at h ⊢
      exact ⟨fun q => absurd rfl q, fun _ => h⟩
  · rw [e] at h ⊢
    exact ⟨fun q => absurd rfl q, fun _ => h⟩
theorem m_bits {n : Nat} {K : KI} (hn : n < 256) (h : K (nI (pc8 n)) I J) : CalI wM d mX13_bits [.int (nI n)] I J K := by
  refine Cal.of (by decide) (Nat.le_of_ble_eq_true rfl) (bX13_bits_0 ?_)
  have key : ∀ m n k, n ≤ m → n < 256 → K (nI (k + pc8 n)) I J → GoI wM d mX13_bits 4 [(1, .int (nI k)), (2, .int (nI n))] [] I J K := by
    intro m
    induction m with
    | zero =>
      intro n k hm hn hK
      obtain rfl : n = 0 := by omega
      exact bX13_bits_4 ⟨fun _ => hK, fun q => absurd rfl q⟩
    | succ m ih =>
      intro n k hm hn hK
      refine bX13_bits_4 ⟨fun q => ?_, fun q => ?_⟩
      · have : n = 0 := (nI_eq (b := 0) (by omega) (by omega)).mp q
        subst this
        exact hK
      · have hn0 : n ≠ 0 := fun e => q (by rw [e]; rfl)
        have hk := k8_kern n hn hn0
        rw [nIm1 (by omega), nI_and, nI_1]
        exact ih _ (k + 1) (by omega) (by omega) (by rw [show k + 1 + pc8 (n &&& (n - 1)) = k + pc8 n by omega]; exact hK)
  exact key n n 0 (by omega) hn (by rw [Nat.zero_add]; exact h)
/-- who is taught by the master of code c -/
theorem m_pupilsOf {c : Nat} {K : KI} (hC : EnMC I J sc L) (hV : EnV I sc s) (hc0 : c ≠ 0) (hc : c ≤ 8) (h : K (nI (msk (fun k => s 0 k = c) 8)) I J) : CalI wM (d + 1) mX13_pupilsOf [.ref 0, .int (mI c)] I J K := by
  have hP := hV.2.2.1
  refine Cal.of (by decide) (Nat.le_of_ble_eq_true rfl) (bX13_pupilsOf_0 ?_)
  have key : ∀ n k, k + n = sc 0 1 → GoI wM (d + 1) mX13_pupilsOf 4 [(0, .ref 0), (1, .int (mI c)), (2, .int (nI (msk (fun k => s 0 k = c) k))), (3, .int (nI k))] [] I J K := by
    intro n
    induction n with
    | zero =>
      intro k hk
      obtain rfl : k = sc 0 1 := by omega
      refine bX13_pupilsOf_4 (m_pm hC ⟨fun _ => ?_, fun q => absurd (nI_le (Nat.le_refl _) (by omega)) q⟩)
      rw [← msk_8 hP (fun k h1 h2 => ?_)]
      · exact h
      · have := ((hV.2.1.1 k h2).2.2.2.2.2 h1).1
        simp [this]; omega
    | succ n ih =>
      intro k hk
      refine bX13_pupilsOf_4 (m_pm hC ⟨fun q => absurd ((nI_leI (by omega) (by omega)).mp q) (by omega), fun _ => m_masterOf hV (by omega) ?_⟩)
      have hb := (hV.b (p := k) (by omega)).1
      have e1 : mI (s 0 k) = mI c ↔ s 0 k = c := by
        obtain ⟨c', rfl⟩ : ∃ c', c = c' + 1 := ⟨c - 1, by omega⟩
        rw [mI_s, mI_eq hb (by omega)]
      rw [e1, nI_1]
      refine ⟨fun q => ?_, fun q => ?_⟩
      · rw [msk_no _ (by simpa using q)]
        exact ih (k + 1) (by omega)
      · rw [msk_or _ (by omega) (by simpa using q)]
        exact ih (k + 1) (by omega)
  exact key (sc 0 1) 0 (by omega)
/-- how many hold a fact so -/
def cnF (s : Sx) (i f : Nat) : Nat → Nat
  | 0 => 0
  | n + 1 => cnF s i f n + bq (s i n) f
theorem cnF_le (s : Sx) (i f : Nat) : ∀ n, cnF s i f n ≤ n
  | 0 => by simp [cnF]
  | n + 1 => by have := cnF_le s i f n; have := bq01 (s i n) f; simp only [cnF]; omega
theorem msk_pc8 (q : Nat → Bool) : pc8 (msk q 8) = (if q 0 then 1 else 0) + (if q 1 then 1 else 0) + (if q 2 then 1 else 0) + (if q 3 then 1 else 0) + (if q 4 then 1 else 0) + (if q 5 then 1 else 0) + (if q 6 then 1 else 0) + (if q 7 then 1 else 0) := by
  unfold pc8
  rw [msk_bq _ 8 0 (by omega), msk_bq _ 8 1 (by omega), msk_bq _ 8 2 (by omega), msk_bq _ 8 3 (by omega), msk_bq _ 8 4 (by omega), msk_bq _ 8 5 (by omega), msk_bq _ 8 6 (by omega), msk_bq _ 8 7 (by omega)]
theorem bq_if (n j : Nat) : (if decide (bq n j = 1) = true then 1 else 0) = bq n j := by rcases bq01 n j with e | e <;> simp [e]
theorem cnF_who8 (s : Sx) (i f : Nat) : cnF s i f 8 = pc8 (who s i f) := by
  unfold who
  rw [msk_pc8]
  simp only [bq_if, cnF]
  omega
theorem cnF_P (s : Sx) (i f P : Nat) (h : ∀ k, P ≤ k → k < 8 → bq (s i k) f = 0) : ∀ n, P + n ≤ 8 → cnF s i f (P + n) = cnF s i f P
  | 0, _ => rfl
  | n + 1, hn => by
    show cnF s i f (P + n) + bq (s i (P + n)) f = _
    rw [h (P + n) (by omega) (by omega), cnF_P s i f P h n (by omega)]
    rfl
theorem cnF_who {i f : Nat} (hV : EnV I sc s) (hi : i = 1 ∨ i = 2) : cnF s i f (sc 0 1) = pc8 (who s i f) := by
  have hP := hV.2.2.1
  rw [← cnF_who8, show 8 = sc 0 1 + (8 - sc 0 1) by omega]
  refine (cnF_P s i f (sc 0 1) (fun k h1 h2 => ?_) _ (by omega)).symm
  have := ((hV.2.1.1 k h2).2.2.2.2.2 h1)
  rcases hi with rfl | rfl
  · rw [this.2.1]; simp [bq]
  · rw [this.2.2]; simp [bq]
theorem m_rightMany {K : KI} (hC : EnMC I J sc L) (hV : EnV I sc s) (hf : f < 8) (h : K (nI (pc8 (who s 1 f))) I J) : CalI wM (d + 1) mX13_rightMany [.ref 0, .int (nI f)] I J K := by
  have hP := hV.2.2.1
  refine Cal.of (by decide) (Nat.le_of_ble_eq_true rfl) (bX13_rightMany_0 ?_)
  have key : ∀ n k, k + n = sc 0 1 → GoI wM (d + 1) mX13_rightMany 4 [(0, .ref 0), (1, .int (nI f)), (2, .int (nI (cnF s 1 f k))), (3, .int (nI k))] [] I J K := by
    intro n
    induction n with
    | zero =>
      intro k hk
      obtain rfl : k = sc 0 1 := by omega
      refine bX13_rightMany_4 (m_pm hC ⟨fun _ => by rw [cnF_who hV (Or.inl rfl)]; exact h, fun q => absurd (nI_le (Nat.le_refl _) (by omega)) q⟩)
    | succ n ih =>
      intro k hk
      refine bX13_rightMany_4 (m_pm hC ⟨fun q => absurd ((nI_leI (by omega) (by omega)).mp q) (by omega), fun _ => m_rightOf hV (by omega) ?_⟩)
      rw [k8_bit _ (hV.b (p := k) (by omega)).2.1 f hf, nI_add, nI_1]
      rintro _ rfl
      exact ih (k + 1) (by omega)
  exact key (sc 0 1) 0 (by omega)
theorem m_wrongMany {K : KI} (hC : EnMC I J sc L) (hV : EnV I sc s) (hf : f < 8) (h : K (nI (pc8 (who s 2 f))) I J) : CalI wM (d + 1) mX13_wrongMany [.ref 0, .int (nI f)] I J K := by
  have hP := hV.2.2.1
  refine Cal.of (by decide) (Nat.le_of_ble_eq_true rfl) (bX13_wrongMany_0 ?_)
  have key : ∀ n k, k + n = sc 0 1 → GoI wM (d + 1) mX13_wrongMany 4 [(0, .ref 0), (1, .int (nI f)), (2, .int (nI (cnF s 2 f k))), (3, .int (nI k))] [] I J K := by
    intro n
    induction n with
    | zero =>
      intro k hk
      obtain rfl : k = sc 0 1 := by omega
      refine bX13_wrongMany_4 (m_pm hC ⟨fun _ => by rw [cnF_who hV (Or.inr rfl)]; exact h, fun q => absurd (nI_le (Nat.le_refl _) (by omega)) q⟩)
    | succ n ih =>
      intro k hk
      refine bX13_wrongMany_4 (m_pm hC ⟨fun q => absurd ((nI_leI (by omega) (by omega)).mp q) (by omega), fun _ => m_wrongOf hV (by omega) ?_⟩)
      rw [k8_bit _ (hV.b (p := k) (by omega)).2.2.1 f hf, nI_add, nI_1]
      rintro _ rfl
      exact ih (k + 1) (by omega)
  exact key (sc 0 1) 0 (by omega)
theorem nI_iI (n : Nat) : nI n = iI (n : Int) := (iI_n n).symm
theorem mrk1 {a b : Nat} {w : Nat} (ha : a = 0 ∨ a = 1) (hb : b = 0 ∨ b = 1) (hw : w ≤ 9) (hab : ¬ (a = 1 ∧ b = 1)) {z : Int} (hz : -1000 ≤ z ∧ z ≤ 1000) : iI z + nI w * (nI a - nI b) = iI (z + (if a = 1 then (w : Int) else if b = 1 then -(w : Int) else 0)) := by
  have e : nI w * (nI a - nI b) = iI (if a = 1 then (w : Int) else if b = 1 then -(w : Int) else 0) := by
    have h9 : ∀ w, w < 10 → nI w * (nI 0 - nI 0) = iI 0 ∧ nI w * (nI 1 - nI 0) = iI w ∧ nI w * (nI 0 - nI 1) = iI (-w) := by decide +kernel
    have := h9 w (by omega)
    rcases ha with rfl | rfl <;> rcases hb with rfl | rfl
    · simpa using this.1
    · simpa using this.2.2
    · simpa using this.2.1
    · exact absurd ⟨rfl, rfl⟩ hab
  rw [e]
  apply i32_ext
  rw [Jvm.Kit.i32_add, iI_t, iI_t, iI_t] <;> (try rw [iI_t, iI_t]) <;> (try split) <;> (try split) <;> omega
theorem m_marksOf {K : KI} (hC : EnMC I J sc L) (hV : EnV I sc s) (hp : p < sc 0 1) (h : K (iI (mrk sc s p)) I J) : CalI wM (d + 1) mX13_marksOf [.ref 0, .int (nI p)] I J K := by
  have hP := hV.2.2.1
  have hF := hV.2.2.2.1
  have hb := hV.b (p := p) (by omega)
  have hx := (hV.2.1.1 p (by omega)).2.2.2.1
  refine Cal.of (by decide) (Nat.le_of_ble_eq_true rfl) (bX13_marksOf_0 ?_)
  have key : ∀ n k, k + n = sc 0 0 → GoI wM (d + 1) mX13_marksOf 4 [(0, .ref 0), (1, .int (nI p)), (2, .int (iI (mrkN sc s p k))), (3, .int (nI k))] [] I J K := by
    intro n
    induction n with
    | zero =>
      intro k hk
      obtain rfl : k = sc 0 0 := by omega
      exact bX13_marksOf_4 (m_fm hC ⟨fun _ => h, fun q => absurd (nI_le (Nat.le_refl _) (by omega)) q⟩)
    | succ n ih =>
      intro k hk
      have hw := hC.2.2.2.2.2.1 k (by omega)
      refine bX13_marksOf_4 (m_fm hC ⟨fun q => absurd ((nI_leI (by omega) (by omega)).mp q) (by omega), fun _ => ⟨by rw [ix8]; exact vp_in_nI (by omega) (by omega), m_rightOf hV hp (m_wrongOf hV hp ?_)⟩⟩)
      rw [k8_bit _ hb.2.1 k (by omega), k8_bit _ hb.2.2.1 k (by omega), ix8, nI_clamp (by omega), hw.2.2.1, nI_1]
      have hbd := mrkN_b (sc := sc) (s := s) (p := p) (n := k) (fun j hj => (hC.2.2.2.2.2.1 j (by omega)).2.2.2)
      rw [mrk1 (bq01 _ _) (bq01 _ _) hw.2.2.2 (hx k (by omega)) (by omega)]
      rintro _ rfl
      have e : mrkN sc s p (k + 1) = mrkN sc s p k + (if bq (s 1 p) k = 1 then (sc 2 k : Int) else if bq (s 2 p) k = 1 then -(sc 2 k : Int) else 0) := by
        simp only [mrkN, bel]
        rcases bq01 (s 1 p) k with e1 | e1 <;> rcases bq01 (s 2 p) k with e2 | e2 <;> simp [e1, e2]
      rw [← e]
      exact ih (k + 1) (by omega)
  exact key (sc 0 0) 0 (by omega)
end MB

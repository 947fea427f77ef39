/-! more of State: bits, believe, isAbove, pupilsOf, lessonsFor, copyFrom, keep -/
theorem bq_tb (n j : Nat) : bq n j = if n.testBit j then 1 else 0 := by
  unfold bq
  rw [Nat.testBit_eq_decide_div_mod_eq]
  by_cases h : n / 2 ^ j % 2 = 1
  · simp [h]
  · simp [h]; omega
theorem bq_or (a b j : Nat) : bq (a ||| b) j = if bq a j = 1 ∨ bq b j = 1 then 1 else 0 := by
  rw [bq_tb, bq_tb, bq_tb, Nat.testBit_or]
  cases a.testBit j <;> cases b.testBit j <;> simp
theorem bq_and (a b j : Nat) : bq (a &&& b) j = if bq a j = 1 ∧ bq b j = 1 then 1 else 0 := by
  rw [bq_tb, bq_tb, bq_tb, Nat.testBit_and]
  cases a.testBit j <;> cases b.testBit j <;> simp
theorem nI_or (a b : Nat) : nI a ||| nI b = nI (a ||| b) := by
  apply Int32.toBitVec_inj.mp
  simp [nI, BitVec.ofNat_or]
theorem nI_and (a b : Nat) : nI a &&& nI b = nI (a &&& b) := by
  apply Int32.toBitVec_inj.mp
  simp [nI, BitVec.ofNat_and]
theorem nI_not8 : ∀ n, n < 256 → ∀ m, m < 256 → nI m &&& (nI n ^^^ (-1)) = nI (m &&& (255 - n)) := by
  intro n hn m hm
  have h1 : ∀ n, n < 256 → (255 : Int32) &&& (nI n ^^^ (-1)) = nI (255 - n) := by decide +kernel
  have h2 : ∀ m, m < 256 → nI m = nI m &&& (255 : Int32) := by decide +kernel
  rw [h2 m hm, Int32.and_assoc, h1 n hn, nI_and]
theorem bq_not8 : ∀ n, n < 256 → ∀ j, j < 8 → bq (255 - n) j = 1 - bq n j := by decide +kernel
theorem or_lt8 {a b : Nat} (ha : a < 256) (hb : b < 256) : a ||| b < 256 := Nat.or_lt_two_pow (n := 8) ha hb
theorem and_lt8 {a b : Nat} (ha : a < 256) : a &&& b < 256 := Nat.lt_of_le_of_lt Nat.and_le_left ha
theorem bq_lo {n j : Nat} (h : n < 2 ^ j) : bq n j = 0 := by
  unfold bq
  rw [Nat.div_eq_of_lt h]
/-- what one believes: 0 nothing, 1 rightly, 2 wrongly -/
def bel (s : Sx) (p f : Nat) : Nat := if bq (s 1 p) f = 1 then 1 else if bq (s 2 p) f = 1 then 2 else 0
def blv (s : Sx) (p f b : Nat) : Sx := up (up s 1 p (if b = 1 then bs (bz (s 1 p) f) f else bz (s 1 p) f)) 2 p (if b = 2 then bs (bz (s 2 p) f) f else bz (s 2 p) f)
/-- c: a master's code; is u among the masters from there on, within n steps? -/
def anc (s : Sx) (u : Nat) : Nat → Nat → Bool
  | 0, _ => false
  | n + 1, c => if c = 0 then false else if c = u + 1 then true else anc s u n (s 0 (c - 1))
/-- a mask out of a test -/
def msk (p : Nat → Bool) : Nat → Nat
  | 0 => 0
  | n + 1 => msk p n + (if p n then 2 ^ n else 0)
theorem msk_lt (p : Nat → Bool) : ∀ n, msk p n < 2 ^ n
  | 0 => by simp [msk]
  | n + 1 => by
    have := msk_lt p n
    simp only [msk]
    split <;> rw [Nat.pow_succ] <;> omega
theorem msk_bq (p : Nat → Bool) : ∀ n j, j < n → bq (msk p n) j = if p j then 1 else 0
  | 0, j, h => absurd h (by omega)
  | n + 1, j, h => by
    have hl := msk_lt p n
    simp only [msk]
    by_cases hj : j = n
    · subst hj
      unfold bq
      split
      · rw [Nat.add_div_right _ (Nat.two_pow_pos j), Nat.div_eq_of_lt hl]
      · rw [Nat.add_zero, Nat.div_eq_of_lt hl]
    · have hjn : j < n := by omega
      rw [← msk_bq p n j hjn]
      split
      · unfold bq
        obtain ⟨e, rfl⟩ : ∃ e, n = j + 1 + e := ⟨n - j - 1, by omega⟩
        rw [show 2 ^ (j + 1 + e) = 2 ^ j * (2 * 2 ^ e) by rw [Nat.pow_add, Nat.pow_succ, Nat.mul_assoc], Nat.add_mul_div_left _ _ (Nat.two_pow_pos j)]
        omega
      · rfl
theorem msk_or (p : Nat → Bool) {k : Nat} (hk : k < 8) (h : p k = true) : nI (msk p k) ||| (1 <<< (nI k &&& 31)) = nI (msk p (k + 1)) := by
  have hl := msk_lt p k
  have h2 : 2 ^ k ≤ 128 := by
    have : 2 ^ k ≤ 2 ^ 7 := Nat.pow_le_pow_right (by omega) (by omega)
    omega
  rw [k8_set _ (by omega) k hk]
  simp [bs, bq_lo hl, msk, h]
theorem msk_no (p : Nat → Bool) {k : Nat} (h : p k = false) : nI (msk p k) = nI (msk p (k + 1)) := by simp [msk, h]
theorem or0 (x : Int32) : x ||| 0 = x := by simp
section SP
variable {d : Nat} {I : Ii} {J : Jj}
theorem mI_eq {c u : Nat} (hc : c ≤ 8) (hu : u < 8) : mI c = nI u ↔ c = u + 1 := by
  unfold mI
  split
  · next h => subst h; exact ⟨fun q => absurd q.symm (nI_ne_m1 (by omega)), fun q => by omega⟩
  · next h => rw [nI_eq (by omega) (by omega)]; omega
theorem mI_m1 {c : Nat} (hc : c ≤ 8) : mI c = -1 ↔ c = 0 := by
  unfold mI
  split
  · next h => simp [h]
  · next h => exact ⟨fun q => absurd q (nI_ne_m1 (by omega)), fun q => absurd q h⟩
theorem s_isAbove {o u l : Nat} {s : Sx} {K : KI} (ho : z_Ob wX o 9) (hs : EnS I o s) (hu : u < 8) (hl : l < 8) (h : K (if anc s u 8 (s 0 l) then 1 else 0) I J) : CalI wX (d + 2) mX9_isAbove [.ref o, .int (nI u), .int (nI l)] I J K := by
  refine Cal.of (by decide) (Nat.le_of_ble_eq_true rfl) (bX9_isAbove_0 ho (s_masterOf ho hs hl ?_))
  have key : ∀ n k c, k + n = 8 → c ≤ 8 → K (if anc s u n c then 1 else 0) I J → GoI wX (d + 1 + 1) mX9_isAbove 9 [(0, .ref o), (1, .int (nI u)), (3, .int (mI c)), (4, .int (nI k))] [] I J K := by
    intro n
    induction n with
    | zero =>
      intro k c hk hc hK
      refine bX9_isAbove_9 ho ⟨fun _ => hK, fun q => absurd (nI_le (a := 8) (b := k) (by omega) (by omega)) q⟩
    | succ n ih =>
      intro k c hk hc hK
      refine bX9_isAbove_9 ho ⟨fun q => absurd ((nI_leI (a := 8) (by decide) (by omega)).mp q) (by omega), fun _ => ⟨fun q => ?_, fun q => ⟨fun q2 => ?_, fun q2 => ?_⟩⟩⟩
      · rw [(mI_m1 hc)] at q
        subst q
        exact hK
      · rw [mI_m1 hc] at q
        rw [mI_eq hc hu] at q2
        have e : mI c = nI (c - 1) := by simp [mI, q]
        rw [e]
        refine s_masterOf ho hs (by omega) ?_
        rw [nI_1]
        refine ih (k + 1) _ (by omega) (hs.1 (c - 1) (by omega)).2 ?_
        simpa [anc, q, q2] using hK
      · rw [mI_eq hc hu] at q2
        simpa [anc, q2] using hK
  exact key 8 0 _ (by omega) (hs.1 l hl).2 h
theorem s_pupilsOf {o m : Nat} {s : Sx} {K : KI} (ho : z_Ob wX o 9) (hs : EnS I o s) (hm : m < 8) (h : K (nI (msk (fun k => s 0 k = m + 1) 8)) I J) : CalI wX d mX9_pupilsOf [.ref o, .int (nI m)] I J K := by
  refine Cal.of (by decide) (Nat.le_of_ble_eq_true rfl) (bX9_pupilsOf_0 ho ?_)
  have key : ∀ n k, k + n = 8 → GoI wX d mX9_pupilsOf 4 [(0, .ref o), (1, .int (nI m)), (2, .int (nI (msk (fun k => s 0 k = m + 1) k))), (3, .int (nI k))] [] I J K := by
    intro n
    induction n with
    | zero =>
      intro k hk
      obtain rfl : k = 8 := by omega
      exact bX9_pupilsOf_4 ho ⟨fun _ => h, fun q => absurd (by decide) q⟩
    | succ n ih =>
      intro k hk
      refine bX9_pupilsOf_4 ho ⟨fun q => absurd ((nI_leI (a := 8) (by decide) (by omega)).mp q) (by omega), fun _ => ⟨vp_in_nI (by omega) (by omega), ?_⟩⟩
      rw [nI_clamp (by omega), (hs.1 k (by omega)).1, mI_eq (hs.1 k (by omega)).2 hm, nI_1]
      refine ⟨fun q => ?_, fun q => ?_⟩
      · rw [or0, msk_no _ (by simpa using q)]
        exact ih (k + 1) (by omega)
      · rw [msk_or _ (by omega) (by simpa using q)]
        exact ih (k + 1) (by omega)
  exact key 8 0 (by omega)
/-- what a pupil can learn of a master, as a mask -/
def opn (s : Sx) (p m : Nat) : Nat := ((s 1 m ||| s 2 m) &&& (255 - (s 1 p ||| s 2 p))) ||| (s 2 p &&& s 1 m)
theorem s_lessonsFor {o p m : Nat} {s : Sx} {K : KI} (ho : z_Ob wX o 9) (hs : EnS I o s) (hp : p < 8) (hm : m < 8) (h : K (nI (opn s p m)) I J) : CalI wX (d + 1) mX9_lessonsFor [.ref o, .int (nI p), .int (nI m)] I J K := by
  refine Cal.of (by decide) (Nat.le_of_ble_eq_true rfl) (bX9_lessonsFor_0 ho (s_isPlace hp ⟨fun q => absurd q (by decide), fun _ => s_isPlace hm ⟨fun _ => ⟨vp_in_nI hp (by omega), ?_⟩, fun q => absurd q (by decide)⟩⟩))
  intro y e
  refine ⟨vp_in_nI hm (by omega), ?_⟩
  rw [e, nI_clamp (by omega), nI_clamp (by omega), (hs.2.1 p hp).1, (hs.2.1 m hm).1, (hs.2.2.1 p hp).1, (hs.2.2.1 m hm).1, nI_or, nI_or, nI_not8 _ (or_lt8 (hs.2.1 p hp).2 (hs.2.2.1 p hp).2) _ (or_lt8 (hs.2.1 m hm).2 (hs.2.2.1 m hm).2), nI_and, nI_or]
  exact h
theorem s_beliefOf {o p f : Nat} {s : Sx} {K : KI} (ho : z_Ob wX o 9) (hs : EnS I o s) (hp : p < 8) (hf : f < 8) (h : K (nI (bel s p f)) I J) : CalI wX (d + 1) mX9_beliefOf [.ref o, .int (nI p), .int (nI f)] I J K := by
  refine Cal.of (by decide) (Nat.le_of_ble_eq_true rfl) (bX9_beliefOf_0 ho (s_isPlace hp ⟨fun _ => ⟨vp_in_nI hp (by omega), ?_⟩, fun q => absurd q (by decide)⟩))
  rw [nI_clamp (by omega), (hs.2.1 p hp).1]
  refine s_hasBit (hs.2.1 p hp).2 hf ?_
  unfold bel at h
  rcases bq01 (s 1 p) f with e | e
  · rw [e] at h ⊢
    refine ⟨fun _ => ?_, fun q => absurd rfl q⟩
    rw [(hs.2.2.1 p hp).1]
    refine s_hasBit (hs.2.2.1 p hp).2 hf ?_
    rcases bq01 (s 2 p) f with e2 | e2
    · rw [e2] at h ⊢
      exact ⟨fun _ => h, fun q => absurd rfl q⟩
    · rw [e2] at h ⊢
      exact ⟨fun q => absurd q (by decide), fun _ => h⟩
  · rw [e] at h ⊢
    exact ⟨fun q => absurd q (by decide), fun _ => h⟩
end SP

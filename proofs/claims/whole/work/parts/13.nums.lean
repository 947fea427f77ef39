/-! numbers: bits of small masks, small ints -/
theorem u2_at (I : Ii) (o k : Nat) (v : Int32) : u2 I o k v o k = v := by simp [u2]
theorem u2_o {I : Ii} {o k a j : Nat} {v : Int32} (h : a ≠ o) : u2 I o k v a j = I a j := by simp [u2, h]
theorem u2_k {I : Ii} {o k a j : Nat} {v : Int32} (h : j ≠ k) : u2 I o k v a j = I a j := by simp [u2, h]
theorem w2_at (J : Jj) (o k : Nat) (v : Int64) : w2 J o k v o k = v := by simp [w2]
theorem w2_o {J : Jj} {o k a j : Nat} {v : Int64} (h : a ≠ o) : w2 J o k v a j = J a j := by simp [w2, h]
theorem w2_k {J : Jj} {o k a j : Nat} {v : Int64} (h : j ≠ k) : w2 J o k v a j = J a j := by simp [w2, h]
/-- bit j of n -/
def bq (n j : Nat) : Nat := n / 2 ^ j % 2
/-- how many of the first eight bits -/
def pc8 (n : Nat) : Nat := bq n 0 + bq n 1 + bq n 2 + bq n 3 + bq n 4 + bq n 5 + bq n 6 + bq n 7
/-- bit j set, bit j away -/
def bs (n j : Nat) : Nat := if bq n j = 1 then n else n + 2 ^ j
def bz (n j : Nat) : Nat := if bq n j = 1 then n - 2 ^ j else n
theorem bq01 (n j : Nat) : bq n j = 0 ∨ bq n j = 1 := by unfold bq; omega
theorem k8_bit : ∀ n, n < 256 → ∀ j, j < 8 → (nI n >>> (nI j &&& 31)) &&& 1 = nI (bq n j) := by decide +kernel
theorem k8_set : ∀ n, n < 256 → ∀ j, j < 8 → nI n ||| (1 <<< (nI j &&& 31)) = nI (bs n j) := by decide +kernel
theorem k8_clr : ∀ n, n < 256 → ∀ j, j < 8 → nI n &&& ((1 <<< (nI j &&& 31)) ^^^ (-1)) = nI (bz n j) := by decide +kernel
theorem k8_bsl : ∀ n, n < 256 → ∀ j, j < 8 → bs n j < 256 ∧ bz n j < 256 := by decide +kernel
theorem k8_bsq : ∀ n, n < 256 → ∀ j, j < 8 → ∀ i, i < 8 → bq (bs n j) i = (if i = j then 1 else bq n i) ∧ bq (bz n j) i = (if i = j then 0 else bq n i) := by decide +kernel
def bcx (v : Int32) : Int32 :=
  let y1 := v - (((v.toUInt32 >>> ((1 : Int32).toUInt32 &&& Int32.toUInt32 31)).toInt32) &&& 1431655765)
  let y2 := (y1 &&& 858993459) + (((y1.toUInt32 >>> ((2 : Int32).toUInt32 &&& Int32.toUInt32 31)).toInt32) &&& 858993459)
  let y3 := (y2 + ((y2.toUInt32 >>> ((4 : Int32).toUInt32 &&& Int32.toUInt32 31)).toInt32)) &&& 252645135
  let y4 := y3 + ((y3.toUInt32 >>> ((8 : Int32).toUInt32 &&& Int32.toUInt32 31)).toInt32)
  let y5 := y4 + ((y4.toUInt32 >>> ((16 : Int32).toUInt32 &&& Int32.toUInt32 31)).toInt32)
  y5 &&& 63
theorem bcx_ok : ∀ n, n < 256 → bcx (nI n) = nI (pc8 n) := by decide +kernel
theorem pc8_le (n : Nat) : pc8 n ≤ 8 := by
  have h := fun j => bq01 n j
  unfold pc8
  have := h 0; have := h 1; have := h 2; have := h 3; have := h 4; have := h 5; have := h 6; have := h 7
  omega
/-- two masks are one if their bits are -/
theorem k8_ext : ∀ n, n < 256 → n = bq n 0 + 2 * bq n 1 + 4 * bq n 2 + 8 * bq n 3 + 16 * bq n 4 + 32 * bq n 5 + 64 * bq n 6 + 128 * bq n 7 := by decide +kernel
theorem b8_ext {m n : Nat} (hm : m < 256) (hn : n < 256) (h : ∀ j, j < 8 → bq m j = bq n j) : m = n := by
  rw [k8_ext m hm, k8_ext n hn, h 0 (by omega), h 1 (by omega), h 2 (by omega), h 3 (by omega), h 4 (by omega), h 5 (by omega), h 6 (by omega), h 7 (by omega)]
/-- masters: 0 is none -/
def mI (c : Nat) : Int32 := if c = 0 then -1 else nI (c - 1)
theorem mI_0 : mI 0 = -1 := rfl
theorem mI_s (m : Nat) : mI (m + 1) = nI m := by simp [mI]
theorem nI_ne_m1 {j : Nat} (h : j < 2 ^ 31) : ¬ nI j = -1 := by
  intro q
  have := congrArg Int32.toInt q
  rw [nI_toInt h] at this
  have h3 : ((-1 : Int32)).toInt = -1 := by decide
  omega

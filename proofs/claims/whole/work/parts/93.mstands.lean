/-! the reference: a school stands -/
def cpr (I : Ii) (S : Nat → Bool) (off n : Nat) : Ii := fun b k => if S b = true ∧ off ≤ k ∧ k < off + n then I b (k - off) else I b k
theorem cpr_0 (I : Ii) (S : Nat → Bool) (off : Nat) : cpr I S off 0 = I := by
  funext b k
  unfold cpr
  rw [if_neg (by omega)]
theorem cpr_lo {I : Ii} {S : Nat → Bool} {off n b k : Nat} (h : k < off) : cpr I S off n b k = I b k := by
  unfold cpr; rw [if_neg (by omega)]
theorem cpr_no {I : Ii} {S : Nat → Bool} {off n b : Nat} (h : S b = false) : cpr I S off n b = I b := by
  funext k
  unfold cpr; rw [if_neg (fun z => by rw [h] at z; exact absurd z.1 (by decide))]
theorem cpr_at {I : Ii} {S : Nat → Bool} {off n b k : Nat} (h : S b = true) (hk : k < n) : cpr I S off n b (off + k) = I b k := by
  unfold cpr; rw [if_pos ⟨h, by omega, by omega⟩, show off + k - off = k by omega]
theorem cpr_s1 {I : Ii} {off i a : Nat} (h : i < off) : u2 (cpr I (fun b => decide (b = a)) off i) a (off + i) (cpr I (fun b => decide (b = a)) off i a i) = cpr I (fun b => decide (b = a)) off (i + 1) := by
  funext b k
  rw [cpr_lo h]
  by_cases e : b = a
  · subst e
    by_cases e2 : k = off + i
    · subst e2; rw [u2_at, cpr_at (by simp) (by omega)]
    · rw [u2_k e2]
      unfold cpr
      by_cases e3 : off ≤ k ∧ k < off + i
      · rw [if_pos ⟨by simp, e3⟩, if_pos ⟨by simp, by omega⟩]
      · rw [if_neg (fun z => e3 z.2), if_neg (fun z => e3 (by omega))]
  · rw [u2_row e, cpr_no (by simp [e]), cpr_no (by simp [e])]
def R34 (b : Nat) : Bool := decide (b = 33 ∨ b = 34)
def R389 (b : Nat) : Bool := decide (b = 38 ∨ b = 39 ∨ b = 40)
theorem cpr_one {I : Ii} {S : Nat → Bool} {off i b : Nat} : cpr I S off (i + 1) b = if S b = true then (fun k => if k = off + i then I b i else cpr I S off i b k) else cpr I S off i b := by
  funext k
  cases e : S b with
  | false => rw [if_neg (by decide), cpr_no e, cpr_no e]
  | true =>
    rw [if_pos rfl]
    by_cases e2 : k = off + i
    · subst e2; rw [cpr_at e (by omega)]; simp
    · simp only [e2, if_false]
      unfold cpr
      by_cases e3 : off ≤ k ∧ k < off + i
      · rw [if_pos ⟨e, by omega⟩, if_pos ⟨e, e3⟩]
      · rw [if_neg (fun z => e3 (by omega)), if_neg (fun z => e3 z.2)]
theorem u2_fun {I : Ii} {a j : Nat} {v : Int32} : u2 I a j v a = fun k => if k = j then v else I a k := by
  funext k
  by_cases e : k = j
  · subst e; rw [u2_at]; simp
  · rw [u2_k e]; simp [e]
theorem cpr_s2 {I : Ii} {i : Nat} (h : i < 8) {M : Ii} (hM : M = cpr I R34 8 i) : u2 (u2 M 33 (8 + i) (M 33 i)) 34 (8 + i) (u2 M 33 (8 + i) (M 33 i) 34 i) = cpr I R34 8 (i + 1) := by
  subst hM
  rw [u2_row (show 34 ≠ 33 by omega), cpr_lo h, cpr_lo h]
  funext b
  rw [cpr_one]
  by_cases e4 : b = 34
  · subst e4
    rw [if_pos (by decide), u2_fun, u2_row (by omega)]
  · rw [u2_row e4]
    by_cases e3 : b = 33
    · subst e3
      rw [if_pos (by decide), u2_fun]
    · rw [u2_row e3, if_neg (by simp [R34, e3, e4])]
theorem cpr_s3 {I : Ii} {i : Nat} (h : i < 3) {M : Ii} (hM : M = cpr I R389 3 i) : u2 (u2 (u2 M 38 (3 + i) (M 38 i)) 39 (3 + i) (u2 M 38 (3 + i) (M 38 i) 39 i)) 40 (3 + i) (u2 (u2 M 38 (3 + i) (M 38 i)) 39 (3 + i) (u2 M 38 (3 + i) (M 38 i) 39 i) 40 i) = cpr I R389 3 (i + 1) := by
  subst hM
  rw [u2_row (show 40 ≠ 39 by omega), u2_row (show 40 ≠ 38 by omega), u2_row (show 39 ≠ 38 by omega), cpr_lo h, cpr_lo h, cpr_lo h]
  funext b
  rw [cpr_one]
  by_cases e4 : b = 40
  · subst e4
    rw [if_pos (by decide), u2_fun, u2_row (by omega), u2_row (by omega)]
  · rw [u2_row e4]
    by_cases e3 : b = 39
    · subst e3
      rw [if_pos (by decide), u2_fun, u2_row (by omega)]
    · rw [u2_row e3]
      by_cases e2 : b = 38
      · subst e2
        rw [if_pos (by decide), u2_fun]
      · rw [u2_row e2, if_neg (by simp [R389, e2, e3, e4])]
def cprJ (J : Jj) (n : Nat) : Jj := fun b k => if b = 32 ∧ 16 ≤ k ∧ k < 16 + n then J b (k - 16) else J b k
theorem cprJ_s {J : Jj} {i : Nat} (h : i < 16) : w2 (cprJ J i) 32 (16 + i) (cprJ J i 32 i) = cprJ J (i + 1) := by
  funext b k
  by_cases e : b = 32
  · subst e
    by_cases e2 : k = 16 + i
    · subst e2; rw [w2_at]; unfold cprJ; rw [if_neg (by omega), if_pos (by omega)]; congr 1; omega
    · rw [w2_k e2]
      unfold cprJ
      by_cases e3 : 16 ≤ k ∧ k < 16 + i
      · rw [if_pos ⟨rfl, e3⟩, if_pos ⟨rfl, by omega⟩]
      · rw [if_neg (fun z => e3 z.2), if_neg (fun z => e3 (by omega))]
  · rw [w2_o e]; unfold cprJ; rw [if_neg (fun z => e z.1), if_neg (fun z => e z.1)]
section MCC
variable {d : Nat} {I : Ii} {J : Jj} {g : Sx} {q z c : Nat} {D : Dr}
theorem m_stands {K : KV} (hD : EnDm I J D z) (h : ∀ I' J', EnMC I' J' D.1 D.2.1 → EnN (I' 42) (D.1 0 1) (lfQ D.1 D.2.2 (D.1 0 1)) → EnK (I' 42) (lfQ D.1 D.2.2 (D.1 0 1)) → (∀ a, a ≠ 0 → (a < 31 ∨ 42 < a) → I' a = I a) → (∀ k, k ≠ 60 → k ≠ 65 → I' 0 k = I 0 k) → I' 0 60 = 0 → I' 0 65 = 0 → (∀ a, a ≠ 32 → J' a = J a) → K I' J') : CalV wM d mX13_stands [.ref 0] I J K := by
  obtain ⟨⟨hk0, hk1, hkf, hkp⟩, ⟨hn2, hn3, hn4⟩, ⟨hl1, hl2, hl3⟩, hs1, hs2, hs3⟩ := hD
  -- the last loop
  have last : ∀ (IA : Ii) (JA : Jj), IA 31 1 = nI (D.1 0 1) → IA 38 1 = nI (D.1 0 3) → (∀ p, p < 8 → IA 35 p = nI (D.2.2 1 p) ∧ IA 36 p = nI (D.2.2 2 p) ∧ IA 37 p = mI (D.2.2 0 p)) → (∀ k, k < 132 → IA 42 k = 0) → EnMC IA JA D.1 D.2.1 → (∀ a, a ≠ 0 → (a < 31 ∨ 42 < a) → IA a = I a) → (IA 0 = I 0) → (∀ a, a ≠ 32 → JA a = J a) → GoV wM d mX13_stands 211 [(0, .ref 0), (1, .int (nI 0))] [] IA JA K := by
    intro IA JA a1 a8 as a42 aC ar a0 aj
    have key : ∀ n p (I1 : Ii), p + n = D.1 0 1 → (∀ a, a ≠ 42 → I1 a = IA a) → I1 42 0 = 0 → (∀ k, 5 * p < k → k < 132 → I1 42 k = 0) → (∀ j, j < p → I1 42 (1 + 5 * j) = mI (D.2.2 0 j) ∧ I1 42 (2 + 5 * j) = nI (D.2.2 1 j) ∧ I1 42 (3 + 5 * j) = nI (D.2.2 2 j) ∧ I1 42 (4 + 5 * j) = nI (D.1 0 3) ∧ I1 42 (5 + 5 * j) = 0) → GoV wM d mX13_stands 211 [(0, .ref 0), (1, .int (nI p))] [] I1 JA K := by
      intro n
      induction n with
      | zero =>
        intro p I1 hp r1 z0 zk hj
        obtain rfl : p = D.1 0 1 := by omega
        refine bX13_stands_211 ?_
        rw [show ((1 : Int32).toNatClampNeg) = 1 from rfl, r1 31 (by omega), a1]
        refine ⟨fun _ => h _ JA ?_ ?_ ?_ ?_ ?_ ?_ ?_ aj, fun y => absurd (nI_le (Nat.le_refl _) (by omega)) y⟩
        · exact aC.kept (fun a ha => by rw [u2_row (by omega), u2_row (by omega), r1 a (by omega)]) rfl
        · refine ⟨by rw [u2_row (by omega), u2_row (by omega), z0, show lfQ D.1 D.2.2 (D.1 0 1) 4 0 = D.2.2 4 0 by simp [lfQ], (hs3 0).2]; rfl, fun j hj2 => ?_⟩
          rw [u2_row (by omega), u2_row (by omega)]
          have l0 : lfQ D.1 D.2.2 (D.1 0 1) 0 j = D.2.2 0 j := by simp [lfQ]
          have l1 : lfQ D.1 D.2.2 (D.1 0 1) 1 j = D.2.2 1 j := by simp [lfQ]
          have l2 : lfQ D.1 D.2.2 (D.1 0 1) 2 j = D.2.2 2 j := by simp [lfQ]
          have l3 : lfQ D.1 D.2.2 (D.1 0 1) 3 j = D.1 0 3 := by simp [lfQ, hj2]
          have l4 : ∀ k, lfQ D.1 D.2.2 (D.1 0 1) 4 k = 0 := fun k => by simp [lfQ, (hs3 k).2]
          rw [l0, l1, l2, l3, l4, l4]
          obtain ⟨x1, x2, x3, x4, x5⟩ := hj j hj2
          exact ⟨x1, x2, x3, x4, by rw [x5, show bq 0 j = 0 by simp [bq]]; rfl⟩
        · have l4 : ∀ k, lfQ D.1 D.2.2 (D.1 0 1) 4 k = 0 := fun k => by simp [lfQ, (hs3 k).2]
          refine ⟨by rw [u2_row (by omega), u2_row (by omega), l4, zk 41 (by omega) (by omega)]; rfl, fun k hk => by rw [l4] at hk; exact absurd hk (by omega)⟩
        · intro a ha hb
          rw [u2_row ha, u2_row ha, r1 a (by omega)]; exact ar a ha hb
        · intro k k0 k5
          rw [u2_k k0, u2_k k5, r1 0 (by omega), a0]
        · exact u2_at _ _ _ _
        · rw [u2_k (by omega), u2_at]
      | succ n ih =>
        intro p I1 hp r1 z0 zk hj
        refine bX13_stands_211 ?_
        have c5 : (1 : Int32) + 5 * nI p = nI (1 + 5 * p) := ixP p
        rw [show ((1 : Int32).toNatClampNeg) = 1 from rfl, r1 31 (by omega), a1, c5, nI_1, nI_2, nI_3, nI_clamp (by omega), nI_clamp (by omega), nI_clamp (by omega), nI_clamp (by omega), nI_clamp (by omega), r1 37 (by omega), (as p (by omega)).2.2]
        refine ⟨fun y => absurd ((nI_leI (by omega) (by omega)).mp y) (by omega), fun _ => ⟨vp_in_nI (by omega) (by omega), vp_in_nI (by omega) (by omega), ?_⟩⟩
        rintro _ rfl
        refine ⟨vp_in_nI (by omega) (by omega), ?_⟩
        rintro _ rfl
        refine ⟨vp_in_nI (by omega) (by omega), ?_⟩
        rintro _ rfl
        refine ⟨vp_in_nI (by omega) (by omega), ?_⟩
        rw [nI_1]
        have e35 : u2 I1 42 (1 + 5 * p) (mI (D.2.2 0 p)) 35 p = nI (D.2.2 1 p) := by rw [u2_row (by omega), r1 35 (by omega)]; exact (as p (by omega)).1
        rw [e35]
        have e36 : u2 (u2 I1 42 (1 + 5 * p) (mI (D.2.2 0 p))) 42 (1 + 5 * p + 1) (nI (D.2.2 1 p)) 36 p = nI (D.2.2 2 p) := by rw [u2_row (by omega), u2_row (by omega), r1 36 (by omega)]; exact (as p (by omega)).2.1
        rw [e36]
        have e38 : u2 (u2 (u2 I1 42 (1 + 5 * p) (mI (D.2.2 0 p))) 42 (1 + 5 * p + 1) (nI (D.2.2 1 p))) 42 (1 + 5 * p + 2) (nI (D.2.2 2 p)) 38 1 = nI (D.1 0 3) := by rw [u2_row (by omega), u2_row (by omega), u2_row (by omega), r1 38 (by omega)]; exact a8
        rw [e38]
        refine ih (p + 1) _ (by omega) (fun a ha => by rw [u2_row ha, u2_row ha, u2_row ha, u2_row ha]; exact r1 a ha) (by rw [u2_k (by omega), u2_k (by omega), u2_k (by omega), u2_k (by omega)]; exact z0) (fun k k1 k2 => by rw [u2_k (by omega), u2_k (by omega), u2_k (by omega), u2_k (by omega)]; exact zk k (by omega) k2) (fun j hj2 => ?_)
        by_cases ej : j = p
        · subst ej
          refine ⟨?_, ?_, ?_, ?_, ?_⟩
          · rw [u2_k (by omega), u2_k (by omega), u2_k (by omega), u2_at]
          · rw [u2_k (by omega), u2_k (by omega), show 2 + 5 * j = 1 + 5 * j + 1 by omega, u2_at]
          · rw [u2_k (by omega), show 3 + 5 * j = 1 + 5 * j + 2 by omega, u2_at]
          · rw [show 4 + 5 * j = 1 + 5 * j + 3 by omega, u2_at]
          · rw [u2_k (by omega), u2_k (by omega), u2_k (by omega), u2_k (by omega)]; exact zk _ (by omega) (by omega)
        · rw [u2_k (by omega), u2_k (by omega), u2_k (by omega), u2_k (by omega), u2_k (by omega), u2_k (by omega), u2_k (by omega), u2_k (by omega), u2_k (by omega), u2_k (by omega), u2_k (by omega), u2_k (by omega), u2_k (by omega), u2_k (by omega), u2_k (by omega), u2_k (by omega), u2_k (by omega), u2_k (by omega), u2_k (by omega), u2_k (by omega)]
          exact hj j (by omega)
    exact key (D.1 0 1) 0 IA (by omega) (fun _ _ => rfl) (a42 0 (by omega)) (fun k _ hk => a42 k hk) (fun j hj => absurd hj (by omega))
  -- all is zero
  have zero : ∀ (IA : Ii) (JA : Jj), IA 31 1 = nI (D.1 0 1) → IA 38 1 = nI (D.1 0 3) → (∀ p, p < 8 → IA 35 p = nI (D.2.2 1 p) ∧ IA 36 p = nI (D.2.2 2 p) ∧ IA 37 p = mI (D.2.2 0 p)) → EnMC IA JA D.1 D.2.1 → (∀ a, a ≠ 0 → (a < 31 ∨ 42 < a) → IA a = I a) → (IA 0 = I 0) → (∀ a, a ≠ 32 → JA a = J a) → GoV wM d mX13_stands 189 [(0, .ref 0), (1, .int (nI 0))] [] IA JA K := by
    intro IA JA a1 a8 as aC ar a0 aj
    have key : ∀ n i (I1 : Ii), i + n = 132 → (∀ a, a ≠ 42 → I1 a = IA a) → (∀ k, k < i → I1 42 k = 0) → GoV wM d mX13_stands 189 [(0, .ref 0), (1, .int (nI i))] [] I1 JA K := by
      intro n
      induction n with
      | zero =>
        intro i I1 hi r1 zk
        obtain rfl : i = 132 := by omega
        refine bX13_stands_189 ⟨fun _ => ?_, fun y => absurd (by decide) y⟩
        exact last I1 JA (by rw [r1 31 (by omega)]; exact a1) (by rw [r1 38 (by omega)]; exact a8) (by rw [r1 35 (by omega), r1 36 (by omega), r1 37 (by omega)]; exact as) zk (aC.kept (fun a ha => r1 a (by omega)) rfl) (fun a ha hb => by rw [r1 a (by omega)]; exact ar a ha hb) (by rw [r1 0 (by omega)]; exact a0) aj
      | succ n ih =>
        intro i I1 hi r1 zk
        refine bX13_stands_189 ?_
        rw [show (132 : Int32) = nI 132 from rfl, nI_clamp (by omega), nI_1]
        refine ⟨fun y => absurd ((nI_leI (by omega) (by omega)).mp y) (by omega), fun _ => ⟨vp_in_nI (by omega) (by omega), ih (i + 1) _ (by omega) (fun a ha => by rw [u2_row ha]; exact r1 a ha) (fun k hk => ?_)⟩⟩
        by_cases ek : k = i
        · subst ek; exact u2_at _ _ _ _
        · rw [u2_k ek]; exact zk k (by omega)
    exact key 132 0 IA (by omega) (fun _ _ => rfl) (fun k hk => absurd hk (by omega))
  -- the codes
  generalize hM1 : cpr I (fun b => decide (b = 31)) 2 2 = M1
  generalize hM2 : cpr M1 R34 8 8 = M2
  generalize hM3 : cpr M2 R389 3 3 = M3
  have r1 : ∀ a, a ≠ 31 → M1 a = I a := fun a ha => by rw [← hM1]; exact cpr_no (by simp [ha])
  have r2 : ∀ a, a ≠ 33 → a ≠ 34 → M2 a = M1 a := fun a h3 h4 => by rw [← hM2]; exact cpr_no (by simp [R34, h3, h4])
  have r3 : ∀ a, a ≠ 38 → a ≠ 39 → a ≠ 40 → M3 a = M2 a := fun a h3 h4 h5 => by rw [← hM3]; exact cpr_no (by simp [R389, h3, h4, h5])
  have j16 : ∀ k, k < 16 → cprJ J 16 32 (16 + k) = J 32 k := fun k hk => by unfold cprJ; rw [if_pos ⟨rfl, by omega, by omega⟩, show 16 + k - 16 = k by omega]
  have jo : ∀ a, a ≠ 32 → cprJ J 16 a = J a := fun a ha => by funext k; unfold cprJ; rw [if_neg (fun y => ha y.1)]
  have s157 : GoV wM d mX13_stands 157 [(0, .ref 0), (1, .int (nI 0))] [] M3 (cprJ J 16) K := by
    have e50 : M3 0 50 = nI z := by rw [r3 0 (by omega) (by omega) (by omega), r2 0 (by omega) (by omega), r1 0 (by omega)]; exact hl3.1
    have key : ∀ n i, i + n = z → GoV wM d mX13_stands 157 [(0, .ref 0), (1, .int (nI i))] [] (cpr M3 (fun b => decide (b = 41)) 1600 i) (cprJ J 16) K := by
      intro n
      induction n with
      | zero =>
        intro i hi
        obtain rfl : i = z := by omega
        refine bX13_stands_157 ?_
        rw [cpr_no (b := 0) (by decide), e50]
        refine ⟨fun _ => ?_, fun y => absurd (nI_le (Nat.le_refl _) (by omega)) y⟩
        generalize hM4 : cpr M3 (fun b => decide (b = 41)) 1600 i = M4
        have r4 : ∀ a, a ≠ 41 → M4 a = M3 a := fun a ha => by rw [← hM4]; exact cpr_no (by simp [ha])
        have e31 : ∀ k, k < 2 → M4 31 (2 + k) = I 31 k ∧ M4 31 k = I 31 k := fun k hk => by
          rw [r4 31 (by omega), r3 31 (by omega) (by omega) (by omega), r2 31 (by omega) (by omega), ← hM1, cpr_at (by simp) hk, cpr_lo (by omega)]; exact ⟨rfl, rfl⟩
        have e33 : ∀ a k, (a = 33 ∨ a = 34) → k < 8 → M4 a (8 + k) = I a k := fun a k ha hk => by
          rw [r4 a (by omega), r3 a (by omega) (by omega) (by omega), ← hM2, cpr_at (by unfold R34; exact decide_eq_true ha) hk, r1 a (by omega)]
        have e38 : ∀ a k, (a = 38 ∨ a = 39 ∨ a = 40) → k < 3 → M4 a (3 + k) = I a k ∧ M4 a k = I a k := fun a k ha hk => by
          rw [r4 a (by omega), ← hM3, cpr_at (by unfold R389; exact decide_eq_true ha) hk, cpr_lo (by omega), r2 a (by omega) (by omega), r1 a (by omega)]; exact ⟨rfl, rfl⟩
        have e41 : ∀ k, k < i → M4 41 (1600 + k) = I 41 k := fun k hk => by
          rw [← hM4, cpr_at (by simp) hk, r3 41 (by omega) (by omega) (by omega), r2 41 (by omega) (by omega), r1 41 (by omega)]
        have er : ∀ a, (a < 31 ∨ a = 35 ∨ a = 36 ∨ a = 37 ∨ 41 < a) → M4 a = I a := fun a ha => by
          rw [r4 a (by omega), r3 a (by omega) (by omega) (by omega), r2 a (by omega) (by omega), r1 a (by omega)]
        refine zero M4 _ (by rw [(e31 1 (by omega)).2]; exact hk1.1) (by rw [(e38 38 1 (by omega) (by omega)).2]; exact hn3.1) (by rw [er 35 (by omega), er 36 (by omega), er 37 (by omega)]; exact hs1) ?_ (fun a _ hb => er a (by omega)) (er 0 (by omega)) jo
        refine ⟨⟨by rw [show (2 : Nat) = 2 + 0 from rfl, (e31 0 (by omega)).1]; exact hk0.1, hk0.2⟩, ⟨by rw [show (3 : Nat) = 2 + 1 from rfl, (e31 1 (by omega)).1]; exact hk1.1, hk1.2⟩, ⟨by rw [show (3 : Nat) = 3 + 0 from rfl, (e38 38 0 (by omega) (by omega)).1]; exact hn2.1, hn2.2⟩, ⟨by rw [show (4 : Nat) = 3 + 1 from rfl, (e38 38 1 (by omega) (by omega)).1]; exact hn3.1, hn3.2⟩, ⟨by rw [show (5 : Nat) = 3 + 2 from rfl, (e38 38 2 (by omega) (by omega)).1]; exact hn4.1, hn4.2⟩, fun f hf => ?_, fun p hp => ?_, fun w hw => ?_, hl2⟩
        · rw [j16 f (by omega), e33 33 f (by omega) (by omega)]; exact hkf f hf
        · rw [show 24 + p = 16 + (8 + p) by omega, j16 (8 + p) (by omega), e33 34 p (by omega) (by omega)]; exact hkp p hp
        · rcases hl1 w hw with ⟨y1, y2⟩ | ⟨y1, f, y2, y3, y4, y5⟩
          · exact Or.inl ⟨y1, by rw [(e38 39 w (by omega) hw).1]; exact y2⟩
          · exact Or.inr ⟨y1, f, by rw [(e38 39 w (by omega) hw).1]; exact y2, by rw [(e38 40 w (by omega) hw).1]; exact y3, by omega, fun j hj => by rw [show 1600 + f + j = 1600 + (f + j) by omega, e41 (f + j) (by omega)]; exact y5 j hj⟩
      | succ n ih =>
        intro i hi
        have hz := hl3.2
        refine bX13_stands_157 ?_
        rw [cpr_no (b := 0) (by decide), e50, ix16, nI_clamp (by omega), nI_clamp (by omega), nI_1]
        refine ⟨fun y => absurd ((nI_leI (by omega) (by omega)).mp y) (by omega), fun _ => ⟨vp_in_nI (by omega) (by omega), vp_in_nI (by omega) (by omega), ?_⟩⟩
        rw [cpr_s1 (by omega)]
        exact ih (i + 1) (by omega)
    have := key z 0 (by omega)
    rw [cpr_0] at this
    exact this
  have s102 : GoV wM d mX13_stands 102 [(0, .ref 0), (1, .int (nI 0))] [] M2 (cprJ J 16) K := by
    have key : ∀ n i, i + n = 3 → GoV wM d mX13_stands 102 [(0, .ref 0), (1, .int (nI i))] [] (cpr M2 R389 3 i) (cprJ J 16) K := by
      intro n
      induction n with
      | zero =>
        intro i hi
        obtain rfl : i = 3 := by omega
        exact bX13_stands_102 ⟨fun _ => by rw [hM3]; exact s157, fun y => absurd (by decide) y⟩
      | succ n ih =>
        intro i hi
        refine bX13_stands_102 ?_
        rw [show (3 : Int32) ≤ nI i ↔ 3 ≤ i from by rw [show (3 : Int32) = nI 3 from rfl, nI_leI (by omega) (by omega)], ix3, nI_clamp (by omega), nI_clamp (by omega), nI_1]
        refine ⟨fun y => absurd y (by omega), fun _ => ⟨vp_in_nI (by omega) (by omega), vp_in_nI (by omega) (by omega), ?_⟩⟩
        rintro _ rfl _ rfl
        rw [cpr_s3 (by omega) rfl]
        exact ih (i + 1) (by omega)
    have := key 3 0 (by omega)
    rw [cpr_0] at this
    exact this
  have s58 : GoV wM d mX13_stands 58 [(0, .ref 0), (1, .int (nI 0))] [] M1 (cprJ J 16) K := by
    have key : ∀ n i, i + n = 8 → GoV wM d mX13_stands 58 [(0, .ref 0), (1, .int (nI i))] [] (cpr M1 R34 8 i) (cprJ J 16) K := by
      intro n
      induction n with
      | zero =>
        intro i hi
        obtain rfl : i = 8 := by omega
        exact bX13_stands_58 ⟨fun _ => by rw [hM2]; exact s102, fun y => absurd (by decide) y⟩
      | succ n ih =>
        intro i hi
        refine bX13_stands_58 ?_
        rw [show (8 : Int32) ≤ nI i ↔ 8 ≤ i from by rw [show (8 : Int32) = nI 8 from rfl, nI_leI (by omega) (by omega)], ix8, nI_clamp (by omega), nI_clamp (by omega), nI_1]
        refine ⟨fun y => absurd y (by omega), fun _ => ⟨vp_in_nI (by omega) (by omega), vp_in_nI (by omega) (by omega), ?_⟩⟩
        rintro _ rfl
        rw [cpr_s2 (by omega) rfl]
        exact ih (i + 1) (by omega)
    have := key 8 0 (by omega)
    rw [cpr_0] at this
    exact this
  have s29 : GoV wM d mX13_stands 29 [(0, .ref 0), (1, .int (nI 0))] [] M1 J K := by
    have key : ∀ n i, i + n = 16 → GoV wM d mX13_stands 29 [(0, .ref 0), (1, .int (nI i))] [] M1 (cprJ J i) K := by
      intro n
      induction n with
      | zero =>
        intro i hi
        obtain rfl : i = 16 := by omega
        exact bX13_stands_29 ⟨fun _ => s58, fun y => absurd (by decide) y⟩
      | succ n ih =>
        intro i hi
        refine bX13_stands_29 ?_
        rw [show (16 : Int32) = nI 16 from rfl, nI_add, nI_clamp (by omega), nI_clamp (by omega), nI_1]
        refine ⟨fun y => absurd ((nI_leI (by omega) (by omega)).mp y) (by omega), fun _ => ⟨vp_in_nI (by omega) (by omega), vp_in_nI (by omega) (by omega), ?_⟩⟩
        rw [cprJ_s (by omega)]
        exact ih (i + 1) (by omega)
    have := key 16 0 (by omega)
    rw [show cprJ J 0 = J from by funext b k; unfold cprJ; rw [if_neg (by omega)]] at this
    exact this
  have s2 : GoV wM d mX13_stands 2 [(0, .ref 0), (1, .int (nI 0))] [] I J K := by
    have key : ∀ n i, i + n = 2 → GoV wM d mX13_stands 2 [(0, .ref 0), (1, .int (nI i))] [] (cpr I (fun b => decide (b = 31)) 2 i) J K := by
      intro n
      induction n with
      | zero =>
        intro i hi
        obtain rfl : i = 2 := by omega
        exact bX13_stands_2 ⟨fun _ => by rw [hM1]; exact s29, fun y => absurd (by decide) y⟩
      | succ n ih =>
        intro i hi
        refine bX13_stands_2 ?_
        rw [show (2 : Int32) = nI 2 from rfl, nI_add, nI_clamp (by omega), nI_clamp (by omega), nI_1]
        refine ⟨fun y => absurd ((nI_leI (by omega) (by omega)).mp y) (by omega), fun _ => ⟨vp_in_nI (by omega) (by omega), vp_in_nI (by omega) (by omega), ?_⟩⟩
        rw [cpr_s1 (by omega)]
        exact ih (i + 1) (by omega)
    have := key 2 0 (by omega)
    rw [cpr_0] at this
    exact this
  exact Cal.of (by decide) (Nat.le_of_ble_eq_true rfl) (bX13_stands_0 s2)
end MCC

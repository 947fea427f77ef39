/-! the class's face: part, image, on -/
section SP
variable {d : Nat} {I : Ii} {J : Jj} {sc s t g : Sx} {L : Nat → List Nat} {ps : Nat → Sx}
def lgd (s : Sx) (gd st : Nat) : Nat → Nat
  | 0 => 9
  | k + 1 => if bq gd k = 1 ∧ pc8 (s 1 k &&& st) < lgd s gd st k then pc8 (s 1 k &&& st) else lgd s gd st k
def mbd (s : Sx) (bd st : Nat) : Nat → Nat
  | 0 => 0
  | k + 1 => if bq bd k = 1 ∧ mbd s bd st k < pc8 (s 1 k &&& st) + 1 then pc8 (s 1 k &&& st) + 1 else mbd s bd st k
def ptd (s : Sx) (gd bd st : Nat) : Bool := decide (mbd s bd st 8 ≤ lgd s gd st 8)
def prL (s : Sx) (gd bd : Nat) : Nat → Nat
  | 0 => 0
  | n + 1 => if (prL s gd bd n = 0 ∨ pc8 n < pc8 (prL s gd bd n - 1)) ∧ ptd s gd bd n = true then n + 1 else prL s gd bd n
theorem lgd_le (s : Sx) (gd st : Nat) : ∀ k, lgd s gd st k ≤ 9
  | 0 => by simp [lgd]
  | k + 1 => by
    have := lgd_le s gd st k
    have := pc8_le (s 1 k &&& st)
    simp only [lgd]; split <;> omega
theorem mbd_le (s : Sx) (bd st : Nat) : ∀ k, mbd s bd st k ≤ 9
  | 0 => by simp [mbd]
  | k + 1 => by
    have := mbd_le s bd st k
    have := pc8_le (s 1 k &&& st)
    simp only [mbd]; split <;> omega
theorem s_isParted {gd bd st : Nat} {K : KI} (hS : EnS I 19 s) (hg : gd < 256) (hb : bd < 256) (h : K (b01 (ptd s gd bd st)) I J) : CalI wX (d + 1) mX12_isParted [.ref 0, .int (nI st), .int (nI gd), .int (nI bd)] I J K := by
  refine Cal.of (by decide) (Nat.le_of_ble_eq_true rfl) (bX12_isParted_0 ?_)
  have key : ∀ r k, k + r = 8 → GoI wX (d + 1) mX12_isParted 10 [(0, .ref 0), (1, .int (nI st)), (2, .int (nI gd)), (3, .int (nI bd)), (4, .int (nI (lgd s gd st k))), (5, .int (mI (mbd s bd st k))), (6, .int (nI k))] [] I J K := by
    intro r
    induction r with
    | zero =>
      intro k hk
      obtain rfl : k = 8 := by omega
      have l1 := lgd_le s gd st 8
      have l2 := mbd_le s bd st 8
      refine bX12_isParted_10 ⟨fun _ => ⟨fun q => ?_, fun q => ?_⟩, fun q => absurd (by decide) q⟩
      · simp (disch := omega) only [Int32.le_iff_toInt_le, Int32.lt_iff_toInt_lt, ← Int32.toInt_inj, nI_toInt, t_bq, t_pc8, t_bel, t_mI, t_ite, t_dec, sm_t, Int32.reduceToInt, t_m1, t_0, t_1, t_2, t_3, t_8, Int.natCast_eq_zero, Int.ofNat_le, Int.ofNat_lt, Int.ofNat_inj, not_true_eq_false, not_false_eq_true, forall_const] at q
        rw [ptd, decide_eq_false (by omega)] at h; exact h
      · simp (disch := omega) only [Int32.le_iff_toInt_le, Int32.lt_iff_toInt_lt, ← Int32.toInt_inj, nI_toInt, t_bq, t_pc8, t_bel, t_mI, t_ite, t_dec, sm_t, Int32.reduceToInt, t_m1, t_0, t_1, t_2, t_3, t_8, Int.natCast_eq_zero, Int.ofNat_le, Int.ofNat_lt, Int.ofNat_inj, not_true_eq_false, not_false_eq_true, forall_const] at q
        rw [ptd, decide_eq_true (by omega)] at h; exact h
    | succ r ih =>
      intro k hk
      have hr := hS.2.1 k (by omega)
      have l1 := lgd_le s gd st k
      have l2 := mbd_le s bd st k
      have lc := pc8_le (s 1 k &&& st)
      have ihk := ih (k + 1) (by omega)
      refine bX12_isParted_10 ?_
      rw [nI_clamp (by omega), hr.1, nI_and, nI_1]
      repeat' (first | (refine ⟨vp_in_nI (by omega) (by omega), ?_⟩) | (with_reducible refine And.intro ?_ ?_) | (with_reducible intro I9 e9; subst e9) | (with_reducible intro q9; try (simp (disch := omega) only [Int32.le_iff_toInt_le, Int32.lt_iff_toInt_lt, ← Int32.toInt_inj, nI_toInt, t_bq, t_pc8, t_bel, t_mI, t_ite, t_dec, sm_t, Int32.reduceToInt, t_m1, t_0, t_1, t_2, t_3, t_8, Int.natCast_eq_zero, Int.ofNat_le, Int.ofNat_lt, Int.ofNat_inj, not_true_eq_false, not_false_eq_true, forall_const] at q9); try (exfalso; omega)))
      refine s_bitCount (and_lt8 hr.2) (s_hasBit hg (by omega) ?_)
      generalize hc : pc8 (s 1 k &&& st) = c at *
      have emax : bq bd k = 1 → (if mI (mbd s bd st k) < nI c then nI c else mI (mbd s bd st k)) = mI (mbd s bd st (k + 1)) := by
        intro eb
        simp only [mbd, eb, true_and, hc]
        by_cases e : mbd s bd st k < c + 1
        · rw [if_pos e, if_pos, mI_s]
          rw [Int32.lt_iff_toInt_lt, t_mI (by omega), nI_toInt (by omega)]; omega
        · rw [if_neg e, if_neg]
          rw [Int32.lt_iff_toInt_lt, t_mI (by omega), nI_toInt (by omega)]; omega
      have emin : bq gd k = 1 → (if nI c < nI (lgd s gd st k) then nI c else nI (lgd s gd st k)) = nI (lgd s gd st (k + 1)) := by
        intro eb
        simp only [lgd, eb, true_and, hc]
        by_cases e : c < lgd s gd st k
        · rw [if_pos e, if_pos (nI_lt e (by omega))]
        · rw [if_neg e, if_neg (fun q => e ((nI_ltI (by omega) (by omega)).mp q))]
      have sb : bq bd k = 0 → mbd s bd st (k + 1) = mbd s bd st k := fun eb => by simp [mbd, eb]
      have sg' : bq gd k = 0 → lgd s gd st (k + 1) = lgd s gd st k := fun eb => by simp [lgd, eb]
      rcases bq01 gd k with eg | eg
      · rw [eg]
        rw [sg' eg] at ihk
        refine ⟨fun _ => s_hasBit hb (by omega) ?_, fun q => absurd rfl q⟩
        rcases bq01 bd k with eb | eb
        · rw [eb]; rw [sb eb] at ihk
          exact ⟨fun _ => ihk, fun q => absurd rfl q⟩
        · rw [eb]
          refine ⟨fun q => absurd q (by decide), fun _ => s_max ?_⟩
          rw [emax eb]; exact ihk
      · rw [eg]
        refine ⟨fun q => absurd q (by decide), fun _ => s_min ?_⟩
        rw [emin eg]
        refine s_hasBit hb (by omega) ?_
        rcases bq01 bd k with eb | eb
        · rw [eb]; rw [sb eb] at ihk
          exact ⟨fun _ => ihk, fun q => absurd rfl q⟩
        · rw [eb]
          refine ⟨fun q => absurd q (by decide), fun _ => s_max ?_⟩
          rw [emax eb]; exact ihk
  exact key 8 0 (by omega)
theorem k8_in0 : ∀ P, P < 9 → ∀ j, j < 2 ^ P → nI j &&& (nI (2 ^ P - 1) ^^^ (-1)) = 0 := by decide +kernel
theorem mask_in {v : Int32} {P : Nat} (hP : P ≤ 8) : v &&& (nI (2 ^ P - 1) ^^^ (-1)) = 0 ↔ isin v (2 ^ P) = true := by
  have hp : 2 ^ P ≤ 2 ^ 8 := Nat.pow_le_pow_right (by omega) hP
  constructor
  · intro h
    have e : v = v &&& nI (2 ^ P - 1) := by
      have h2 : v = (v &&& nI (2 ^ P - 1)) ||| (v &&& (nI (2 ^ P - 1) ^^^ (-1))) := by
        apply Int32.toBitVec_inj.mp
        apply BitVec.eq_of_getLsbD_eq
        intro i hi
        simp only [Int32.toBitVec_or, Int32.toBitVec_and, Int32.toBitVec_xor, BitVec.getLsbD_or, BitVec.getLsbD_and, BitVec.getLsbD_xor]
        have : (-1 : Int32).toBitVec.getLsbD i = true := by
          have e1 : (-1 : Int32).toBitVec = BitVec.allOnes 32 := by decide
          rw [e1, BitVec.getLsbD_allOnes]; exact decide_eq_true hi
        rw [this]
        cases v.toBitVec.getLsbD i <;> cases (nI (2 ^ P - 1)).toBitVec.getLsbD i <;> rfl
      rw [h] at h2
      simpa using h2
    have h3 : v &&& nI (2 ^ P - 1) = nI (v.toBitVec.toNat % 2 ^ P) := by
      refine pk_and v P ?_
      show (BitVec.ofNat 32 (2 ^ P - 1)).toNat = _
      rw [BitVec.toNat_ofNat]
      exact Nat.mod_eq_of_lt (by omega)
    rw [h3] at e
    have hl := Nat.mod_lt v.toBitVec.toNat (Nat.two_pow_pos P)
    rw [e, isin_nI (by omega)]
    simpa using hl
  · intro h
    obtain ⟨e, hl⟩ := isin_t h
    rw [e]
    exact k8_in0 P (by omega) _ hl
def r_part (sc s : Sx) (v w : Int32) : Int32 := if isin v (2 ^ sc 0 1) = true ∧ isin w (2 ^ sc 0 1) = true ∧ idx v &&& idx w = 0 then mI (prL s (idx v) (idx w) (2 ^ sc 0 0)) else -1
theorem prL_le (s : Sx) (gd bd : Nat) : ∀ n, prL s gd bd n ≤ n
  | 0 => by simp [prL]
  | n + 1 => by have := prL_le s gd bd n; simp only [prL]; split <;> omega
theorem x_part {v w : Int32} {K : KI} (hX : EnX I sc L s ps g) (h : K (r_part sc s v w) I J) : CalI wX (d + 2) mX12_part [.ref 0, .int v, .int w] I J K := by
  have hC := hX.1.1
  have hP := hC.2.1.2
  have hF := hC.1.2
  have hS := hX.1.2.1
  have p8 := p2_8 hP
  have f8 := p2_8 hF
  refine Cal.of (by decide) (Nat.le_of_ble_eq_true rfl) (bX12_part_0 ?_)
  rw [hC.2.1.1, k8_all _ (by omega), mask_in hP, mask_in hP]
  refine ⟨fun q => ?_, fun q => ⟨fun q2 => ?_, fun q2 => ?_⟩⟩
  · rw [r_part, if_neg (fun z => q z.1)] at h; exact h
  · rw [r_part, if_neg (fun z => q2 z.2.1)] at h; exact h
  obtain ⟨ev, v8⟩ := isin_t q
  obtain ⟨ew, w8⟩ := isin_t q2
  have ec : v &&& w = 0 ↔ idx v &&& idx w = 0 := by
    rw [ev, ew, nI_and, idx_nI (by omega), idx_nI (by omega), show (0 : Int32) = nI 0 from rfl]
    exact nI_eq (by have := and_lt8 (a := idx v) (b := idx w) (by omega); omega) (by omega)
  rw [ec]
  refine ⟨fun q3 => ?_, fun q3 => ?_⟩
  case refine_2 => rw [r_part, if_neg (fun z => q3 z.2.2)] at h; exact h
  rw [r_part, if_pos ⟨q, q2, q3⟩] at h
  generalize hj : idx v = gd at *
  generalize hi : idx w = bd at *
  subst ev
  subst ew
  have key : ∀ r k, k + r = 2 ^ sc 0 0 → GoI wX (d + 1 + 1) mX12_part 42 [(0, .ref 0), (1, .int (nI gd)), (2, .int (nI bd)), (4, .int (mI (prL s gd bd k))), (5, .int (nI k))] [] I J K := by
    intro r
    induction r with
    | zero =>
      intro k hk
      obtain rfl : k = 2 ^ sc 0 0 := by omega
      refine bX12_part_42 ?_
      rw [hC.1.1, k8_sh _ (by omega)]
      refine ⟨fun _ => h, fun z => absurd (Int32.le_refl _) z⟩
    | succ r ih =>
      intro k hk
      have ihk := ih (k + 1) (by omega)
      have hl := prL_le s gd bd k
      have put : (prL s gd bd k = 0 ∨ pc8 k < pc8 (prL s gd bd k - 1)) → CalI wX (d + 1) mX12_isParted [.ref 0, .int (nI k), .int (nI gd), .int (nI bd)] I J (fun x5 I3 J4 => ((x5 = 0 → GoI wX (d + 1 + 1) mX12_part 42 [(0, .ref 0), (1, .int (nI gd)), (2, .int (nI bd)), (4, .int (mI (prL s gd bd k))), (5, .int (nI (k + 1)))] [] I3 J4 K) ∧ (¬ x5 = 0 → GoI wX (d + 1 + 1) mX12_part 42 [(0, .ref 0), (1, .int (nI gd)), (2, .int (nI bd)), (4, .int (nI k)), (5, .int (nI (k + 1)))] [] I3 J4 K))) := by
        intro hc
        refine s_isParted hS (by omega) (by omega) ⟨fun z => ?_, fun z => ?_⟩
        · rw [b01_0] at z
          have e : prL s gd bd (k + 1) = prL s gd bd k := by simp [prL, z]
          rw [e] at ihk; exact ihk
        · rw [b01_n] at z
          have e : prL s gd bd (k + 1) = k + 1 := by simp only [prL, z, and_true]; rw [if_pos hc]
          rw [e, mI_s] at ihk; exact ihk
      refine bX12_part_42 ?_
      rw [hC.1.1, k8_sh _ (by omega), nI_1]
      refine ⟨fun z => ?_, fun _ => ⟨fun z => ?_, fun z => ?_⟩⟩
      · simp (disch := omega) only [Int32.le_iff_toInt_le, Int32.lt_iff_toInt_lt, ← Int32.toInt_inj, nI_toInt, t_bq, t_pc8, t_bel, t_mI, t_ite, t_dec, sm_t, Int32.reduceToInt, t_m1, t_0, t_1, t_2, t_3, t_8, Int.natCast_eq_zero, Int.ofNat_le, Int.ofNat_lt, Int.ofNat_inj, not_true_eq_false, not_false_eq_true, forall_const] at z
        exfalso; omega
      · simp (disch := omega) only [Int32.le_iff_toInt_le, Int32.lt_iff_toInt_lt, ← Int32.toInt_inj, nI_toInt, t_bq, t_pc8, t_bel, t_mI, t_ite, t_dec, sm_t, Int32.reduceToInt, t_m1, t_0, t_1, t_2, t_3, t_8, Int.natCast_eq_zero, Int.ofNat_le, Int.ofNat_lt, Int.ofNat_inj, not_true_eq_false, not_false_eq_true, forall_const] at z
        exact put (Or.inl (by omega))
      · simp (disch := omega) only [Int32.le_iff_toInt_le, Int32.lt_iff_toInt_lt, ← Int32.toInt_inj, nI_toInt, t_bq, t_pc8, t_bel, t_mI, t_ite, t_dec, sm_t, Int32.reduceToInt, t_m1, t_0, t_1, t_2, t_3, t_8, Int.natCast_eq_zero, Int.ofNat_le, Int.ofNat_lt, Int.ofNat_inj, not_true_eq_false, not_false_eq_true, forall_const] at z
        have hn : prL s gd bd k ≠ 0 := by omega
        refine s_bitCount (by omega) ?_
        have e1 : mI (prL s gd bd k) = nI (prL s gd bd k - 1) := by simp [mI, hn]
        rw [e1]
        refine s_bitCount (by omega) ⟨fun z2 => ?_, fun z2 => ?_⟩
        · simp (disch := omega) only [Int32.le_iff_toInt_le, Int32.lt_iff_toInt_lt, ← Int32.toInt_inj, nI_toInt, t_bq, t_pc8, t_bel, t_mI, t_ite, t_dec, sm_t, Int32.reduceToInt, t_m1, t_0, t_1, t_2, t_3, t_8, Int.natCast_eq_zero, Int.ofNat_le, Int.ofNat_lt, Int.ofNat_inj, not_true_eq_false, not_false_eq_true, forall_const] at z2
          have e : prL s gd bd (k + 1) = prL s gd bd k := by simp only [prL]; rw [if_neg (by omega)]
          rw [e, e1] at ihk; exact ihk
        · simp (disch := omega) only [Int32.le_iff_toInt_le, Int32.lt_iff_toInt_lt, ← Int32.toInt_inj, nI_toInt, t_bq, t_pc8, t_bel, t_mI, t_ite, t_dec, sm_t, Int32.reduceToInt, t_m1, t_0, t_1, t_2, t_3, t_8, Int.natCast_eq_zero, Int.ofNat_le, Int.ofNat_lt, Int.ofNat_inj, not_true_eq_false, not_false_eq_true, forall_const] at z2
          have := put (Or.inr (by omega))
          rw [e1] at this
          exact this
  exact key (2 ^ sc 0 0) 0 (by omega)
/-- an image -/
def imb (s : Sx) (k : Nat) : Nat := if k = 0 then s 4 0 / 256 else if k = 1 then s 4 0 % 256 else
  if (k - 2) % 5 = 0 then s 0 ((k - 2) / 5) else if (k - 2) % 5 = 1 then s 1 ((k - 2) / 5) else if (k - 2) % 5 = 2 then s 2 ((k - 2) / 5) else if (k - 2) % 5 = 3 then s 3 ((k - 2) / 5) else bq (s 4 1) ((k - 2) / 5) + 2 * bq (s 4 2) ((k - 2) / 5)
def csm (b : Nat → Nat) : Nat → Nat
  | 0 => 43
  | n + 1 => (3 * csm b n + b n) % 251
theorem csm_lt (b : Nat → Nat) : ∀ n, csm b n < 251
  | 0 => by simp [csm]
  | n + 1 => Nat.mod_lt _ (by omega)
theorem csm_ext {b b' : Nat → Nat} : ∀ {n : Nat}, (∀ k, k < n → b k = b' k) → csm b n = csm b' n
  | 0, _ => rfl
  | n + 1, h => by simp only [csm]; rw [csm_ext (fun k hk => h k (by omega)), h n (by omega)]
def g_im (sc s g : Sx) : Sx := fun a k => if a = 0 ∧ k = 4 then 3 + 5 * sc 0 1 else if a = 3 then (if k = 2 + 5 * sc 0 1 then csm (imb s) (2 + 5 * sc 0 1) else imb s k) else g a k
theorem mI_1 {c : Nat} : mI c + 1 = nI c := by
  unfold mI
  split
  · next e => subst e; decide
  · next e => rw [nI_1, show c - 1 + 1 = c by omega]
theorem imb_lt (hS : EnS I 19 s) {k : Nat} (hk : k < 42) : imb s k < 256 := by
  have hy := hS.2.2.2.2.1.2
  unfold imb
  have h0 := (hS.1 ((k - 2) / 5) (by omega)).2
  have h1 := (hS.2.1 ((k - 2) / 5) (by omega)).2
  have h2 := (hS.2.2.1 ((k - 2) / 5) (by omega)).2
  have h3 := (hS.2.2.2.1 ((k - 2) / 5) (by omega)).2
  have := bq01 (s 4 1) ((k - 2) / 5)
  have := bq01 (s 4 2) ((k - 2) / 5)
  repeat' split
  all_goals omega
theorem s_writeImage {K : KI} (hS : EnS I 19 s) (hP : sc 0 1 ≤ 8) (h : ∀ I', (∀ a, a ≠ 80 → I' a = I a) → (∀ k, k < 3 + 5 * sc 0 1 → I' 80 k = nI (g_im sc s g 3 k)) → K (nI (3 + 5 * sc 0 1)) I' J) : CalI wX (d + 1) mX9_writeImage [.ref 19, .ref 80, .int (nI (sc 0 1))] I J K := by
  have hy := hS.2.2.2.2.1
  refine Cal.of (by decide) (Nat.le_of_ble_eq_true rfl) (bX9_writeImage_0 obX_19 ?_)
  rintro _ rfl
  rw [c0, c1, u2_o (by omega), hy.1, show (256 : Int32) = nI 256 from rfl, pk_rem (by omega) (by omega) (by omega), pk_div (by omega) (by omega) (by omega)]
  have l2 : ∀ r k I1, k + r = 2 + 5 * sc 0 1 → (∀ a, a ≠ 80 → I1 a = I a) → (∀ j, j < 2 + 5 * sc 0 1 → I1 80 j = nI (imb s j)) → GoI wX (d + 1) mX9_writeImage 153 [(1, .ref 80), (3, .int (nI (2 + 5 * sc 0 1))), (4, .int (nI (csm (imb s) k))), (5, .int (nI k))] [] I1 J K := by
    intro r
    induction r with
    | zero =>
      intro k I1 hk f1 hb
      obtain rfl : k = 2 + 5 * sc 0 1 := by omega
      refine bX9_writeImage_153 obX_19 ?_
      refine ⟨fun _ => ⟨vp_in_nI (by omega) (by omega), ?_⟩, fun q => absurd (Int32.le_refl _) q⟩
      rw [nI_clamp (by omega), nI_1, show 2 + 5 * sc 0 1 + 1 = 3 + 5 * sc 0 1 by omega]
      refine h _ (fun a ha => by rw [u2_row ha]; exact f1 a ha) (fun j hj => ?_)
      by_cases e : j = 2 + 5 * sc 0 1
      · subst e; rw [u2_at]; simp [g_im]
      · rw [u2_k e, hb j (by omega)]; simp [g_im, e]
    | succ r ih =>
      intro k I1 hk f1 hb
      have hl := csm_lt (imb s) k
      have hbl := imb_lt hS (k := k) (by omega)
      refine bX9_writeImage_153 obX_19 ?_
      rw [nI_clamp (n := k) (by omega), hb k (by omega), nI_1 k, show (3 : Int32) = nI 3 from rfl, show (251 : Int32) = nI 251 from rfl, pk_mul, nI_add, pk_rem (by omega) (by omega) (by omega)]
      repeat' (first | (refine ⟨vp_in_nI (by omega) (by omega), ?_⟩) | (with_reducible refine And.intro ?_ ?_) | (with_reducible intro I9 e9; subst e9) | (with_reducible intro q9; try (simp (disch := omega) only [Int32.le_iff_toInt_le, Int32.lt_iff_toInt_lt, ← Int32.toInt_inj, nI_toInt, t_bq, t_pc8, t_bel, t_mI, t_ite, t_dec, sm_t, Int32.reduceToInt, t_m1, t_0, t_1, t_2, t_3, t_8, Int.natCast_eq_zero, Int.ofNat_le, Int.ofNat_lt, Int.ofNat_inj, not_true_eq_false, not_false_eq_true, forall_const] at q9); try (exfalso; omega)))
      exact ih (k + 1) I1 (by omega) f1 hb
  have l1 : ∀ r p I1, p + r = sc 0 1 → (∀ a, a ≠ 80 → I1 a = I a) → (∀ j, j < 2 + 5 * p → I1 80 j = nI (imb s j)) → GoI wX (d + 1) mX9_writeImage 36 [(0, .ref 19), (1, .ref 80), (2, .int (nI (sc 0 1))), (3, .int (nI (2 + 5 * p))), (4, .int (nI p))] [] I1 J K := by
    intro r
    induction r with
    | zero =>
      intro p I1 hk f1 hb
      obtain rfl : p = sc 0 1 := by omega
      refine bX9_writeImage_36 obX_19 ?_
      repeat' (first | (refine ⟨vp_in_nI (by omega) (by omega), ?_⟩) | (with_reducible refine And.intro ?_ ?_) | (with_reducible intro I9 e9; subst e9) | (with_reducible intro q9; try (simp (disch := omega) only [Int32.le_iff_toInt_le, Int32.lt_iff_toInt_lt, ← Int32.toInt_inj, nI_toInt, t_bq, t_pc8, t_bel, t_mI, t_ite, t_dec, sm_t, Int32.reduceToInt, t_m1, t_0, t_1, t_2, t_3, t_8, Int.natCast_eq_zero, Int.ofNat_le, Int.ofNat_lt, Int.ofNat_inj, not_true_eq_false, not_false_eq_true, forall_const] at q9); try (exfalso; omega)))
      exact l2 (2 + 5 * sc 0 1) 0 I1 (by omega) f1 hb
    | succ r ih =>
      intro p I1 hk f1 hb
      refine bX9_writeImage_36 obX_19 ⟨fun q => ?_, fun _ => ⟨fun q => ?_, fun _ => ?_⟩⟩
      · simp (disch := omega) only [Int32.le_iff_toInt_le, Int32.lt_iff_toInt_lt, ← Int32.toInt_inj, nI_toInt, t_bq, t_pc8, t_bel, t_mI, t_ite, t_dec, sm_t, Int32.reduceToInt, t_m1, t_0, t_1, t_2, t_3, t_8, Int.natCast_eq_zero, Int.ofNat_le, Int.ofNat_lt, Int.ofNat_inj, not_true_eq_false, not_false_eq_true, forall_const] at q
        exfalso; omega
      · simp (disch := omega) only [Int32.le_iff_toInt_le, Int32.lt_iff_toInt_lt, ← Int32.toInt_inj, nI_toInt, t_bq, t_pc8, t_bel, t_mI, t_ite, t_dec, sm_t, Int32.reduceToInt, t_m1, t_0, t_1, t_2, t_3, t_8, Int.natCast_eq_zero, Int.ofNat_le, Int.ofNat_lt, Int.ofNat_inj, not_true_eq_false, not_false_eq_true, forall_const] at q
        exfalso; omega
      rw [show (2 : Int32) = nI 2 from rfl, show (3 : Int32) = nI 3 from rfl, show (4 : Int32) = nI 4 from rfl, show Int32.ofInt 5 = nI 5 from rfl, nI_1, nI_1, nI_add, nI_add, nI_add, nI_add, nI_clamp (by omega), nI_clamp (by omega), nI_clamp (by omega), nI_clamp (by omega), nI_clamp (by omega), nI_clamp (by omega)]
      refine ⟨vp_in_nI (by omega) (by omega), vp_in_nI (by omega) (by omega), ?_⟩
      rintro _ rfl
      refine ⟨vp_in_nI (by omega) (by omega), ?_⟩
      rintro _ rfl
      refine ⟨vp_in_nI (by omega) (by omega), ?_⟩
      rintro _ rfl
      refine ⟨vp_in_nI (by omega) (by omega), ?_⟩
      rintro _ rfl
      generalize hI5 : u2 (u2 (u2 (u2 I1 80 (2 + 5 * p) (I1 (19 + 1) p + 1)) 80 (2 + 5 * p + 1) (u2 I1 80 (2 + 5 * p) (I1 (19 + 1) p + 1) (19 + 2) p)) 80 (2 + 5 * p + 2) (u2 (u2 I1 80 (2 + 5 * p) (I1 (19 + 1) p + 1)) 80 (2 + 5 * p + 1) (u2 I1 80 (2 + 5 * p) (I1 (19 + 1) p + 1) (19 + 2) p) (19 + 3) p)) 80 (2 + 5 * p + 3) (u2 (u2 (u2 I1 80 (2 + 5 * p) (I1 (19 + 1) p + 1)) 80 (2 + 5 * p + 1) (u2 I1 80 (2 + 5 * p) (I1 (19 + 1) p + 1) (19 + 2) p)) 80 (2 + 5 * p + 2) (u2 (u2 I1 80 (2 + 5 * p) (I1 (19 + 1) p + 1)) 80 (2 + 5 * p + 1) (u2 I1 80 (2 + 5 * p) (I1 (19 + 1) p + 1) (19 + 2) p) (19 + 3) p) (19 + 4) p) = I5
      have f5 : ∀ a, a ≠ 80 → I5 a = I a := fun a ha => by rw [← hI5, u2_row ha, u2_row ha, u2_row ha, u2_row ha]; exact f1 a ha
      have hb5 : ∀ j, j < 2 + 5 * p + 4 → I5 80 j = nI (imb s j) := by
        intro j hj
        rw [← hI5]
        have m0 : I1 (19 + 1) p = mI (s 0 p) := by rw [f1 _ (by omega)]; exact (hS.1 p (by omega)).1
        have m1 : I1 (19 + 2) p = nI (s 1 p) := by rw [f1 _ (by omega)]; exact (hS.2.1 p (by omega)).1
        have m2 : I1 (19 + 3) p = nI (s 2 p) := by rw [f1 _ (by omega)]; exact (hS.2.2.1 p (by omega)).1
        have m3 : I1 (19 + 4) p = nI (s 3 p) := by rw [f1 _ (by omega)]; exact (hS.2.2.2.1 p (by omega)).1
        rcases (show j < 2 + 5 * p ∨ j = 2 + 5 * p ∨ j = 2 + 5 * p + 1 ∨ j = 2 + 5 * p + 2 ∨ j = 2 + 5 * p + 3 by omega) with z | rfl | rfl | rfl | rfl
        · rw [u2_k (by omega), u2_k (by omega), u2_k (by omega), u2_k (by omega)]; exact hb j z
        · rw [u2_k (by omega), u2_k (by omega), u2_k (by omega), u2_at, m0, mI_1]
          unfold imb; rw [if_neg (by omega), if_neg (by omega), if_pos (by omega), show (2 + 5 * p - 2) / 5 = p by omega]
        · rw [u2_k (by omega), u2_k (by omega), u2_at, u2_o (by omega), m1]
          unfold imb; rw [if_neg (by omega), if_neg (by omega), if_neg (by omega), if_pos (by omega), show (2 + 5 * p + 1 - 2) / 5 = p by omega]
        · rw [u2_k (by omega), u2_at, u2_o (by omega), u2_o (by omega), m2]
          unfold imb; rw [if_neg (by omega), if_neg (by omega), if_neg (by omega), if_neg (by omega), if_pos (by omega), show (2 + 5 * p + 2 - 2) / 5 = p by omega]
        · rw [u2_at, u2_o (by omega), u2_o (by omega), u2_o (by omega), m3]
          unfold imb; rw [if_neg (by omega), if_neg (by omega), if_neg (by omega), if_neg (by omega), if_neg (by omega), if_pos (by omega), show (2 + 5 * p + 3 - 2) / 5 = p by omega]
      have fin : ∀ x y, bq (s 4 1) p = x → bq (s 4 2) p = y → GoI wX (d + 1) mX9_writeImage 36 [(0, .ref 19), (1, .ref 80), (2, .int (nI (sc 0 1))), (3, .int (nI (2 + 5 * p + 5))), (4, .int (nI (p + 1)))] [] (u2 I5 80 (2 + 5 * p + 4) (nI (x + 2 * y))) J K := by
        intro x y ex ey
        refine ih (p + 1) _ (by omega) (fun a ha => by rw [u2_row ha]; exact f5 a ha) (fun j hj => ?_)
        by_cases e : j = 2 + 5 * p + 4
        · subst e
          rw [u2_at]
          unfold imb; rw [if_neg (by omega), if_neg (by omega), if_neg (by omega), if_neg (by omega), if_neg (by omega), if_neg (by omega), show (2 + 5 * p + 4 - 2) / 5 = p by omega, ex, ey]
        · rw [u2_k e]; exact hb5 j (by omega)
      have s1 : I5 19 1 = nI (s 4 1) := by rw [f5 19 (by omega)]; exact hS.2.2.2.2.2.1.1
      have s2 : I5 19 2 = nI (s 4 2) := by rw [f5 19 (by omega)]; exact hS.2.2.2.2.2.2.1.1
      rw [s1]
      refine s_hasBit hS.2.2.2.2.2.1.2 (by omega) ?_
      rw [s2]
      rcases bq01 (s 4 1) p with e1 | e1
      · rw [e1]
        refine ⟨fun _ => s_hasBit hS.2.2.2.2.2.2.1.2 (by omega) ?_, fun q => absurd rfl q⟩
        rcases bq01 (s 4 2) p with e2 | e2
        · rw [e2]; exact ⟨fun _ => ⟨vp_in_nI (by omega) (by omega), fin 0 0 e1 e2⟩, fun q => absurd rfl q⟩
        · rw [e2]; exact ⟨fun q => absurd q (by decide), fun _ => ⟨vp_in_nI (by omega) (by omega), fin 0 1 e1 e2⟩⟩
      · rw [e1]
        refine ⟨fun q => absurd q (by decide), fun _ => s_hasBit hS.2.2.2.2.2.2.1.2 (by omega) ?_⟩
        rcases bq01 (s 4 2) p with e2 | e2
        · rw [e2]; exact ⟨fun _ => ⟨vp_in_nI (by omega) (by omega), fin 1 0 e1 e2⟩, fun q => absurd rfl q⟩
        · rw [e2]; exact ⟨fun q => absurd q (by decide), fun _ => ⟨vp_in_nI (by omega) (by omega), fin 1 1 e1 e2⟩⟩
  refine l1 (sc 0 1) 0 _ (by omega) (fun a ha => by rw [u2_row ha, u2_row ha]) (fun j hj => ?_)
  rcases (show j = 0 ∨ j = 1 by omega) with rfl | rfl
  · rw [u2_k (by omega), u2_at]; rfl
  · rw [u2_at]; rfl
theorem x_image {K : KI} (hX : EnX I sc L s ps g) (h : ∀ I', EnX I' sc L s ps (g_im sc s g) → K (nI (3 + 5 * sc 0 1)) I' J) : CalI wX (d + 2) mX12_image [.ref 0] I J K := by
  have hP := hX.1.1.2.1.2
  refine Cal.of (by decide) (Nat.le_of_ble_eq_true rfl) (bX12_image_0 ?_)
  rw [hX.1.1.2.1.1]
  refine s_writeImage (g := g) hX.1.2.1 hP (fun I1 f1 hb => ?_)
  rintro _ rfl
  rw [u2_at]
  have hX' := hX
  obtain ⟨hB, hA, hT, hR, hf, hr, hi, hd, hPa⟩ := hX
  refine h _ (hX'.re (fun a ha => by rw [u2_row (by omega)]; exact f1 a (by omega)) ?_ ?_ ?_ (fun k hk => ?_) ⟨⟨?_, ?_⟩, fun k hk => ?_⟩ ?_ ?_)
  · unfold EnT; rw [u2_row (by omega), u2_row (by omega), f1 1 (by omega), f1 2 (by omega)]; simpa [g_im, EnT] using hT
  · unfold EnR; rw [u2_row (by omega), u2_row (by omega), u2_row (by omega), f1 43 (by omega), f1 50 (by omega), f1 51 (by omega)]; simpa [g_im, EnR] using hR
  · rw [u2_row (by omega), f1 1 (by omega)]; simpa [g_im] using hf
  · rw [u2_row (by omega), f1 79 (by omega)]; simpa [g_im] using hr k hk
  · rw [u2_at]; simp [g_im]
  · simp [g_im]; omega
  · rw [u2_row (by omega)]; exact hb k (by simpa [g_im] using hk)
  · rw [u2_k (by omega), f1 0 (by omega)]; simpa [g_im] using hd
  · refine EnP.fr (I := I) ?_ ?_ (fun a ha => ?_)
    · simpa [EnP, g_im] using hPa
    · rw [u2_k (by omega), u2_k (by omega), f1 0 (by omega)]; exact ⟨rfl, rfl⟩
    · rw [u2_row (by omega)]; exact f1 a (by omega)
end SP

/-! the school and its years, in neutral words -/
/-- sc 0 0: facts, sc 0 1: people, sc 0 2: enough, sc 0 3: tries, sc 0 4: illness; sc 1 f: a fact's name, sc 2 f: its worth; sc 3 p: a person's name, sc 4 p: calm. L k: the codes of law k ([]: not told) -/
def mrkN (sc s : Sx) (p : Nat) : Nat → Int
  | 0 => 0
  | n + 1 => mrkN sc s p n + (if bel s p n = 1 then (sc 2 n : Int) else if bel s p n = 2 then -(sc 2 n : Int) else 0)
def mrk (sc s : Sx) (p : Nat) : Int := mrkN sc s p (sc 0 0)
def sg (sc s : Sx) (p f k : Nat) : Int := match k with
  | 0 => sc 4 p
  | 1 => pc8 (s 1 p)
  | 2 => pc8 (s 2 p)
  | 3 => s 4 0
  | 4 => if f < sc 0 0 then (sc 2 f : Int) else 0
  | 5 => pc8 (msk (fun k => s 0 k = s 0 p) 8)
  | 6 => if s 0 p = 0 then 0 else (sc 4 (s 0 p - 1) : Int)
  | 7 => s 3 p
  | 8 => mrk sc s p
  | _ => 0
def hld (sc : Sx) (L : Nat → List Nat) (s : Sx) (w p f : Nat) : Bool := decide (evs (sg sc s p f) 0 (L w) [] = [1])
def lsf (q : Nat → Bool) : Nat → Nat → Nat
  | 0, _ => 0
  | n + 1, f => if q f then f + 1 else lsf q n (f + 1)
def lsq (sc : Sx) (L : Nat → List Nat) (s : Sx) (p f : Nat) : Bool := decide (bq (opn s p (s 0 p - 1)) f = 1) && (decide (L 0 = []) || hld sc L s 0 p f)
/-- which fact one is taught: 0 none, f + 1 -/
def lsn (sc : Sx) (L : Nat → List Nat) (s : Sx) (p : Nat) : Nat := if s 0 p = 0 then 0 else lsf (lsq sc L s p) (sc 0 0) 0
/-- as what one takes it: 1 rightly, 2 wrongly -/
def tkn (sc : Sx) (L : Nat → List Nat) (s : Sx) (p f : Nat) : Nat := if bel s p f = 2 then 1 else if bel s (s 0 p - 1) f = 2 then 2 else if L 1 ≠ [] ∧ hld sc L s 1 p f = true then 2 else 1
def tch (lf tf : Nat → Nat) (s : Sx) : Nat → Sx
  | 0 => s
  | n + 1 => if lf n = 0 then tch lf tf s n else blv (tch lf tf s n) n (lf n - 1) (tf n)
def sit (sc : Sx) (L : Nat → List Nat) (aw : Nat) (t : Sx) (k : Nat) : Bool := decide (bq aw k = 0) && decide (bq (t 4 1) k = 0) && decide (t 3 k ≠ 0) && (decide (L 2 = []) || hld sc L t 2 k 0)
def ex1 (sc : Sx) (L : Nat → List Nat) (aw : Nat) (t : Sx) (k : Nat) : Sx := if sit sc L aw t k = false then t else if mrk sc t k < sc 0 2 then up t 3 k (t 3 k - 1) else kep (up t 4 1 (bs (t 4 1) k)) k 1
def exs (sc : Sx) (L : Nat → List Nat) (aw : Nat) (s : Sx) : Nat → Sx
  | 0 => s
  | n + 1 => ex1 sc L aw (exs sc L aw s n) n
/-- how many pass -/
def exn (sc : Sx) (L : Nat → List Nat) (aw : Nat) (s : Sx) : Nat → Nat
  | 0 => 0
  | n + 1 => exn sc L aw s n + (if sit sc L aw (exs sc L aw s n) n = true ∧ ¬ mrk sc (exs sc L aw s n) n < sc 0 2 then 1 else 0)
/-- m is a master's master of one of the first n who has passed -/
def nmd (s : Sx) (m : Nat) : Nat → Bool
  | 0 => false
  | n + 1 => nmd s m n || (decide (bq (s 4 1) n = 1) && decide (s 0 n ≠ 0) && decide (s 0 (s 0 n - 1) = m + 1))
def dcs (q : Nat → Bool) (s : Sx) : Nat → Sx
  | 0 => s
  | n + 1 => if q n = true ∧ bq (dcs q s n 4 2) n = 0 then kep (up (dcs q s n) 4 2 (bs (dcs q s n 4 2) n)) n 2 else dcs q s n
/-- one year: its pupils taught, examined, the doctors named -/
def yr1 (sc : Sx) (L : Nat → List Nat) (s : Sx) (aw : Nat) : Sx := tch (fun k => if bq aw k = 1 then 0 else lsn sc L s k) (fun k => tkn sc L s k (lsn sc L s k - 1)) s (sc 0 1)
def yr2 (sc : Sx) (L : Nat → List Nat) (s : Sx) (aw : Nat) : Sx := exs sc L aw (yr1 sc L s aw) (sc 0 1)
def yr3 (sc : Sx) (L : Nat → List Nat) (s : Sx) (aw : Nat) : Sx := dcs (fun m => nmd (yr2 sc L s aw) m (sc 0 1)) (yr2 sc L s aw) (sc 0 1)
def yr (sc : Sx) (L : Nat → List Nat) (s : Sx) (aw : Nat) : Sx := up (yr3 sc L s aw) 4 0 (s 4 0 + 1)
def yrn (sc : Sx) (L : Nat → List Nat) (s : Sx) (aw : Nat) : Nat := exn sc L aw (yr1 sc L s aw) (sc 0 1)
/-- the laws: well made, with the words that they may have -/
def lok (w c : Nat) : Prop := c ≠ 60 ∧ (40 ≤ c → c < 1000 → if w = 2 then c = 40 ∨ c = 41 ∨ c = 42 ∨ c = 43 ∨ c = 47 ∨ c = 48 else c < 47)
def LOK (L : Nat → List Nat) : Prop := ∀ w, w < 3 → (L w = [] ∨ tcs (L w) [] = some [true]) ∧ ∀ c, c ∈ L w → lok w c
/-- the School at o -/
def EnC (I : Ii) (o : Nat) (sc : Sx) (L : Nat → List Nat) : Prop :=
  (I o 0 = nI (sc 0 0) ∧ sc 0 0 ≤ 8) ∧ (I o 1 = nI (sc 0 1) ∧ sc 0 1 ≤ 8) ∧ (I o 2 = nI (sc 0 2) ∧ sc 0 2 ≤ 99) ∧ (I o 3 = nI (sc 0 3) ∧ sc 0 3 ≤ 9) ∧ (I o 4 = nI (sc 0 4) ∧ sc 0 4 ≤ 100) ∧
  (∀ k, k < sc 0 0 → I (o + 1) k = nI (sc 1 k) ∧ sc 1 k < 2 ^ 30 ∧ I (o + 2) k = nI (sc 2 k) ∧ sc 2 k ≤ 9) ∧ (∀ k, k < sc 0 1 → I (o + 3) k = nI (sc 3 k) ∧ sc 3 k < 2 ^ 30 ∧ I (o + 4) k = nI (sc 4 k) ∧ sc 4 k ≤ 99) ∧ (∀ k, k < 3 → EnF I (o + 5) k (L k)) ∧ LOK L
theorem EnC.kept {I I' : Ii} {o : Nat} {sc : Sx} {L : Nat → List Nat} (h : EnC I o sc L) (hk : ∀ a, o ≤ a → a ≤ o + 8 → I' a = I a) : EnC I' o sc L := by
  obtain ⟨h1, h2, h3, h4, h5, h6, h7, h8, h9⟩ := h
  have e0 := hk o (by omega) (by omega)
  have e1 := hk (o + 1) (by omega) (by omega)
  have e2 := hk (o + 2) (by omega) (by omega)
  have e3 := hk (o + 3) (by omega) (by omega)
  have e4 := hk (o + 4) (by omega) (by omega)
  exact ⟨by rw [e0]; exact h1, by rw [e0]; exact h2, by rw [e0]; exact h3, by rw [e0]; exact h4, by rw [e0]; exact h5, fun k hk' => by rw [e1, e2]; exact h6 k hk', fun k hk' => by rw [e3, e4]; exact h7 k hk', fun k hk' => (h8 k hk').kept (hk _ (by omega) (by omega)) (hk _ (by omega) (by omega)) (hk _ (by omega) (by omega)), h9⟩
theorem mrkN_b {sc s : Sx} {p : Nat} : ∀ {n : Nat}, (∀ k, k < n → sc 2 k ≤ 9) → -(9 * n : Int) ≤ mrkN sc s p n ∧ mrkN sc s p n ≤ 9 * n
  | 0, _ => by simp [mrkN]
  | n + 1, h => by
    have ih := mrkN_b (sc := sc) (s := s) (p := p) (n := n) (fun k hk => h k (by omega))
    have hn := h n (by omega)
    simp only [mrkN]
    split
    · omega
    · split <;> omega
theorem st_dis0 : ∀ o, o < 201 → wX.1 o = (0, 9) → 13 ≤ o ∧ (o + 5 < 31 ∨ 36 < o) := by decide +kernel
theorem st_dis {o : Nat} (h : z_Ob wX o 9) : 13 ≤ o ∧ (o + 5 < 31 ∨ 36 < o) := st_dis0 o h.2.1 h.1
section SP
variable {d : Nat} {I : Ii} {J : Jj}
theorem iI_nadd {a : Int} {w : Nat} (ha : sm a) (hw : w ≤ 1000) : iI a + nI w = iI (a + w) := by
  unfold sm at ha
  have e1 : (iI a).toInt = a := iI_t (by omega) (by omega)
  have e2 : (nI w).toInt = w := nI_toInt (by omega)
  exact i32_ext (by rw [Jvm.Kit.i32_add (by rw [e1, e2]; omega) (by rw [e1, e2]; omega), e1, e2, iI_t (by omega) (by omega)])
theorem iI_nsub {a : Int} {w : Nat} (ha : sm a) (hw : w ≤ 1000) : iI a + (-nI w) = iI (a - w) := by
  unfold sm at ha
  have e1 : (iI a).toInt = a := iI_t (by omega) (by omega)
  have e2 : (nI w).toInt = w := nI_toInt (by omega)
  have e3 : (-nI w).toInt = -w := by rw [Jvm.Kit.i32_neg (by rw [e2]; omega), e2]
  exact i32_ext (by rw [Jvm.Kit.i32_add (by rw [e1, e3]; omega) (by rw [e1, e3]; omega), e1, e3, iI_t (by omega) (by omega)]; omega)
theorem bel3 (s : Sx) (p f : Nat) : bel s p f = 0 ∨ bel s p f = 1 ∨ bel s p f = 2 := by
  unfold bel
  split
  · exact Or.inr (Or.inl rfl)
  · split
    · exact Or.inr (Or.inr rfl)
    · exact Or.inl rfl
theorem s_marksIn {o o1 p : Nat} {sc s : Sx} {L : Nat → List Nat} {K : KI} (ho : z_Ob wX o 7) (ho1 : z_Ob wX o1 9) (hC : EnC I o sc L) (hs : EnS I o1 s) (hp : p < 8) (h : K (iI (mrk sc s p)) I J) : CalI wX (d + 2) mX7_marksIn [.ref o, .ref o1, .int (nI p)] I J K := by
  refine Cal.of (by decide) (Nat.le_of_ble_eq_true rfl) (bX7_marksIn_0 ho ho1 ?_)
  have key : ∀ n k, k + n = sc 0 0 → GoI wX (d + 1 + 1) mX7_marksIn 5 [(0, .ref o), (1, .ref o1), (2, .int (nI p)), (3, .int (iI (mrkN sc s p k))), (4, .int (nI k))] [] I J K := by
    intro n
    induction n with
    | zero =>
      intro k hk
      obtain rfl : k = sc 0 0 := by omega
      refine bX7_marksIn_5 ho ho1 ⟨fun _ => h, fun q => absurd ?_ q⟩
      rw [hC.1.1]
      exact Int32.le_refl _
    | succ n ih =>
      intro k hk
      have hF := hC.1.2
      have hb := mrkN_b (sc := sc) (s := s) (p := p) (n := k) (fun j hj => (hC.2.2.2.2.2.1 j (by omega)).2.2.2)
      have hsm : sm (mrkN sc s p k) := by unfold sm; omega
      have hw := hC.2.2.2.2.2.1 k (by omega)
      refine bX7_marksIn_5 ho ho1 ⟨fun q => ?_, fun _ => ⟨fun q => absurd ((nI_leI (a := 8) (by decide) (by omega)).mp q) (by omega), fun _ => s_beliefOf ho1 hs hp (by omega) ?_⟩⟩
      · rw [hC.1.1] at q
        exact absurd ((nI_leI (by omega) (by omega)).mp q) (by omega)
      · rw [nI_clamp (by omega), hw.2.2.1, nI_1]
        rcases bel3 s p k with e | e | e
        · rw [e]
          refine ⟨fun _ => ⟨fun _ => ?_, fun q => absurd q (by decide)⟩, fun q => absurd q (by decide)⟩
          have := ih (k + 1) (by omega)
          simpa [mrkN, e] using this
        · rw [e]
          refine ⟨fun q => absurd rfl q, fun _ => ⟨vp_in_nI (by omega) (by omega), fun y ey => ?_⟩⟩
          rw [ey, iI_nadd hsm (by omega)]
          have := ih (k + 1) (by omega)
          simpa [mrkN, e] using this
        · rw [e]
          refine ⟨fun _ => ⟨fun q => absurd rfl q, fun _ => ⟨vp_in_nI (by omega) (by omega), fun y ey => ?_⟩⟩, fun q => absurd q (by decide)⟩
          rw [ey, iI_nsub hsm (by omega)]
          have := ih (k + 1) (by omega)
          simpa [mrkN, e, Int.sub_eq_add_neg] using this
  exact key (sc 0 0) 0 (by omega)
end SP

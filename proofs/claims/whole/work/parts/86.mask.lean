/-! the reference: ask -/
section MV
variable {d : Nat} {I : Ii} {J : Jj} {sc s g : Sx} {L : Nat → List Nat} {ps : Nat → Sx} {p f q : Nat}
theorem m_qKind {K : KI} (hG : TxG I g) (hp : Rpr I g q) (h1 : 28 ≤ wd g q ∧ wd g q ≤ 33 → ∀ I', FrK I I' → Rpr I' g (adv g q) → K (nI (wd g q - 28)) I' J) (h0 : ¬ (28 ≤ wd g q ∧ wd g q ≤ 33) → ∀ x I', FrK I I' → Flm I' 1 q → K x I' J) : CalI wM (d + 4) mX13_qKind [.ref 0] I J K := by
  refine Cal.of (by decide) (Nat.le_of_ble_eq_true rfl) (bX13_qKind_0 ?_)
  refine m_takes (d := d + 1) (a := 50) hG hp (by unfold isW; omega) (fun z I1 f1 r1 => ⟨fun y => absurd y (by decide), fun _ => ?_⟩) (fun z1 I1 f1 r1 => ⟨fun _ => ?_, fun y => absurd rfl y⟩)
  · have z : wd g q = 28 := z
    have := h1 (by omega) I1 f1 r1
    rw [z] at this; exact this
  refine m_takes (d := d + 1) (a := 51) (hG.K f1) r1.P (by unfold isW; omega) (fun z I2 f2 r2 => ⟨fun y => absurd y (by decide), fun _ => ?_⟩) (fun z2 I2 f2 r2 => ⟨fun _ => ?_, fun y => absurd rfl y⟩)
  · have z : wd g q = 29 := z
    have := h1 (by omega) I2 (f1.trans f2) r2
    rw [z] at this; exact this
  refine m_takes (d := d + 1) (a := 52) (hG.K (f1.trans f2)) r2.P (by unfold isW; omega) (fun z I3 f3 r3 => ⟨fun y => absurd y (by decide), fun _ => ?_⟩) (fun z3 I3 f3 r3 => ⟨fun _ => ?_, fun y => absurd rfl y⟩)
  · have z : wd g q = 30 := z
    have := h1 (by omega) I3 ((f1.trans f2).trans f3) r3
    rw [z] at this; exact this
  refine m_takes (d := d + 1) (a := 53) (hG.K ((f1.trans f2).trans f3)) r3.P (by unfold isW; omega) (fun z I4 f4 r4 => ⟨fun y => absurd y (by decide), fun _ => ?_⟩) (fun z4 I4 f4 r4 => ⟨fun _ => ?_, fun y => absurd rfl y⟩)
  · have z : wd g q = 31 := z
    have := h1 (by omega) I4 (((f1.trans f2).trans f3).trans f4) r4
    rw [z] at this; exact this
  refine m_takes (d := d + 1) (a := 54) (hG.K (((f1.trans f2).trans f3).trans f4)) r4.P (by unfold isW; omega) (fun z I5 f5 r5 => ⟨fun y => absurd y (by decide), fun _ => ?_⟩) (fun z5 I5 f5 r5 => ⟨fun _ => ?_, fun y => absurd rfl y⟩)
  · have z : wd g q = 32 := z
    have := h1 (by omega) I5 ((((f1.trans f2).trans f3).trans f4).trans f5) r5
    rw [z] at this; exact this
  refine m_asks (d := d) (a := 55) (hG.K ((((f1.trans f2).trans f3).trans f4).trans f5)) r5.P (by unfold isW; omega) (fun z I6 f6 r6 => ?_) (fun z6 I6 f6 l6 => ?_)
  · have z : wd g q = 33 := z
    have := h1 (by omega) I6 (((((f1.trans f2).trans f3).trans f4).trans f5).trans f6) r6
    rw [z] at this; exact this
  have y1 : ¬ wd g q = 28 := z1
  have y2 : ¬ wd g q = 29 := z2
  have y3 : ¬ wd g q = 30 := z3
  have y4 : ¬ wd g q = 31 := z4
  have y5 : ¬ wd g q = 32 := z5
  have y6 : ¬ wd g q = 33 := z6
  exact h0 (by omega) 5 I6 (((((f1.trans f2).trans f3).trans f4).trans f5).trans f6) l6
theorem m_qTakes {w n : Nat} {vf : Nat → Int} {K : KV} (hw : 28 ≤ w ∧ w ≤ 33) (hn : n < 8) (h101 : J 0 101 = lI (qac w vf n)) (h102 : I 0 102 = if n = 0 then 1 else 0) (hb : -1000000000 ≤ qac w vf n ∧ qac w vf n ≤ 1000000000) (hv : sm (vf n)) (h01 : w ≤ 30 → vf n = 0 ∨ vf n = 1) (h : ∀ J', J' 0 101 = lI (qac w vf (n + 1)) → (∀ a, a ≠ 0 → J' a = J a) → (∀ k, k ≠ 101 → J' 0 k = J 0 k) → K (u2 I 0 102 0) J') : CalV wM d mX13_qTakes [.ref 0, .int (nI (w - 28)), .long (lI (vf n)), .int (nI n)] I J K := by
  have hv' := hv
  unfold sm at hv'
  have same : qac w vf (n + 1) = qac w vf n → K (u2 I 0 102 0) J := fun z => h J (by rw [z]; exact h101) (fun _ _ => rfl) (fun _ _ => rfl)
  have put : ∀ x, x = lI (qac w vf (n + 1)) → K (u2 I 0 102 0) (w2 J 0 101 x) := fun x z => h _ (by rw [w2_at]; exact z) (fun a ha => by funext j; rw [w2_o ha]) (fun k hk => w2_k hk)
  have k3 : (3 : Int32) ≤ nI (w - 28) ↔ 31 ≤ w := by rw [show (3 : Int32) = nI 3 from rfl, nI_leI (by omega) (by omega)]; omega
  have k3' : nI (w - 28) ≤ 3 ↔ w ≤ 31 := by rw [show (3 : Int32) = nI 3 from rfl, nI_leI (by omega) (by omega)]; omega
  have kq : ∀ j : Nat, j < 6 → (nI (w - 28) = nI j ↔ w = 28 + j) := fun j hj => by rw [nI_eq (by omega) (by omega)]; omega
  have kq0 : nI (w - 28) = 0 ↔ w = 28 := kq 0 (by omega)
  have kq1 : nI (w - 28) = 1 ↔ w = 29 := kq 1 (by omega)
  have kq2 : nI (w - 28) = 2 ↔ w = 30 := kq 2 (by omega)
  have kq3 : nI (w - 28) = 3 ↔ w = 31 := kq 3 (by omega)
  have kq4 : nI (w - 28) = 4 ↔ w = 32 := kq 4 (by omega)
  have fin : ∀ J', K (u2 I 0 102 0) J' → GoV wM d mX13_qTakes 133 [(0, .ref 0)] [] I J' K := fun J' z => bX13_qTakes_133 z
  have e1 : lI (vf n) = 1 ↔ vf n = 1 := by rw [show (1 : Int64) = lI 1 from rfl]; exact lI_eqB (by omega) (by omega)
  have em1 : lI (qac w vf n) = -1 ↔ qac w vf n = -1 := by rw [show (-1 : Int64) = lI (-1) from rfl]; exact lI_eqB (by omega) (by omega)
  have ekl : (nI n).toInt64 = lI (n : Int) := by rw [nI_l (by omega), ← lI_n]
  have stepA : qac w vf (n + 1) = if w = 32 then (if n = 0 then vf n else if qac w vf n < vf n then vf n else qac w vf n) else if w = 33 then (if n = 0 then vf n else if vf n < qac w vf n then vf n else qac w vf n) else if w = 29 then (if vf n ≠ 0 then (n : Int) else qac w vf n) else if w = 28 then (if vf n ≠ 0 ∧ qac w vf n = -1 then (n : Int) else qac w vf n) else qac w vf n + vf n := by simp only [qac]
  rw [stepA] at same put
  -- past the tests: s0 is whether it holds
  have g75 : ∀ J', (w ≠ 31 → w ≤ 31 → K (u2 I 0 102 0) J') → (w = 31 → J' = J) → (32 ≤ w → J' = J) → GoV wM d mX13_qTakes 75 [(0, .ref 0), (1, .int (nI (w - 28))), (2, .long (lI (vf n)))] [] I J' K := by
    intro J' z1 z2 z3
    refine bX13_qTakes_75 ?_
    rw [kq3]
    refine ⟨fun y => bX13_qTakes_90 ?_, fun y => bX13_qTakes_90 ?_⟩
    · rw [k3']
      refine ⟨fun y2 => fin _ (z1 y y2), fun y2 => ?_⟩
      rw [z3 (by omega), h102, kq4, h101, lgc_ge, lgc_le, Int64.le_iff_toInt_le, Int64.le_iff_toInt_le, lI_t (by omega) (by omega), lI_t (by omega) (by omega)]
      have p128 : (32 ≤ w → lI (vf n) = lI (if w = 32 then (if n = 0 then vf n else if qac w vf n < vf n then vf n else qac w vf n) else if w = 33 then (if n = 0 then vf n else if vf n < qac w vf n then vf n else qac w vf n) else if w = 29 then (if vf n ≠ 0 then (n : Int) else qac w vf n) else if w = 28 then (if vf n ≠ 0 ∧ qac w vf n = -1 then (n : Int) else qac w vf n) else qac w vf n + vf n)) → GoV wM d mX13_qTakes 128 [(0, .ref 0), (2, .long (lI (vf n)))] [] I J K := fun z => bX13_qTakes_128 (fin _ (put _ (z (by omega))))
      by_cases n0 : n = 0
      · rw [if_pos n0]
        refine ⟨fun _ => p128 (fun _ => ?_), fun v => absurd v (by decide)⟩
        by_cases w32 : w = 32
        · rw [if_pos w32, if_pos n0]
        · rw [if_neg w32, if_pos (by omega), if_pos n0]
      · rw [if_neg n0]
        refine ⟨fun v => absurd rfl v, fun _ => ⟨fun w32 => ⟨fun v => ?_, fun v => p128 (fun _ => ?_)⟩, fun w32 => ⟨fun v => ?_, fun v => p128 (fun _ => ?_)⟩⟩⟩
        · refine fin _ (same ?_)
          rw [if_neg w32, if_pos (by omega), if_neg n0, if_neg (by omega)]
        · rw [if_neg w32, if_pos (by omega), if_neg n0, if_pos (by omega)]
        · refine fin _ (same ?_)
          rw [if_pos w32, if_neg n0, if_neg (by omega)]
        · rw [if_pos w32, if_neg n0, if_pos (by omega)]
    · rw [k3']
      refine ⟨fun y2 => fin _ ?_, fun y2 => absurd y2 (by omega)⟩
      rw [z2 y, h101, lI_addB (by omega) (by omega)]
      refine put _ ?_
      rw [if_neg (by omega), if_neg (by omega), if_neg (by omega), if_neg (by omega)]
  have g55 : ∀ (x : Int32) (J' : Jj), (x = 0 ∨ x = 1) → (w = 30 → J' = J ∧ (x = 0 ↔ vf n = 0)) → (w < 30 → K (u2 I 0 102 0) J') → (31 ≤ w → J' = J) → GoV wM d mX13_qTakes 55 [(0, .ref 0), (1, .int (nI (w - 28))), (2, .long (lI (vf n))), (5, .int x)] [] I J' K := by
    intro x J' hx z1 z2 z3
    refine bX13_qTakes_55 ?_
    rw [kq2]
    refine ⟨fun y => g75 J' (fun y1 y2 => z2 (by omega)) (fun y1 => z3 (by omega)) (fun y1 => z3 (by omega)), fun y => ⟨fun x0 => ?_, fun x0 => ?_⟩⟩
    · obtain ⟨ej, ex⟩ := z1 y
      refine g75 J' (fun y1 y2 => ?_) (fun y1 => absurd y1 (by omega)) (fun y1 => absurd y1 (by omega))
      rw [ej]
      refine same ?_
      rw [if_neg (by omega), if_neg (by omega), if_neg (by omega), if_neg (by omega), ex.mp x0]
      omega
    · obtain ⟨ej, ex⟩ := z1 y
      refine g75 _ (fun y1 y2 => ?_) (fun y1 => absurd y1 (by omega)) (fun y1 => absurd y1 (by omega))
      have v1 : vf n = 1 := (h01 (by omega)).resolve_left (fun v => x0 (ex.mpr v))
      rw [ej, h101, show (1 : Int64) = lI 1 from rfl, lI_addB (by omega) (by omega)]
      refine put _ ?_
      rw [if_neg (by omega), if_neg (by omega), if_neg (by omega), if_neg (by omega), v1]
  have g48 : ∀ x : Int32, (x = 0 ∨ x = 1) → (w = 28 ∨ w = 29) → (K (u2 I 0 102 0) (w2 J 0 101 (lI (n : Int)))) → GoV wM d mX13_qTakes 48 [(0, .ref 0), (1, .int (nI (w - 28))), (2, .long (lI (vf n))), (4, .int (nI n)), (5, .int x)] [] I J K := by
    intro x hx hw2 k
    refine bX13_qTakes_48 ?_
    rw [ekl]
    exact g55 x _ hx (fun y => absurd y (by omega)) (fun _ => k) (fun y => absurd y (by omega))
  have g38 : ∀ x : Int32, (x = 0 ∨ x = 1) → (w ≤ 30 → (x = 0 ↔ vf n = 0)) → (w = 28 → qac w vf (n + 1) = qac w vf n) → GoV wM d mX13_qTakes 38 [(0, .ref 0), (1, .int (nI (w - 28))), (2, .long (lI (vf n))), (4, .int (nI n)), (5, .int x)] [] I J K := by
    intro x hx ex h28
    refine bX13_qTakes_38 ?_
    rw [kq1]
    refine ⟨fun y => g55 x J hx (fun y1 => ⟨rfl, ex (by omega)⟩) (fun y1 => ?_) (fun _ => rfl), fun y => ⟨fun x0 => g55 x J hx (fun y1 => absurd y1 (by omega)) (fun y1 => ?_) (fun _ => rfl), fun x0 => g48 x hx (Or.inr y) (put _ ?_)⟩⟩
    · have := h28 (by omega)
      rw [stepA] at this
      exact same this
    · refine same ?_
      rw [if_neg (by omega), if_neg (by omega), if_pos y, if_neg (fun v => v ((ex (by omega)).mp x0))]
    · rw [if_neg (by omega), if_neg (by omega), if_pos y, if_pos (fun v => x0 ((ex (by omega)).mpr v))]
  have g16 : ∀ x : Int32, (x = 0 ∨ x = 1) → (w ≤ 30 → (x = 0 ↔ vf n = 0)) → GoV wM d mX13_qTakes 16 [(0, .ref 0), (1, .int (nI (w - 28))), (2, .long (lI (vf n))), (4, .int (nI n))] [.int x] I J K := by
    intro x hx ex
    refine bX13_qTakes_16 ?_
    rw [kq0, h101, lgc_eq, em1]
    refine ⟨fun y => g38 x hx ex (fun v => absurd v y), fun y => ⟨fun x0 => g38 x hx ex (fun _ => ?_), fun x0 => ⟨fun m => g48 x hx (Or.inl y) (put _ ?_), fun m => g38 x hx ex (fun _ => ?_)⟩⟩⟩
    · rw [stepA, if_neg (by omega), if_neg (by omega), if_neg (by omega), if_pos y, if_neg (fun v => v.1 ((ex (by omega)).mp x0))]
    · rw [if_neg (by omega), if_neg (by omega), if_neg (by omega), if_pos y, if_pos ⟨fun v => x0 ((ex (by omega)).mpr v), m⟩]
    · rw [stepA, if_neg (by omega), if_neg (by omega), if_neg (by omega), if_pos y, if_neg (fun v => m v.2)]
  refine Cal.of (by decide) (Nat.le_of_ble_eq_true rfl) (bX13_qTakes_0 ?_)
  rw [k3, lgc_eq, e1]
  refine ⟨fun y => bX13_qTakes_15 (g16 0 (Or.inl rfl) (fun v => absurd v (by omega))), fun y => ⟨fun y2 => bX13_qTakes_15 (g16 0 (Or.inl rfl) (fun v => ⟨fun _ => (h01 v).resolve_right y2, fun _ => rfl⟩)), fun y2 => g16 1 (Or.inr rfl) (fun v => ⟨fun v => absurd v (by decide), fun v => absurd (v.symm.trans y2) (by decide)⟩)⟩⟩
/-- a reading is over -/
theorem EnM.rq {I' : Ii} {J' : Jj} {k pl : Nat} (hM : EnM I J sc L s ps g) (hk : ∀ a, a ≠ 0 → a ≠ 75 → a ≠ 76 → I' a = I a) (hf : ∀ j, (j = 58 ∨ j = 60 ∨ j = 65 ∨ j = 66 ∨ j = 104) → I' 0 j = I 0 j) (h1 : I' 0 1 = 0) (h7 : I' 0 7 = nI k) (h8 : I' 0 8 = mI pl) (hj : J' 32 = J 32) (hj0 : J' 0 67 = J 0 67) : EnM I' J' sc L s ps (up (up (up g 0 0 0) 0 1 k) 0 2 pl) := by
  obtain ⟨x1, x2, x3, x4, x5, x6, x7, x8, x9, x10, x11, x12, x13⟩ := hM
  have hg : ∀ j, j ≠ 0 → j ≠ 1 → j ≠ 2 → up (up (up g 0 0 0) 0 1 k) 0 2 pl 0 j = g 0 j := fun j a b c => by simp [up, a, b, c]
  have hr : ∀ a, a ≠ 0 → up (up (up g 0 0 0) 0 1 k) 0 2 pl a = g a := fun a ha => by funext j; simp [up, ha]
  have r0 : up (up (up g 0 0 0) 0 1 k) 0 2 pl 0 0 = 0 := by simp [up]
  have r1 : up (up (up g 0 0 0) 0 1 k) 0 2 pl 0 1 = k := by simp [up]
  have r2 : up (up (up g 0 0 0) 0 1 k) 0 2 pl 0 2 = pl := by simp [up]
  refine ⟨x1.kept (fun a ha => hk a (by omega) (by omega) (by omega)) hj, x2.row (hk 42 (by omega) (by omega) (by omega)), x3, by rw [hk 42 (by omega) (by omega) (by omega)]; exact x4, by rw [hf 58 (by omega)]; exact x5, ⟨⟨by rw [r0]; exact h1, by omega⟩, fun j hj => absurd hj (by omega)⟩, ?_, ⟨by rw [r1]; exact h7, by rw [r2]; exact h8⟩, fun j hj => by rw [hk 2 (by omega) (by omega) (by omega), hr 2 (by omega)]; exact x9 j hj, ?_, by rw [hj0, hg 5 (by omega) (by omega) (by omega)]; exact x11, ?_, fun a ha j hj => by rw [hk a (by omega) (by omega) (by omega)]; exact x13 a ha j hj⟩
  · unfold EnMR
    rw [hf 60 (by omega), hk 46 (by omega) (by omega) (by omega), hg 3 (by omega) (by omega) (by omega), hr 4 (by omega)]; exact x7
  · unfold EnMI
    rw [hf 104 (by omega), hk 78 (by omega) (by omega) (by omega), hg 4 (by omega) (by omega) (by omega), hr 3 (by omega)]; exact x10
  · unfold EnU
    rw [hf 65 (by omega), hf 66 (by omega), hk 49 (by omega) (by omega) (by omega), hg 6 (by omega) (by omega) (by omega)]; exact x12
theorem qrd_ty (h : (qrd g).1 = 0) : ∃ tb, tcs (qrd g).2.2 [] = some [tb] ∧ (wd g (skp g 0) ≤ 30 → tb = true) := by
  unfold qrd at h ⊢
  by_cases e : 28 ≤ wd g (skp g 0) ∧ wd g (skp g 0) ≤ 33
  · rw [if_pos e] at h ⊢
    have qe : ∀ r : Res, (qend g r).1 = 0 → r.1 = 0 ∧ (qend g r).2.2 = r.2.2 := by
      intro r hr
      unfold qend at hr ⊢
      by_cases e1 : r.1 = 0
      · rw [if_pos e1] at hr ⊢
        by_cases e2 : tk g r.2.1 = 300
        · rw [if_pos e2]; exact ⟨e1, rfl⟩
        · rw [if_neg e2] at hr; exact absurd hr (by simp)
      · rw [if_neg e1] at hr; exact absurd hr e1
    have := qe _ h
    rw [this.2]
    by_cases e2 : wd g (skp g 0) ≤ 30
    · rw [if_pos e2] at this ⊢
      exact ⟨true, (test_ty this.1).1, fun _ => rfl⟩
    · rw [if_neg e2] at this ⊢
      exact ⟨false, (sum_ty this.1).1, fun v => absurd v e2⟩
  · rw [if_neg e] at h; exact absurd h (by simp)
/-- one stands at the end -/
theorem bat_end (hG : TxG I g) (hq : q ≤ g 0 0) : bat g q = -1 ↔ tk g q = 300 := by
  unfold bat
  by_cases z : q < g 0 0
  · rw [if_pos z]
    have := (hG.2.1 q z).2
    refine ⟨fun y => absurd y (nI_ne_m1 (by omega)), fun y => ?_⟩
    unfold tk at y
    rw [if_neg (by omega)] at y
    split at y
    · split at y <;> omega
    · split at y
      · split at y <;> omega
      · omega
  · rw [if_neg z]
    exact ⟨fun _ => by unfold tk; rw [if_pos (by omega)], fun _ => rfl⟩
end MV

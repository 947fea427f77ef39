/-! the class's Question -/
def sq (sc s : Sx) (p f k : Nat) : Int := match k with
  | 0 => sc 4 p
  | 1 => pc8 (who s 1 f)
  | 2 => pc8 (who s 2 f)
  | 3 => s 4 0
  | 4 => sc 2 f
  | 7 => s 3 p
  | 8 => mrk sc s p
  | 9 => f
  | 10 => if bel s p f = 1 then 1 else 0
  | 11 => if bel s p f = 2 then 1 else 0
  | _ => 0
def qv (sc s : Sx) (p : Nat) (cs : List Nat) (f : Nat) : Int := (evs (sq sc s p f) (who s 1 f) cs []).headD 0
/-- the answer: w 28 first, 29 last, 30 often, 31 total, 32 most, 33 least -/
def qac (w : Nat) (v : Nat → Int) : Nat → Int
  | 0 => if w = 28 ∨ w = 29 then -1 else 0
  | n + 1 => if w = 32 then (if n = 0 then v n else if qac w v n < v n then v n else qac w v n) else if w = 33 then (if n = 0 then v n else if v n < qac w v n then v n else qac w v n)
    else if w = 29 then (if v n ≠ 0 then (n : Int) else qac w v n) else if w = 28 then (if v n ≠ 0 ∧ qac w v n = -1 then (n : Int) else qac w v n) else qac w v n + v n
def qend (g : Sx) (r : Res) : Res := if r.1 = 0 then (if tk g r.2.1 = 300 then r else (1, r.2.1, [])) else r
def qrd (g : Sx) : Res := if 28 ≤ wd g (skp g 0) ∧ wd g (skp g 0) ≤ 33 then qend g (if wd g (skp g 0) ≤ 30 then pTest g 4 6 (adv g (skp g 0)) else pSum g 4 6 (adv g (skp g 0))) else (1, skp g 0, [])
section SP
variable {d : Nat} {I : Ii} {J : Jj} {sc s t g : Sx} {L : Nat → List Nat} {ps : Nat → Sx}
theorem s_fillSlots {p f : Nat} {K : KV} (hC : EnC I 3 sc L) (hS : EnS I 19 s) (hp : p < sc 0 1) (hf : f < sc 0 0) (h : ∀ I', (∀ a, a ≠ 77 → I' a = I a) → (∀ k, k < 12 → k ≠ 5 → k ≠ 6 → I' 77 k = iI (sq sc s p f k)) → I' 77 12 = nI (who s 1 f) → K I' J) : CalV wX (d + 3) mX5_fillSlots [.ref 71, .int (nI p), .int (nI f)] I J K := by
  have hP := hC.2.1.2
  have hF := hC.1.2
  have w1 := who_lt s 1 f
  have w2 := who_lt s 2 f
  have hwf := hC.2.2.2.2.2.1 f hf
  have hcp := hC.2.2.2.2.2.2.1 p hp
  have tail : ∀ (A : Ii) (y10 y11 : Nat), (∀ a, a ≠ 77 → A a = I a) → A 77 9 = nI f → A 77 4 = nI (sc 2 f) → A 77 10 = nI y10 → A 77 11 = nI y11 → (if bel s p f = 1 then 1 else 0) = y10 → (if bel s p f = 2 then 1 else 0) = y11 →
      (CalI wX (d + 2) mJ6_bitCount_0f7a4 [.int (nI (who s 1 f))] A J (fun x26 I24 J25 => (CalI wX (d + 2) mX12_whoHas [.ref (22), .int (nI f)] (u2 I24 77 (1 : Int32).toNatClampNeg x26) J25 (fun x31 I29 J30 => (CalI wX (d + 2) mJ6_bitCount_0f7a4 [.int (x31)] I29 J30 (fun x34 I32 J33 => (∀ I36 : Ii, I36 = u2 I32 77 (2 : Int32).toNatClampNeg x34 → (vp_in (nI p) 8 ∧ (CalI wX (d + 2) mX7_marksIn [.ref (3), .ref (19), .int (nI p)] (u2 I36 77 (0 : Int32).toNatClampNeg (I36 7 (nI p).toNatClampNeg)) J33 (fun x42 I40 J41 => (∀ I44 : Ii, I44 = u2 I40 77 (8 : Int32).toNatClampNeg x42 → (∀ I46 : Ii, I46 = u2 I44 77 (7 : Int32).toNatClampNeg (I44 23 (nI p).toNatClampNeg) → (K (u2 (u2 I46 77 (3 : Int32).toNatClampNeg (I46 19 0)) 77 (12 : Int32).toNatClampNeg (nI (who s 1 f))) J41))))))))))))) := by
    intro A y10 y11 rA a9 a4 a10 a11 e10 e11
    have rr : ∀ (M : Ii) (k : Nat) (v : Int32), (∀ a, a ≠ 77 → M a = I a) → ∀ a, a ≠ 77 → u2 M 77 k v a = I a := fun M k v hM a ha => by rw [u2_row ha]; exact hM a ha
    rw [c0, c1, c2, c3, c7, c8, nI_clamp (by omega)]
    refine s_bitCount w1 ?_
    have r1 := rr A 1 (nI (pc8 (who s 1 f))) rA
    refine s_whoHas (s := s) (i := 2) arX_22 (by rw [r1 22 (by omega)]; exact hS.2.2.1) (by omega) (s_bitCount w2 ?_)
    rintro _ rfl
    have r2 := rr _ 2 (nI (pc8 (who s 2 f))) r1
    refine ⟨vp_in_nI (by omega) (by omega), ?_⟩
    rw [r2 7 (by omega), show I 7 p = nI (sc 4 p) from hcp.2.2.1]
    have r3 := rr _ 0 (nI (sc 4 p)) r2
    refine s_marksIn obX_3 obX_19 (hC.kept (fun a h1 h2 => r3 a (by omega))) (hS.kept (fun a h1 h2 => r3 a (by omega))) (by omega) ?_
    rintro _ rfl _ rfl
    have r4 := rr _ 8 (iI (mrk sc s p)) r3
    rw [r4 23 (by omega), show I 23 p = nI (s 3 p) from (hS.2.2.2.1 p (by omega)).1]
    have r5 := rr _ 7 (nI (s 3 p)) r4
    rw [r5 19 (by omega), hS.2.2.2.2.1.1]
    refine h _ (fun a ha => by rw [u2_row ha, u2_row ha]; exact r5 a ha) (fun k hk k5 k6 => ?_) (by rw [show (12 : Int32).toNatClampNeg = 12 from rfl, u2_at])
    rw [show (12 : Int32).toNatClampNeg = 12 from rfl]
    rcases (show k = 0 ∨ k = 1 ∨ k = 2 ∨ k = 3 ∨ k = 4 ∨ k = 7 ∨ k = 8 ∨ k = 9 ∨ k = 10 ∨ k = 11 by omega) with rfl | rfl | rfl | rfl | rfl | rfl | rfl | rfl | rfl | rfl
    · simp [u2, sq]; exact (iI_n _).symm
    · simp [u2, sq]; exact (iI_n _).symm
    · simp [u2, sq]; exact (iI_n _).symm
    · simp [u2, sq]; exact (iI_n _).symm
    · simp [u2, sq, a4]; exact (iI_n _).symm
    · simp [u2, sq]; exact (iI_n _).symm
    · simp [u2, sq]
    · simp [u2, sq, a9]; exact (iI_n _).symm
    · simp only [sq]
      rw [show (if bel s p f = 1 then (1 : Int) else 0) = (y10 : Int) by rw [← e10]; split <;> rfl, iI_n]
      simp [u2, a10]
    · simp only [sq]
      rw [show (if bel s p f = 2 then (1 : Int) else 0) = (y11 : Int) by rw [← e11]; split <;> rfl, iI_n]
      simp [u2, a11]
  refine Cal.of (by decide) (Nat.le_of_ble_eq_true rfl) (bX5_fillSlots_0 (s_isPlace (by omega) ⟨fun q => absurd q (by decide), fun _ => ⟨fun q => absurd q (nI_pos (by omega)), fun _ => ⟨fun _ => ?_, fun q => absurd (nI_lt (b := 8) (by omega) (by decide)) q⟩⟩⟩))
  refine s_beliefOf obX_19 hS (by omega) (by omega) (s_whoHas (s := s) (i := 1) arX_21 hS.2.1 (by omega) ?_)
  rintro _ rfl
  refine ⟨vp_in_nI (by omega) (by omega), ?_⟩
  rintro _ rfl
  rw [u2_o (by omega), nI_clamp (n := f) (by omega), show I 5 f = nI (sc 2 f) from hwf.2.2.1, c4, show (9 : Int32).toNatClampNeg = 9 from rfl, show (10 : Int32).toNatClampNeg = 10 from rfl, show (11 : Int32).toNatClampNeg = 11 from rfl]
  have rA : ∀ v10 v11 : Int32, ∀ a, a ≠ 77 → u2 (u2 (u2 (u2 I 77 9 (nI f)) 77 4 (nI (sc 2 f))) 77 10 v10) 77 11 v11 a = I a := fun v10 v11 a ha => by rw [u2_row ha, u2_row ha, u2_row ha, u2_row ha]
  rcases bel3 s p f with e | e | e
  · rw [e] at tail ⊢
    refine ⟨fun _ => ?_, fun q => absurd q (by decide)⟩
    rintro _ rfl
    refine ⟨fun _ => ?_, fun q => absurd q (by decide)⟩
    exact tail _ 0 0 (rA 0 0) (by simp [u2]) (by simp [u2]) (by simp [u2]; rfl) (by simp [u2]; rfl) rfl rfl
  · rw [e] at tail ⊢
    refine ⟨fun q => absurd rfl q, fun _ => ?_⟩
    rintro _ rfl
    refine ⟨fun _ => ?_, fun q => absurd q (by decide)⟩
    exact tail _ 1 0 (rA 1 0) (by simp [u2]) (by simp [u2]) (by simp [u2]; rfl) (by simp [u2]; rfl) rfl rfl
  · rw [e] at tail ⊢
    refine ⟨fun _ => ?_, fun q => absurd q (by decide)⟩
    rintro _ rfl
    refine ⟨fun q => absurd rfl q, fun _ => ?_⟩
    exact tail _ 0 1 (rA 0 1) (by simp [u2]) (by simp [u2]) (by simp [u2]; rfl) (by simp [u2]; rfl) rfl rfl
end SP

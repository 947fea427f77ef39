/-! the class's SchoolReader: a statement, all of them; school -/
section SP
variable {d : Nat} {I : Ii} {J : Jj} {g : Sx} {q z : Nat} {D : Dr}
theorem sw_wv : ∀ i, i < 34 → z_wv 0 (10000 + i) = nI i ∧ z_wsw.getD i 0 = (if i = 0 then 1 else if i = 1 then 2 else if i = 26 then 3 else if i = 27 then 4 else if i = 2 then 5 else if i = 4 then 6 else if i = 5 then 7 else if i = 6 then 8 else if i = 7 then 9 else if i = 8 then 10 else if i = 9 then 11 else 0) := by decide +kernel
theorem SO.b01 {r : SR} {b : Int32} {I' : Ii} (h : SO g I r b I') : b = 0 ∨ b = 1 := by
  by_cases e : r.1 = 0
  · exact Or.inr (h.2.1 e).1
  · exact Or.inl (h.2.2 e).1
theorem SO.b0 {r : SR} {b : Int32} {I' : Ii} (h : SO g I r b I') : b = 0 ↔ r.1 ≠ 0 := by
  constructor
  · intro hb e
    rw [(h.2.1 e).1] at hb
    exact absurd hb (by decide)
  · intro e; exact (h.2.2 e).1
theorem c_st {K : KI} (hT : EnT I g) (hk : TokAt I g q) (hD : EnDr I D z) (hz : z ≤ q) (hK : ∀ b2 I2, SO g I (sSt g D q) b2 I2 → K b2 I2 J) : CalI wX (d + 34) mX8_readStatement [.ref 53] I J K := by
  have hwl := wd_le g q
  have bad : (∀ r : SR, r = (1, q, D) → sSt g D q = r) → CalI wX (d + 33) mX10_failHere [.ref 1] I J (fun x I' J' => ((x = 0 ∨ x = 1) ∧ K x I' J')) := fun e => s_failHere hk (fun I2 fB hF => ⟨Or.inl rfl, hK 0 I2 (by rw [e _ rfl]; exact SO.no fB.D (by simp) hF)⟩)
  refine Cal.of (by decide) (Nat.le_of_ble_eq_true rfl) (bX8_readStatement_0 (s_knownWord (d := d + 32) hT hk ⟨fun y ey => ?_, fun ey => ?_⟩))
  case refine_2 =>
    have hw : wd g q = 34 := by
      unfold wop at ey
      split at ey
      · cases ey
      · omega
    exact bad (fun r er => by rw [er, sSt, hw]; rfl)
  have hw : wd g q < 34 := by
    unfold wop at ey
    split at ey
    · assumption
    · cases ey
  have hsw := sw_wv (wd g q) hw
  have out : ∀ {r : SR}, sSt g D q = r → ∀ b2 I2, SO g I r b2 I2 → ((b2 = 0 ∨ b2 = 1) ∧ K b2 I2 J) := fun e b2 I2 h => ⟨h.b01, hK b2 I2 (by rw [e]; exact h)⟩
  refine ⟨10000 + wd g q, by rw [wop, if_pos hw], by omega, ?_⟩
  rw [hsw.1, nI_clamp (by omega), hsw.2]
  refine ⟨vp_in_nI hw (by omega), ?_⟩
  by_cases e0 : wd g q = 0
  · have er : sSt g D q = sNew g 0 20 1 9 D q := by rw [sSt, if_pos e0]
    rw [e0]
    refine ⟨fun _ => ?_, fun y => absurd y (by decide), fun y => absurd y (by decide), fun y => absurd y (by decide), fun y => absurd y (by decide), fun y => absurd y (by decide), fun y => absurd y (by decide), fun y => absurd y (by decide), fun y => absurd y (by decide), fun y => absurd y (by decide), fun y => absurd y (by decide), fun y => absurd rfl y⟩
    exact c_new (d := d + 29) (i := 0) (wo := 20) (a := 1) (b := 9) (Or.inl rfl) (by omega) ⟨by omega, rfl⟩ (fun h => Cal.of (by decide) (Nat.le_of_ble_eq_true rfl) (bX8_readFact_0 h)) hT hk hD hz (out er)
  by_cases e1 : wd g q = 1
  · have er : sSt g D q = sNew g 1 16 0 99 D q := by rw [sSt, if_neg e0, if_pos e1]
    rw [e1]
    refine ⟨fun y => absurd y (by decide), fun _ => ?_, fun y => absurd y (by decide), fun y => absurd y (by decide), fun y => absurd y (by decide), fun y => absurd y (by decide), fun y => absurd y (by decide), fun y => absurd y (by decide), fun y => absurd y (by decide), fun y => absurd y (by decide), fun y => absurd y (by decide), fun _ y => absurd rfl y⟩
    exact c_new (d := d + 29) (i := 1) (wo := 16) (a := 0) (b := 99) (Or.inr rfl) (by omega) ⟨by omega, rfl⟩ (fun h => Cal.of (by decide) (Nat.le_of_ble_eq_true rfl) (bX8_readPerson_0 h)) hT hk hD hz (out er)
  by_cases e26 : wd g q = 26
  · have er : sSt g D q = sBel g 1 D q := by rw [sSt, if_neg e0, if_neg e1, if_pos e26]
    rw [e26]
    refine ⟨fun y => absurd y (by decide), fun y => absurd y (by decide), fun _ => ?_, fun y => absurd y (by decide), fun y => absurd y (by decide), fun y => absurd y (by decide), fun y => absurd y (by decide), fun y => absurd y (by decide), fun y => absurd y (by decide), fun y => absurd y (by decide), fun y => absurd y (by decide), fun _ _ y => absurd rfl y⟩
    exact c_bel (d := d + 29) (b := 1) (Or.inl rfl) hT hk hD hz (out er)
  by_cases e27 : wd g q = 27
  · have er : sSt g D q = sBel g 2 D q := by rw [sSt, if_neg e0, if_neg e1, if_neg e26, if_pos e27]
    rw [e27]
    refine ⟨fun y => absurd y (by decide), fun y => absurd y (by decide), fun y => absurd y (by decide), fun _ => ?_, fun y => absurd y (by decide), fun y => absurd y (by decide), fun y => absurd y (by decide), fun y => absurd y (by decide), fun y => absurd y (by decide), fun y => absurd y (by decide), fun y => absurd y (by decide), fun _ _ _ y => absurd rfl y⟩
    exact c_bel (d := d + 29) (b := 2) (Or.inr rfl) hT hk hD hz (out er)
  by_cases e2 : wd g q = 2
  · have er : sSt g D q = sTau g D q := by rw [sSt, if_neg e0, if_neg e1, if_neg e26, if_neg e27, if_pos e2]
    rw [e2]
    refine ⟨fun y => absurd y (by decide), fun y => absurd y (by decide), fun y => absurd y (by decide), fun y => absurd y (by decide), fun _ => ?_, fun y => absurd y (by decide), fun y => absurd y (by decide), fun y => absurd y (by decide), fun y => absurd y (by decide), fun y => absurd y (by decide), fun y => absurd y (by decide), fun _ _ _ _ y => absurd rfl y⟩
    exact c_tau (d := d + 29) hT hk hD hz (out er)
  by_cases e4 : wd g q = 4
  · have er : sSt g D q = sLaw g 0 1 D q := by rw [sSt, if_neg e0, if_neg e1, if_neg e26, if_neg e27, if_neg e2, if_pos e4]
    rw [e4]
    refine ⟨fun y => absurd y (by decide), fun y => absurd y (by decide), fun y => absurd y (by decide), fun y => absurd y (by decide), fun y => absurd y (by decide), fun _ => ?_, fun y => absurd y (by decide), fun y => absurd y (by decide), fun y => absurd y (by decide), fun y => absurd y (by decide), fun y => absurd y (by decide), fun _ _ _ _ _ y => absurd rfl y⟩
    exact c_law (d := d) (w := 0) (sco := 1) (by omega) rfl hT hk hD hz (out er)
  by_cases e5 : wd g q = 5
  · have er : sSt g D q = sLaw g 1 1 D q := by rw [sSt, if_neg e0, if_neg e1, if_neg e26, if_neg e27, if_neg e2, if_neg e4, if_pos e5]
    rw [e5]
    refine ⟨fun y => absurd y (by decide), fun y => absurd y (by decide), fun y => absurd y (by decide), fun y => absurd y (by decide), fun y => absurd y (by decide), fun y => absurd y (by decide), fun _ => ?_, fun y => absurd y (by decide), fun y => absurd y (by decide), fun y => absurd y (by decide), fun y => absurd y (by decide), fun _ _ _ _ _ _ y => absurd rfl y⟩
    exact c_law (d := d) (w := 1) (sco := 1) (by omega) rfl hT hk hD hz (out er)
  by_cases e6 : wd g q = 6
  · have er : sSt g D q = sLaw g 2 2 D q := by rw [sSt, if_neg e0, if_neg e1, if_neg e26, if_neg e27, if_neg e2, if_neg e4, if_neg e5, if_pos e6]
    rw [e6]
    refine ⟨fun y => absurd y (by decide), fun y => absurd y (by decide), fun y => absurd y (by decide), fun y => absurd y (by decide), fun y => absurd y (by decide), fun y => absurd y (by decide), fun y => absurd y (by decide), fun _ => ?_, fun y => absurd y (by decide), fun y => absurd y (by decide), fun y => absurd y (by decide), fun _ _ _ _ _ _ _ y => absurd rfl y⟩
    exact c_law (d := d) (w := 2) (sco := 2) (by omega) rfl hT hk hD hz (out er)
  by_cases e7 : wd g q = 7
  · have er : sSt g D q = sNum g 2 0 99 D q := by rw [sSt, if_neg e0, if_neg e1, if_neg e26, if_neg e27, if_neg e2, if_neg e4, if_neg e5, if_neg e6, if_pos e7]
    rw [e7]
    refine ⟨fun y => absurd y (by decide), fun y => absurd y (by decide), fun y => absurd y (by decide), fun y => absurd y (by decide), fun y => absurd y (by decide), fun y => absurd y (by decide), fun y => absurd y (by decide), fun y => absurd y (by decide), fun _ => ?_, fun y => absurd y (by decide), fun y => absurd y (by decide), fun _ _ _ _ _ _ _ _ y => absurd rfl y⟩
    exact c_num (d := d + 31) (i := 2) (a := 0) (b := 99) (Or.inl rfl) rfl rfl (fun h => Cal.of (by decide) (Nat.le_of_ble_eq_true rfl) (bX8_readEnough_0 h)) hT hk hD hz (out er)
  by_cases e8 : wd g q = 8
  · have er : sSt g D q = sNum g 3 0 9 D q := by rw [sSt, if_neg e0, if_neg e1, if_neg e26, if_neg e27, if_neg e2, if_neg e4, if_neg e5, if_neg e6, if_neg e7, if_pos e8]
    rw [e8]
    refine ⟨fun y => absurd y (by decide), fun y => absurd y (by decide), fun y => absurd y (by decide), fun y => absurd y (by decide), fun y => absurd y (by decide), fun y => absurd y (by decide), fun y => absurd y (by decide), fun y => absurd y (by decide), fun y => absurd y (by decide), fun _ => ?_, fun y => absurd y (by decide), fun _ _ _ _ _ _ _ _ _ y => absurd rfl y⟩
    exact c_num (d := d + 31) (i := 3) (a := 0) (b := 9) (Or.inr (Or.inl rfl)) rfl rfl (fun h => Cal.of (by decide) (Nat.le_of_ble_eq_true rfl) (bX8_readTries_0 h)) hT hk hD hz (out er)
  by_cases e9 : wd g q = 9
  · have er : sSt g D q = sNum g 4 0 100 D q := by rw [sSt, if_neg e0, if_neg e1, if_neg e26, if_neg e27, if_neg e2, if_neg e4, if_neg e5, if_neg e6, if_neg e7, if_neg e8, if_pos e9]
    rw [e9]
    refine ⟨fun y => absurd y (by decide), fun y => absurd y (by decide), fun y => absurd y (by decide), fun y => absurd y (by decide), fun y => absurd y (by decide), fun y => absurd y (by decide), fun y => absurd y (by decide), fun y => absurd y (by decide), fun y => absurd y (by decide), fun y => absurd y (by decide), fun _ => ?_, fun _ _ _ _ _ _ _ _ _ _ y => absurd rfl y⟩
    exact c_num (d := d + 31) (i := 4) (a := 0) (b := 100) (Or.inr (Or.inr rfl)) rfl rfl (fun h => Cal.of (by decide) (Nat.le_of_ble_eq_true rfl) (bX8_readIllness_0 h)) hT hk hD hz (out er)
  rw [if_neg e0, if_neg e1, if_neg e26, if_neg e27, if_neg e2, if_neg e4, if_neg e5, if_neg e6, if_neg e7, if_neg e8, if_neg e9]
  refine ⟨fun y => absurd y (by decide), fun y => absurd y (by decide), fun y => absurd y (by decide), fun y => absurd y (by decide), fun y => absurd y (by decide), fun y => absurd y (by decide), fun y => absurd y (by decide), fun y => absurd y (by decide), fun y => absurd y (by decide), fun y => absurd y (by decide), fun y => absurd y (by decide), fun _ _ _ _ _ _ _ _ _ _ _ => bad (fun r er => ?_)⟩
  rw [er, sSt, if_neg e0, if_neg e1, if_neg e26, if_neg e27, if_neg e2, if_neg e4, if_neg e5, if_neg e6, if_neg e7, if_neg e8, if_neg e9]
theorem okS_0 : okS (D0).1 (fun _ _ => 0) := by
  refine ⟨⟨fun k hk => ⟨by simp, by simp [D0], by simp [D0], fun f hf y => by simp [bq] at y, by simp, fun _ => ⟨rfl, rfl, rfl⟩⟩, by simp [D0], by simp [D0], by simp⟩, by simp, fun k hk => by simp [anc]⟩
theorem s_dclear {K : KV} (h69 : ∀ k, k < 30 → I 69 k = 0) (h : ∀ I', EnDr I' D0 0 → FrD I I' → I' 1 = I 1 → K I' J) : CalV wX (d + 2) mX7_clear [.ref 54] I J K := by
  refine Cal.of (by decide) (Nat.le_of_ble_eq_true rfl) (bX7_clear_0 obX_54 ?_)
  refine s_fclear obX_59 arX_61 arX_62 (fun I1 r1 k1 s1 b1 => ?_)
  have rr : ∀ a, a ≠ 54 → u2 (u2 (u2 (u2 (u2 I 54 0 0) 54 1 0) 54 2 10) 54 3 3) 54 4 0 a = I a := fun a ha => by rw [u2_row ha, u2_row ha, u2_row ha, u2_row ha, u2_row ha]
  refine s_clear (d := d) obX_64 arX_65 arX_66 arX_67 arX_68 (fun k hk => by rw [r1 _ (by omega) (by omega) (by omega), rr _ (by omega)]; exact h69 k hk) (fun I2 h2 f2 z2 => h I2 ?_ ?_ ?_)
  · have e54 : I2 54 = u2 (u2 (u2 (u2 (u2 I 54 0 0) 54 1 0) 54 2 10) 54 3 3) 54 4 0 54 := by rw [f2 54 (by omega), r1 54 (by omega) (by omega) (by omega)]
    refine ⟨⟨?_, ?_, ?_, ?_, ?_, fun k hk => absurd hk (by simp [D0]), fun k hk => absurd hk (by simp [D0]), fun k hk => ?_, fun k hk => ⟨Or.inl rfl, fun c hc => absurd hc (by simp [D0])⟩⟩, h2, okS_0, ⟨?_, by omega⟩, fun k hk => ⟨0, ?_, by omega⟩⟩
    · rw [e54]; exact ⟨by simp [u2, D0]; rfl, by simp [D0]⟩
    · rw [e54]; exact ⟨by simp [u2, D0]; rfl, by simp [D0]⟩
    · rw [e54]; exact ⟨by simp [u2, D0]; rfl, by simp [D0]⟩
    · rw [e54]; exact ⟨by simp [u2, D0]; rfl, by simp [D0]⟩
    · rw [e54]; exact ⟨by simp [u2, D0]; rfl, by simp [D0]⟩
    · refine ⟨0, 0, ?_, ?_, by simp [D0], by omega, fun i hi => absurd hi (by simp [D0])⟩
      · rw [f2 _ (by omega)]; exact (b1 k hk).1
      · rw [f2 _ (by omega)]; exact (b1 k hk).2
    · rw [f2 59 (by omega)]; exact s1
    · rw [f2 62 (by omega)]; exact (b1 k hk).2
  · refine ⟨fun a y1 y2 => ?_, fun k hk => ?_, fun k hk => ?_⟩
    · rw [f2 a (by omega), r1 a (by omega) (by omega) (by omega), rr a (by omega)]
    · rw [f2 1 (by omega), r1 1 (by omega) (by omega) (by omega), rr 1 (by omega)]
    · rw [show (69 : Nat) = 64 + 5 from rfl, z2, r1 _ (by omega) (by omega) (by omega), rr _ (by omega)]
  · rw [f2 1 (by omega), r1 1 (by omega) (by omega) (by omega), rr 1 (by omega)]
end SP

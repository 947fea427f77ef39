/-! the law, from its entry -/
theorem whole_start {p : Program} {e : Env} {s : State} {m : MethodId} {below : List Frame} {meth : Method} {c : Code} (l : Launch) {b L : Nat} {xs : Nat → Int32} (hL : L ≤ 3072) (C0 : lw_At p s m meth c b L xs) : W p l e room_1 s m #[Value.ref b] below meth c s.heap [] 0 0 (lw_Z below #[Value.ref b] s) (entryFrame m ([Value.ref b] : List Value).toArray 4) := by
  obtain ⟨hx, hb, hr, hml, hown, hts, hX, hbl, hlocks, hgv⟩ := id C0
  obtain ⟨E, hE1, hE2, hC⟩ := z_start0 (A := LA s) l s.heap.size hts hgv (fun a ha => Nat.not_le.mpr ha)
  have hS : va_S (LA s) s.heap s.heap [] := va_S.rf
  have hl := lv_entry ([.ref b]) (n := 4) (Nat.le_of_ble_eq_true rfl)
  rw [lg_entry_eq]
  generalize (lg_sl ([.ref b]) ++ List.replicate (4 - (lg_sl ([.ref b])).length) Slot.unset).toArray = ls at hl ⊢
  have hl : lv_has ls 4 [(0, .ref b)] := hl
  subst hE1
  refine l_make (lay := wX.1) (Ea := E) (ci := 12) (N1 := 200) (S1 := 8769) (n1 := 201) (d := 4) (M' := mX12_init) (P := pS 0 0 1 (fun _ _ => none) (List.replicate 16 none)) (I := iS 0 1 (fun _ _ => 0) [0, 0, 0, 0, 0, 0, 0, 0, 0, 0, 0, 0, 0, 0, 0, 0]) (J := J0x) (Q1 := fun P' I' J' => P' = pE 20 0 201 (fun _ _ => none) ∧ I' = IX0 ∧ J' = J0x) C0 hC hE2.symm hl hS dL_0 dL_3 dL_4 (z_c1 20 (by decide +kernel) rfl) (z_c1 21 (by decide +kernel) rfl) (z_c1 1 (by decide +kernel) rfl) (by decide) rfl (show (fun j => (List.replicate 16 (none : Option Nat)).getD j none) = (fun _ => none) from rp_nil) (by decide) rfl (z_c1 22 (by decide +kernel) rfl) md_X12_init rfl rfl (z_c1 23 (by decide +kernel) rfl) (by decide) (by decide) (k_X12 (d := 0) ⟨rfl, rfl, rfl⟩) (fun P1 I1 J1 H1 locs1 hq hP1 z1 o1 hS1 => ?_)
  obtain ⟨rfl, rfl, rfl⟩ := hq
  rw [z_wsP px_all] at hP1
  have hP1 : va_P E.2.2.2.1 z_cls (z_ws wX E IX0 J0x) H1 := hP1
  refine lv_astore_n (lv' := [(1, .ref E.2.1), (0, .ref b)]) hx hb dL_7 rfl hl (by decide) rfl (fun ls1 hl1 => ?_)
  refine l_make (lay := wM.1) (Ea := z_E2 E) (ci := 13) (N1 := 78) (S1 := 13175) (n1 := 79) (d := 1) (M' := mX13_init) (P := fun _ _ => none) (I := fun _ _ => 0) (J := fun _ _ => 0) (Q1 := fun P' I' J' => (∀ j, P' 0 j = z_PMl.getD j none) ∧ I' = IM0 ∧ J' = JM0) C0 hC z1 hl1 hS1 dL_8 dL_11 dL_12 (z_c5 161 (by decide +kernel) rfl) (z_c5 162 (by decide +kernel) rfl) (z_c1 15 (by decide +kernel) rfl) (by decide) rfl rfl (by decide) rfl (z_c5 163 (by decide +kernel) rfl) md_X13_init rfl rfl (z_c5 164 (by decide +kernel) rfl) (by decide) (by decide) (m_make (d := 0) rfl (fun P' hP' => ⟨hP', rfl, rfl⟩)) (fun P2 I2 J2 H2 locs2 hq2 hP2 z2 o2 hS2 => ?_)
  obtain ⟨hp2, rfl, rfl⟩ := hq2
  have hPX : va_P E.2.2.2.1 z_cls (z_ws wX E IX0 J0x) H2 := hP1.kept (fun j x hx => o2 _ ((hP1 j x hx).lt))
  rw [z_wsP0 (P' := wM.2.2) (funext hp2) (by decide +kernel)] at hP2
  have hPM : va_P E.2.2.2.1 z_cls (z_ws wM (z_E2 E) IM0 JM0) H2 := hP2
  refine lv_astore_n (lv' := [(2, .ref (E.2.1 + 201)), (1, .ref E.2.1), (0, .ref b)]) hx hb dL_15 rfl hl1 (by decide) rfl (fun ls2 hl2 => ?_)
  refine lv_iconst (v := nI 0) hx hb dL_16 (by decide) ?_
  refine lv_istore_n (lv' := [(3, .int (nI 0)), (2, .ref (E.2.1 + 201)), (1, .ref E.2.1), (0, .ref b)]) hx hb dL_17 rfl hl2 (by decide) rfl (fun ls3 hl3 => ?_)
  exact law_loop (C := (p, e, s, m, below, meth, c, b, L, xs, E)) hL (L + 1) 0 (by show L < 0 + 6 * (L + 1); omega) (by decide) IX0 J0x IM0 JM0 _ _ _ _ _ EnX0 EnM0 ⟨C0, hL, hE2, hC.1⟩ H2 ls3 locs2 (lv_sub hl3 [3, 2, 1, 0] rfl) hPX hPM hS2

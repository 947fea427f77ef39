/-! the class is made -/
theorem dX12_init_0 : decode cX12_init 0 = .ok (.aload_n 0, 1) := by decide +kernel
theorem dX12_init_1 : decode cX12_init 1 = .ok (.invokespecial 3, 3) := by decide +kernel
theorem dX12_init_4 : decode cX12_init 4 = .ok (.aload_n 0, 1) := by decide +kernel
theorem dX12_init_5 : decode cX12_init 5 = .ok (.new 9, 3) := by decide +kernel
theorem dX12_init_8 : decode cX12_init 8 = .ok (.dup, 1) := by decide +kernel
theorem dX12_init_9 : decode cX12_init 9 = .ok (.invokespecial 11, 3) := by decide +kernel
theorem dX12_init_12 : decode cX12_init 12 = .ok (.putfield 12, 3) := by decide +kernel
theorem dX12_init_15 : decode cX12_init 15 = .ok (.aload_n 0, 1) := by decide +kernel
theorem dX12_init_16 : decode cX12_init 16 = .ok (.new 16, 3) := by decide +kernel
theorem dX12_init_19 : decode cX12_init 19 = .ok (.dup, 1) := by decide +kernel
theorem dX12_init_20 : decode cX12_init 20 = .ok (.invokespecial 18, 3) := by decide +kernel
theorem dX12_init_23 : decode cX12_init 23 = .ok (.putfield 19, 3) := by decide +kernel
theorem dX12_init_26 : decode cX12_init 26 = .ok (.aload_n 0, 1) := by decide +kernel
theorem dX12_init_27 : decode cX12_init 27 = .ok (.new 23, 3) := by decide +kernel
theorem dX12_init_30 : decode cX12_init 30 = .ok (.dup, 1) := by decide +kernel
theorem dX12_init_31 : decode cX12_init 31 = .ok (.invokespecial 25, 3) := by decide +kernel
theorem dX12_init_34 : decode cX12_init 34 = .ok (.putfield 26, 3) := by decide +kernel
theorem dX12_init_37 : decode cX12_init 37 = .ok (.aload_n 0, 1) := by decide +kernel
theorem dX12_init_38 : decode cX12_init 38 = .ok (.new 23, 3) := by decide +kernel
theorem dX12_init_41 : decode cX12_init 41 = .ok (.dup, 1) := by decide +kernel
theorem dX12_init_42 : decode cX12_init 42 = .ok (.invokespecial 25, 3) := by decide +kernel
theorem dX12_init_45 : decode cX12_init 45 = .ok (.putfield 30, 3) := by decide +kernel
theorem dX12_init_48 : decode cX12_init 48 = .ok (.aload_n 0, 1) := by decide +kernel
theorem dX12_init_49 : decode cX12_init 49 = .ok (.bipush 20, 2) := by decide +kernel
theorem dX12_init_51 : decode cX12_init 51 = .ok (.anewarray 23, 3) := by decide +kernel
theorem dX12_init_54 : decode cX12_init 54 = .ok (.putfield 33, 3) := by decide +kernel
theorem dX12_init_57 : decode cX12_init 57 = .ok (.aload_n 0, 1) := by decide +kernel
theorem dX12_init_58 : decode cX12_init 58 = .ok (.iconst 0, 1) := by decide +kernel
theorem dX12_init_59 : decode cX12_init 59 = .ok (.putfield 37, 3) := by decide +kernel
theorem dX12_init_62 : decode cX12_init 62 = .ok (.aload_n 0, 1) := by decide +kernel
theorem dX12_init_63 : decode cX12_init 63 = .ok (.iconst 0, 1) := by decide +kernel
theorem dX12_init_64 : decode cX12_init 64 = .ok (.putfield 41, 3) := by decide +kernel
theorem dX12_init_67 : decode cX12_init 67 = .ok (.aload_n 0, 1) := by decide +kernel
theorem dX12_init_68 : decode cX12_init 68 = .ok (.new 44, 3) := by decide +kernel
theorem dX12_init_71 : decode cX12_init 71 = .ok (.dup, 1) := by decide +kernel
theorem dX12_init_72 : decode cX12_init 72 = .ok (.aload_n 0, 1) := by decide +kernel
theorem dX12_init_73 : decode cX12_init 73 = .ok (.getfield 19, 3) := by decide +kernel
theorem dX12_init_76 : decode cX12_init 76 = .ok (.invokespecial 46, 3) := by decide +kernel
theorem dX12_init_79 : decode cX12_init 79 = .ok (.putfield 49, 3) := by decide +kernel
theorem dX12_init_82 : decode cX12_init 82 = .ok (.aload_n 0, 1) := by decide +kernel
theorem dX12_init_83 : decode cX12_init 83 = .ok (.new 53, 3) := by decide +kernel
theorem dX12_init_86 : decode cX12_init 86 = .ok (.dup, 1) := by decide +kernel
theorem dX12_init_87 : decode cX12_init 87 = .ok (.aload_n 0, 1) := by decide +kernel
theorem dX12_init_88 : decode cX12_init 88 = .ok (.getfield 19, 3) := by decide +kernel
theorem dX12_init_91 : decode cX12_init 91 = .ok (.aload_n 0, 1) := by decide +kernel
theorem dX12_init_92 : decode cX12_init 92 = .ok (.getfield 26, 3) := by decide +kernel
theorem dX12_init_95 : decode cX12_init 95 = .ok (.aload_n 0, 1) := by decide +kernel
theorem dX12_init_96 : decode cX12_init 96 = .ok (.getfield 49, 3) := by decide +kernel
theorem dX12_init_99 : decode cX12_init 99 = .ok (.invokespecial 55, 3) := by decide +kernel
theorem dX12_init_102 : decode cX12_init 102 = .ok (.putfield 58, 3) := by decide +kernel
theorem dX12_init_105 : decode cX12_init 105 = .ok (.aload_n 0, 1) := by decide +kernel
theorem dX12_init_106 : decode cX12_init 106 = .ok (.new 62, 3) := by decide +kernel
theorem dX12_init_109 : decode cX12_init 109 = .ok (.dup, 1) := by decide +kernel
theorem dX12_init_110 : decode cX12_init 110 = .ok (.aload_n 0, 1) := by decide +kernel
theorem dX12_init_111 : decode cX12_init 111 = .ok (.getfield 19, 3) := by decide +kernel
theorem dX12_init_114 : decode cX12_init 114 = .ok (.aload_n 0, 1) := by decide +kernel
theorem dX12_init_115 : decode cX12_init 115 = .ok (.getfield 26, 3) := by decide +kernel
theorem dX12_init_118 : decode cX12_init 118 = .ok (.aload_n 0, 1) := by decide +kernel
theorem dX12_init_119 : decode cX12_init 119 = .ok (.getfield 49, 3) := by decide +kernel
theorem dX12_init_122 : decode cX12_init 122 = .ok (.invokespecial 64, 3) := by decide +kernel
theorem dX12_init_125 : decode cX12_init 125 = .ok (.putfield 65, 3) := by decide +kernel
theorem dX12_init_128 : decode cX12_init 128 = .ok (.aload_n 0, 1) := by decide +kernel
theorem dX12_init_129 : decode cX12_init 129 = .ok (.new 69, 3) := by decide +kernel
theorem dX12_init_132 : decode cX12_init 132 = .ok (.dup, 1) := by decide +kernel
theorem dX12_init_133 : decode cX12_init 133 = .ok (.aload_n 0, 1) := by decide +kernel
theorem dX12_init_134 : decode cX12_init 134 = .ok (.getfield 12, 3) := by decide +kernel
theorem dX12_init_137 : decode cX12_init 137 = .ok (.invokespecial 71, 3) := by decide +kernel
theorem dX12_init_140 : decode cX12_init 140 = .ok (.putfield 74, 3) := by decide +kernel
theorem dX12_init_143 : decode cX12_init 143 = .ok (.aload_n 0, 1) := by decide +kernel
theorem dX12_init_144 : decode cX12_init 144 = .ok (.new 78, 3) := by decide +kernel
theorem dX12_init_147 : decode cX12_init 147 = .ok (.dup, 1) := by decide +kernel
theorem dX12_init_148 : decode cX12_init 148 = .ok (.aload_n 0, 1) := by decide +kernel
theorem dX12_init_149 : decode cX12_init 149 = .ok (.getfield 12, 3) := by decide +kernel
theorem dX12_init_152 : decode cX12_init 152 = .ok (.aload_n 0, 1) := by decide +kernel
theorem dX12_init_153 : decode cX12_init 153 = .ok (.getfield 19, 3) := by decide +kernel
theorem dX12_init_156 : decode cX12_init 156 = .ok (.aload_n 0, 1) := by decide +kernel
theorem dX12_init_157 : decode cX12_init 157 = .ok (.getfield 26, 3) := by decide +kernel
theorem dX12_init_160 : decode cX12_init 160 = .ok (.invokespecial 80, 3) := by decide +kernel
theorem dX12_init_163 : decode cX12_init 163 = .ok (.putfield 83, 3) := by decide +kernel
theorem dX12_init_166 : decode cX12_init 166 = .ok (.aload_n 0, 1) := by decide +kernel
theorem dX12_init_167 : decode cX12_init 167 = .ok (.bipush 6, 2) := by decide +kernel
theorem dX12_init_169 : decode cX12_init 169 = .ok (.newarray .int, 2) := by decide +kernel
theorem dX12_init_171 : decode cX12_init 171 = .ok (.putfield 87, 3) := by decide +kernel
theorem dX12_init_174 : decode cX12_init 174 = .ok (.aload_n 0, 1) := by decide +kernel
theorem dX12_init_175 : decode cX12_init 175 = .ok (.bipush 43, 2) := by decide +kernel
theorem dX12_init_177 : decode cX12_init 177 = .ok (.newarray .int, 2) := by decide +kernel
theorem dX12_init_179 : decode cX12_init 179 = .ok (.putfield 91, 3) := by decide +kernel
theorem dX12_init_182 : decode cX12_init 182 = .ok (.aload_n 0, 1) := by decide +kernel
theorem dX12_init_183 : decode cX12_init 183 = .ok (.iconst 0, 1) := by decide +kernel
theorem dX12_init_184 : decode cX12_init 184 = .ok (.putfield 94, 3) := by decide +kernel
theorem dX12_init_187 : decode cX12_init 187 = .ok (.aload_n 0, 1) := by decide +kernel
theorem dX12_init_188 : decode cX12_init 188 = .ok (.iconst 1, 1) := by decide +kernel
theorem dX12_init_189 : decode cX12_init 189 = .ok (.putfield 97, 3) := by decide +kernel
theorem dX12_init_192 : decode cX12_init 192 = .ok (.iconst 0, 1) := by decide +kernel
theorem dX12_init_193 : decode cX12_init 193 = .ok (.istore_n 1, 1) := by decide +kernel
theorem dX12_init_194 : decode cX12_init 194 = .ok (.iload_n 1, 1) := by decide +kernel
theorem dX12_init_195 : decode cX12_init 195 = .ok (.bipush 20, 2) := by decide +kernel
theorem dX12_init_197 : decode cX12_init 197 = .ok (.if_icmp .ge 22, 3) := by decide +kernel
theorem dX12_init_200 : decode cX12_init 200 = .ok (.aload_n 0, 1) := by decide +kernel
theorem dX12_init_201 : decode cX12_init 201 = .ok (.getfield 33, 3) := by decide +kernel
theorem dX12_init_204 : decode cX12_init 204 = .ok (.iload_n 1, 1) := by decide +kernel
theorem dX12_init_205 : decode cX12_init 205 = .ok (.new 23, 3) := by decide +kernel
theorem dX12_init_208 : decode cX12_init 208 = .ok (.dup, 1) := by decide +kernel
theorem dX12_init_209 : decode cX12_init 209 = .ok (.invokespecial 25, 3) := by decide +kernel
theorem dX12_init_212 : decode cX12_init 212 = .ok (.aastore, 1) := by decide +kernel
theorem dX12_init_213 : decode cX12_init 213 = .ok (.iinc 1 1, 3) := by decide +kernel
theorem dX12_init_216 : decode cX12_init 216 = .ok (.goto (-22), 3) := by decide +kernel
theorem dX12_init_219 : decode cX12_init 219 = .ok (.return_, 1) := by decide +kernel
theorem PX31 : PXw 0 31 = fun _ => none := by funext j; simp [PXw]
section MK
variable {d : Nat} {PL : Rf} {IL : Ii} {Q : QN}
theorem pS_31 {i n : Nat} {pl : List (Option Nat)} (hn : 31 < n) : p2 (pS i 0 n PL pl) 31 i (81 + 6 * i) = pS (i + 1) 0 n PL pl := by
  have hp : ∀ w, pS w 0 n PL pl 31 = fun j => if j < w then some (81 + 6 * j) else none := fun w => by
    unfold pS PXw
    rw [if_neg (by omega), if_neg (by omega), if_pos hn, if_pos rfl]
  funext a j
  by_cases e : a = 31
  · subst e
    show (if 31 = 31 ∧ j = i then some (81 + 6 * i) else pS i 0 n PL pl 31 j) = pS (i + 1) 0 n PL pl 31 j
    rw [hp, hp]
    by_cases e2 : j = i
    · rw [if_pos ⟨rfl, e2⟩]
      show _ = if j < i + 1 then some (81 + 6 * j) else none
      rw [if_pos (by omega), e2]
    · rw [if_neg (fun q => e2 q.2)]
      show (if j < i then some (81 + 6 * j) else none) = if j < i + 1 then some (81 + 6 * j) else none
      by_cases e3 : j < i
      · rw [if_pos e3, if_pos (by omega)]
      · rw [if_neg e3, if_neg (by omega)]
  · show (if a = 31 ∧ j = i then some (81 + 6 * i) else pS i 0 n PL pl a j) = pS (i + 1) 0 n PL pl a j
    rw [if_neg (fun q => e q.1)]
    unfold pS PXw
    simp only [e, if_false]
theorem k_loop (h : Q (pE 20 0 201 PL) (iE 0 201 IL) J0x) : ∀ r i, i + r = 20 → GoN wX.1 (d + 4) 200 8769 mX12_init 194 [(1, .int (nI i)), (0, .ref 0)] [] (81 + 6 * i) (80 + 6 * i) (7349 + 71 * i) (pS i 0 (81 + 6 * i) PL [some 1, some 3, some 19, some 25, some 31, none, none, some 32, some 36, some 43, some 53, some 71, some 79, some 80, none, none]) (iS 0 (81 + 6 * i) IL [0, 0, 0, 0, 0, 0, 0, 0, 0, 0, 0, 0, 0, 0, 0, 1]) J0x 201 Q := by
  intro r
  induction r with
  | zero =>
    intro i hi
    obtain rfl : i = 20 := by omega
    refine n_iload_n dX12_init_194 0 1 rfl rfl ?_
    refine n_bipush (v := 20) dX12_init_195 (by decide) ?_
    refine n_icmp_ge (tgt := 219) dX12_init_197 rfl (fun _ => ?_) (fun q => absurd (by decide) q)
    exact c_ret (n := 201) dX12_init_219 rfl (by decide) (by decide) (by decide) ((lgeq 16 (by decide) (by decide) (by decide) : _ = fun j => (z_PXl.getD 0 []).getD j none).trans (PX_row (by decide)).symm) (lgeq 16 (by decide) (by decide) (by decide)) h
  | succ r ih =>
    intro i hi
    refine n_iload_n dX12_init_194 0 1 rfl rfl ?_
    refine n_bipush (v := 20) dX12_init_195 (by decide) ?_
    refine n_icmp_ge (tgt := 219) dX12_init_197 rfl (fun q => absurd ((nI_leI (a := 20) (by decide) (by omega)).mp q) (by omega)) (fun _ => ?_)
    refine n_aload_n dX12_init_200 1 0 rfl rfl ?_
    refine c_get (a := 31) dX12_init_201 fl_X12_33 rfl ⟨rfl, by omega, by decide, by decide⟩ rfl ?_
    refine n_iload_n dX12_init_204 0 1 rfl rfl ?_
    have hs := st_p i (by omega)
    have hI : I0l (81 + 6 * i) = [] := if_neg (by omega)
    refine c_newo (c := 9) dX12_init_205 (by omega) (z_c1 235 (by decide +kernel) rfl) (z_c1 102 (by decide +kernel) rfl) (z_c1 5 (by decide +kernel) rfl) (by decide) hs.1.1 (by rw [hI]; decide) (by omega) (by omega) (by show 7349 + 71 * i + 9 ≤ 8769; omega) ?_
    refine n_dup dX12_init_208 rfl ?_
    refine c_call (n := 81 + 6 * i) (m := 9) (N1 := 5) (S1 := 62) (n1 := 81 + 6 * i + 6) (As := []) (rest := [.ref (81 + 6 * i), .int (nI i), .ref 31]) (bl := List.replicate 9 0) dX12_init_209 ml_X12_25 md_X9_init rfl rfl (z_c1 104 (by decide +kernel) rfl) rfl rfl (Nat.le_of_ble_eq_true rfl) (by omega) (by show 7349 + 71 * i + 9 + 62 ≤ 8769; omega) (by omega) (by omega) (by rw [rp_nil, I0_nil (by omega)]) (fun h => k_X9 hs (d := d + 2) h) ?_
    refine n_aast (a := 31) (k := 20) (o := 81 + 6 * i) dX12_init_212 ⟨rfl, by show 31 < 81 + 6 * i + 6; omega, by decide⟩ ⟨hs.1.1, by show 81 + 6 * i < 81 + 6 * i + 6; omega, by omega, by decide⟩ (vp_in_nI (by omega) (by decide)) ?_
    rw [nI_clamp (by omega), pS_31 (by omega)]
    refine n_iinc (ls' := [(1, .int (nI (i + 1))), (0, .ref 0)]) dX12_init_213 0 rfl (nI_1 i) (by decide) rfl ?_
    refine n_goto (tgt := 194) dX12_init_216 rfl ?_
    have := ih (i + 1) (by omega)
    rw [show 81 + 6 * (i + 1) = 81 + 6 * i + 6 by omega, show 80 + 6 * (i + 1) = 80 + 6 * i + 1 + 5 by omega, show 7349 + 71 * (i + 1) = 7349 + 71 * i + 9 + 62 by omega] at this
    exact this
theorem k_X12 (h : Q (pE 20 0 201 PL) (iE 0 201 IL) J0x) : CalN wX.1 (d + 4) 200 8769 mX12_init [.ref 0] 1 (pS 0 0 1 PL (List.replicate 16 none)) (iS 0 1 IL [0, 0, 0, 0, 0, 0, 0, 0, 0, 0, 0, 0, 0, 0, 0, 0]) J0x 201 Q := by
  refine CalN.of (by omega) (by decide) rfl (Nat.le_of_ble_eq_true rfl) ?_
  refine n_aload_n dX12_init_0 0 0 rfl rfl ?_
  refine n_obj dX12_init_1 (z_c1 25 (by decide +kernel) rfl) (z_c1 26 (by decide +kernel) rfl) (z_c1 27 (by decide +kernel) rfl) (by omega) ?_
  refine n_aload_n dX12_init_4 0 0 rfl rfl ?_
  refine c_newo (c := 10) dX12_init_5 (by decide) (z_c1 28 (by decide +kernel) rfl) (z_c1 29 (by decide +kernel) rfl) (z_c1 2 (by decide +kernel) rfl) (by decide) rfl (by decide) (by decide) (by decide) (by decide) ?_
  refine n_dup dX12_init_8 rfl ?_
  refine c_call (n := 1) (m := 9) (N1 := 1) (S1 := 1600) (n1 := 3) (As := []) (rest := [.ref 1, .ref 0]) (bl := [0, 0, 0, 0, 0, 0, 0, 0, 0]) dX12_init_9 ml_X12_11 md_X10_init rfl rfl (z_c1 31 (by decide +kernel) rfl) rfl rfl (by decide) (by decide) (by decide) (by decide) rfl (lgeq 9 (by decide) (by decide) (by decide)) (fun h => k_X10_1 (d := d + 2) h) ?_
  refine c_putR (a := 1) [some 1, none, none, none, none, none, none, none, none, none, none, none, none, none, none, none] dX12_init_12 fl_X12_12 rfl rfl rfl (fun _ => rfl) (fun _ => rfl) ⟨rfl, Nat.le_of_ble_eq_true rfl, by decide, by decide⟩ (by decide) rfl ?_
  refine n_aload_n dX12_init_15 0 0 rfl rfl ?_
  refine c_newo (c := 7) dX12_init_16 (by decide) (z_c1 73 (by decide +kernel) rfl) (z_c1 74 (by decide +kernel) rfl) (z_c1 3 (by decide +kernel) rfl) (by decide) rfl (by decide) (by decide) (by decide) (by decide) ?_
  refine n_dup dX12_init_19 rfl ?_
  refine c_call (n := 3) (m := 11) (N1 := 15) (S1 := 1778) (n1 := 19) (As := []) (rest := [.ref 3, .ref 0]) (bl := [0, 0, 0, 0, 0, 0, 0, 0, 0, 0, 0]) dX12_init_20 ml_X12_18 md_X7_init rfl rfl (z_c1 76 (by decide +kernel) rfl) rfl rfl (by decide) (by decide) (by decide) (by decide) rfl (lgeq 11 (by decide) (by decide) (by decide)) (fun h => k_X7_3 (d := d + 1) h) ?_
  refine c_putR (a := 3) [some 1, some 3, none, none, none, none, none, none, none, none, none, none, none, none, none, none] dX12_init_23 fl_X12_19 rfl rfl rfl (fun _ => rfl) (fun _ => rfl) ⟨rfl, Nat.le_of_ble_eq_true rfl, by decide, by decide⟩ (by decide) rfl ?_
  refine n_aload_n dX12_init_26 0 0 rfl rfl ?_
  refine c_newo (c := 9) dX12_init_27 (by decide) (z_c1 235 (by decide +kernel) rfl) (z_c1 102 (by decide +kernel) rfl) (z_c1 5 (by decide +kernel) rfl) (by decide) rfl (by decide) (by decide) (by decide) (by decide) ?_
  refine n_dup dX12_init_30 rfl ?_
  refine c_call (n := 19) (m := 9) (N1 := 5) (S1 := 62) (n1 := 25) (As := []) (rest := [.ref 19, .ref 0]) (bl := [0, 0, 0, 0, 0, 0, 0, 0, 0]) dX12_init_31 ml_X12_25 md_X9_init rfl rfl (z_c1 104 (by decide +kernel) rfl) rfl rfl (by decide) (by decide) (by decide) (by decide) rfl (lgeq 9 (by decide) (by decide) (by decide)) (fun h => k_X9 st_19 (d := d + 2) h) ?_
  refine c_putR (a := 19) [some 1, some 3, some 19, none, none, none, none, none, none, none, none, none, none, none, none, none] dX12_init_34 fl_X12_26 rfl rfl rfl (fun _ => rfl) (fun _ => rfl) ⟨rfl, Nat.le_of_ble_eq_true rfl, by decide, by decide⟩ (by decide) rfl ?_
  refine n_aload_n dX12_init_37 0 0 rfl rfl ?_
  refine c_newo (c := 9) dX12_init_38 (by decide) (z_c1 235 (by decide +kernel) rfl) (z_c1 102 (by decide +kernel) rfl) (z_c1 5 (by decide +kernel) rfl) (by decide) rfl (by decide) (by decide) (by decide) (by decide) ?_
  refine n_dup dX12_init_41 rfl ?_
  refine c_call (n := 25) (m := 9) (N1 := 5) (S1 := 62) (n1 := 31) (As := []) (rest := [.ref 25, .ref 0]) (bl := [0, 0, 0, 0, 0, 0, 0, 0, 0]) dX12_init_42 ml_X12_25 md_X9_init rfl rfl (z_c1 104 (by decide +kernel) rfl) rfl rfl (by decide) (by decide) (by decide) (by decide) rfl (lgeq 9 (by decide) (by decide) (by decide)) (fun h => k_X9 st_25 (d := d + 2) h) ?_
  refine c_putR (a := 25) [some 1, some 3, some 19, some 25, none, none, none, none, none, none, none, none, none, none, none, none] dX12_init_45 fl_X12_30 rfl rfl rfl (fun _ => rfl) (fun _ => rfl) ⟨rfl, Nat.le_of_ble_eq_true rfl, by decide, by decide⟩ (by decide) rfl ?_
  refine n_aload_n dX12_init_48 0 0 rfl rfl ?_
  refine n_bipush (v := 20) dX12_init_49 (by decide) ?_
  refine n_anew (k := 20) dX12_init_51 (z_c1 235 (by decide +kernel) rfl) rfl (pS_at (by decide)) (by decide) (by decide) (by decide) (by decide) (by decide) (by decide) ?_
  rw [pS_new (n := 31) (by decide) PX31, iS_new (n := 31) (by decide) ((FX_nil rfl).trans (I0_nil (by decide)).symm)]
  refine c_putR (a := 31) [some 1, some 3, some 19, some 25, some 31, none, none, none, none, none, none, none, none, none, none, none] dX12_init_54 fl_X12_33 rfl rfl rfl (fun _ => rfl) (fun _ => rfl) ⟨rfl, Nat.le_of_ble_eq_true rfl, by decide, by decide⟩ (by decide) rfl ?_
  refine n_aload_n dX12_init_57 0 0 rfl rfl ?_
  refine n_iconst (v := 0) dX12_init_58 (by decide) ?_
  refine c_putI [0, 0, 0, 0, 0, 0, 0, 0, 0, 0, 0, 0, 0, 0, 0, 0] dX12_init_59 fl_X12_37 rfl rfl rfl rfl ⟨rfl, Nat.le_of_ble_eq_true rfl, by decide, by decide⟩ (by decide) rfl ?_
  refine n_aload_n dX12_init_62 0 0 rfl rfl ?_
  refine n_iconst (v := 0) dX12_init_63 (by decide) ?_
  refine c_putI [0, 0, 0, 0, 0, 0, 0, 0, 0, 0, 0, 0, 0, 0, 0, 0] dX12_init_64 fl_X12_41 rfl rfl rfl rfl ⟨rfl, Nat.le_of_ble_eq_true rfl, by decide, by decide⟩ (by decide) rfl ?_
  refine n_aload_n dX12_init_67 0 0 rfl rfl ?_
  refine c_newo (c := 1) dX12_init_68 (by decide) (z_c1 238 (by decide +kernel) rfl) (z_c1 239 (by decide +kernel) rfl) (z_c1 7 (by decide +kernel) rfl) (by decide) rfl (by decide) (by decide) (by decide) (by decide) ?_
  refine n_dup dX12_init_71 rfl ?_
  refine n_aload_n dX12_init_72 0 0 rfl rfl ?_
  refine n_getP (o := 0) (a := 3) dX12_init_73 fl_X12_19 rfl ⟨rfl, Nat.le_of_ble_eq_true rfl, by decide, by decide⟩ rfl ?_
  refine c_call (n := 32) (m := 4) (N1 := 3) (S1 := 29) (n1 := 36) (As := [.ref 3]) (rest := [.ref 32, .ref 0]) (bl := [0, 0, 0, 0]) dX12_init_76 ml_X12_46 md_X1_init rfl rfl (z_c2 1 (by decide +kernel) rfl) rfl rfl (by decide) (by decide) (by decide) (by decide) rfl (lgeq 4 (by decide) (by decide) (by decide)) (fun h => k_X1_32 (d := d + 2) h) ?_
  refine c_putR (a := 32) [some 1, some 3, some 19, some 25, some 31, none, none, some 32, none, none, none, none, none, none, none, none] dX12_init_79 fl_X12_49 rfl rfl rfl (fun _ => rfl) (fun _ => rfl) ⟨rfl, Nat.le_of_ble_eq_true rfl, by decide, by decide⟩ (by decide) rfl ?_
  refine n_aload_n dX12_init_82 0 0 rfl rfl ?_
  refine c_newo (c := 2) dX12_init_83 (by decide) (z_c2 17 (by decide +kernel) rfl) (z_c2 18 (by decide +kernel) rfl) (z_c1 8 (by decide +kernel) rfl) (by decide) rfl (by decide) (by decide) (by decide) (by decide) ?_
  refine n_dup dX12_init_86 rfl ?_
  refine n_aload_n dX12_init_87 0 0 rfl rfl ?_
  refine n_getP (o := 0) (a := 3) dX12_init_88 fl_X12_19 rfl ⟨rfl, Nat.le_of_ble_eq_true rfl, by decide, by decide⟩ rfl ?_
  refine n_aload_n dX12_init_91 0 0 rfl rfl ?_
  refine n_getP (o := 0) (a := 19) dX12_init_92 fl_X12_26 rfl ⟨rfl, Nat.le_of_ble_eq_true rfl, by decide, by decide⟩ rfl ?_
  refine n_aload_n dX12_init_95 0 0 rfl rfl ?_
  refine n_getP (o := 0) (a := 32) dX12_init_96 fl_X12_49 rfl ⟨rfl, Nat.le_of_ble_eq_true rfl, by decide, by decide⟩ rfl ?_
  refine c_call (n := 36) (m := 6) (N1 := 6) (S1 := 71) (n1 := 43) (As := [.ref 3, .ref 19, .ref 32]) (rest := [.ref 36, .ref 0]) (bl := [0, 0, 0, 0, 0, 0]) dX12_init_99 ml_X12_55 md_X2_init rfl rfl (z_c2 20 (by decide +kernel) rfl) rfl rfl (by decide) (by decide) (by decide) (by decide) rfl (lgeq 6 (by decide) (by decide) (by decide)) (fun h => k_X2_36 (d := d + 1) h) ?_
  refine c_putR (a := 36) [some 1, some 3, some 19, some 25, some 31, none, none, some 32, some 36, none, none, none, none, none, none, none] dX12_init_102 fl_X12_58 rfl rfl rfl (fun _ => rfl) (fun _ => rfl) ⟨rfl, Nat.le_of_ble_eq_true rfl, by decide, by decide⟩ (by decide) rfl ?_
  refine n_aload_n dX12_init_105 0 0 rfl rfl ?_
  refine c_newo (c := 6) dX12_init_106 (by decide) (z_c2 46 (by decide +kernel) rfl) (z_c2 47 (by decide +kernel) rfl) (z_c1 9 (by decide +kernel) rfl) (by decide) rfl (by decide) (by decide) (by decide) (by decide) ?_
  refine n_dup dX12_init_109 rfl ?_
  refine n_aload_n dX12_init_110 0 0 rfl rfl ?_
  refine n_getP (o := 0) (a := 3) dX12_init_111 fl_X12_19 rfl ⟨rfl, Nat.le_of_ble_eq_true rfl, by decide, by decide⟩ rfl ?_
  refine n_aload_n dX12_init_114 0 0 rfl rfl ?_
  refine n_getP (o := 0) (a := 19) dX12_init_115 fl_X12_26 rfl ⟨rfl, Nat.le_of_ble_eq_true rfl, by decide, by decide⟩ rfl ?_
  refine n_aload_n dX12_init_118 0 0 rfl rfl ?_
  refine n_getP (o := 0) (a := 32) dX12_init_119 fl_X12_49 rfl ⟨rfl, Nat.le_of_ble_eq_true rfl, by decide, by decide⟩ rfl ?_
  refine c_call (n := 43) (m := 10) (N1 := 9) (S1 := 127) (n1 := 53) (As := [.ref 3, .ref 19, .ref 32]) (rest := [.ref 43, .ref 0]) (bl := [0, 0, 0, 0, 0, 0, 0, 0, 0, 0]) dX12_init_122 ml_X12_64 md_X6_init rfl rfl (z_c2 49 (by decide +kernel) rfl) rfl rfl (by decide) (by decide) (by decide) (by decide) rfl (lgeq 10 (by decide) (by decide) (by decide)) (fun h => k_X6_43 (d := d + 1) h) ?_
  refine c_putR (a := 43) [some 1, some 3, some 19, some 25, some 31, none, none, some 32, some 36, some 43, none, none, none, none, none, none] dX12_init_125 fl_X12_65 rfl rfl rfl (fun _ => rfl) (fun _ => rfl) ⟨rfl, Nat.le_of_ble_eq_true rfl, by decide, by decide⟩ (by decide) rfl ?_
  refine n_aload_n dX12_init_128 0 0 rfl rfl ?_
  refine c_newo (c := 8) dX12_init_129 (by decide) (z_c2 88 (by decide +kernel) rfl) (z_c2 89 (by decide +kernel) rfl) (z_c1 10 (by decide +kernel) rfl) (by decide) rfl (by decide) (by decide) (by decide) (by decide) ?_
  refine n_dup dX12_init_132 rfl ?_
  refine n_aload_n dX12_init_133 0 0 rfl rfl ?_
  refine n_getP (o := 0) (a := 1) dX12_init_134 fl_X12_12 rfl ⟨rfl, Nat.le_of_ble_eq_true rfl, by decide, by decide⟩ rfl ?_
  refine c_call (n := 53) (m := 3) (N1 := 17) (S1 := 1792) (n1 := 71) (As := [.ref 1]) (rest := [.ref 53, .ref 0]) (bl := [0, 0, 0]) dX12_init_137 ml_X12_71 md_X8_init rfl rfl (z_c2 91 (by decide +kernel) rfl) rfl rfl (by decide) (by decide) (by decide) (by decide) rfl (lgeq 3 (by decide) (by decide) (by decide)) (fun h => k_X8_53 (d := d + 0) h) ?_
  refine c_putR (a := 53) [some 1, some 3, some 19, some 25, some 31, none, none, some 32, some 36, some 43, some 53, none, none, none, none, none] dX12_init_140 fl_X12_74 rfl rfl rfl (fun _ => rfl) (fun _ => rfl) ⟨rfl, Nat.le_of_ble_eq_true rfl, by decide, by decide⟩ (by decide) rfl ?_
  refine n_aload_n dX12_init_143 0 0 rfl rfl ?_
  refine c_newo (c := 5) dX12_init_144 (by decide) (z_c2 125 (by decide +kernel) rfl) (z_c2 126 (by decide +kernel) rfl) (z_c1 12 (by decide +kernel) rfl) (by decide) rfl (by decide) (by decide) (by decide) (by decide) ?_
  refine n_dup dX12_init_147 rfl ?_
  refine n_aload_n dX12_init_148 0 0 rfl rfl ?_
  refine n_getP (o := 0) (a := 1) dX12_init_149 fl_X12_12 rfl ⟨rfl, Nat.le_of_ble_eq_true rfl, by decide, by decide⟩ rfl ?_
  refine n_aload_n dX12_init_152 0 0 rfl rfl ?_
  refine n_getP (o := 0) (a := 3) dX12_init_153 fl_X12_19 rfl ⟨rfl, Nat.le_of_ble_eq_true rfl, by decide, by decide⟩ rfl ?_
  refine n_aload_n dX12_init_156 0 0 rfl rfl ?_
  refine n_getP (o := 0) (a := 19) dX12_init_157 fl_X12_26 rfl ⟨rfl, Nat.le_of_ble_eq_true rfl, by decide, by decide⟩ rfl ?_
  refine c_call (n := 71) (m := 7) (N1 := 7) (S1 := 1691) (n1 := 79) (As := [.ref 1, .ref 3, .ref 19]) (rest := [.ref 71, .ref 0]) (bl := [0, 0, 0, 0, 0, 0, -1]) dX12_init_160 ml_X12_80 md_X5_init rfl rfl (z_c2 128 (by decide +kernel) rfl) rfl rfl (by decide) (by decide) (by decide) (by decide) rfl (lgeq 7 (by decide) (by decide) (by decide)) (fun h => k_X5_71 (d := d + 1) h) ?_
  refine c_putR (a := 71) [some 1, some 3, some 19, some 25, some 31, none, none, some 32, some 36, some 43, some 53, some 71, none, none, none, none] dX12_init_163 fl_X12_83 rfl rfl rfl (fun _ => rfl) (fun _ => rfl) ⟨rfl, Nat.le_of_ble_eq_true rfl, by decide, by decide⟩ (by decide) rfl ?_
  refine n_aload_n dX12_init_166 0 0 rfl rfl ?_
  refine n_bipush (v := 6) dX12_init_167 (by decide) ?_
  refine c_newI (n := 79) (k := 6) dX12_init_169 (by decide) rfl rfl (by decide) rfl (by decide) (by decide) (by decide) (by decide) (by decide) ?_
  refine c_putR (a := 79) [some 1, some 3, some 19, some 25, some 31, none, none, some 32, some 36, some 43, some 53, some 71, some 79, none, none, none] dX12_init_171 fl_X12_87 rfl rfl rfl (fun _ => rfl) (fun _ => rfl) ⟨rfl, Nat.le_of_ble_eq_true rfl, by decide, by decide⟩ (by decide) rfl ?_
  refine n_aload_n dX12_init_174 0 0 rfl rfl ?_
  refine n_bipush (v := 43) dX12_init_175 (by decide) ?_
  refine c_newI (n := 80) (k := 43) dX12_init_177 (by decide) rfl rfl (by decide) rfl (by decide) (by decide) (by decide) (by decide) (by decide) ?_
  refine c_putR (a := 80) [some 1, some 3, some 19, some 25, some 31, none, none, some 32, some 36, some 43, some 53, some 71, some 79, some 80, none, none] dX12_init_179 fl_X12_91 rfl rfl rfl (fun _ => rfl) (fun _ => rfl) ⟨rfl, Nat.le_of_ble_eq_true rfl, by decide, by decide⟩ (by decide) rfl ?_
  refine n_aload_n dX12_init_182 0 0 rfl rfl ?_
  refine n_iconst (v := 0) dX12_init_183 (by decide) ?_
  refine c_putI [0, 0, 0, 0, 0, 0, 0, 0, 0, 0, 0, 0, 0, 0, 0, 0] dX12_init_184 fl_X12_94 rfl rfl rfl rfl ⟨rfl, Nat.le_of_ble_eq_true rfl, by decide, by decide⟩ (by decide) rfl ?_
  refine n_aload_n dX12_init_187 0 0 rfl rfl ?_
  refine n_iconst (v := 1) dX12_init_188 (by decide) ?_
  refine c_putI [0, 0, 0, 0, 0, 0, 0, 0, 0, 0, 0, 0, 0, 0, 0, 1] dX12_init_189 fl_X12_97 rfl rfl rfl rfl ⟨rfl, Nat.le_of_ble_eq_true rfl, by decide, by decide⟩ (by decide) rfl ?_
  refine n_iconst (v := 0) dX12_init_192 (by decide) ?_
  refine n_istore_n (i := 1) (ls' := [(1, .int 0), (0, .ref 0)]) dX12_init_193 rfl (by decide) rfl ?_
  exact k_loop h 20 0 rfl
end MK

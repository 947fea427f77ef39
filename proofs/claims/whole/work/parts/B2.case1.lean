/-! the law: calls 0 to 7 -/
theorem dL_176 : decode code 176 = .ok (.aload_n 1, 1) := by decide +kernel
theorem dL_177 : decode code 177 = .ok (.aload_n 0, 1) := by decide +kernel
theorem dL_178 : decode code 178 = .ok (.iload_n 3, 1) := by decide +kernel
theorem dL_179 : decode code 179 = .ok (.iconst 1, 1) := by decide +kernel
theorem dL_180 : decode code 180 = .ok (.iadd, 1) := by decide +kernel
theorem dL_181 : decode code 181 = .ok (.iaload, 1) := by decide +kernel
theorem dL_182 : decode code 182 = .ok (.aload_n 0, 1) := by decide +kernel
theorem dL_183 : decode code 183 = .ok (.iload_n 3, 1) := by decide +kernel
theorem dL_184 : decode code 184 = .ok (.iconst 2, 1) := by decide +kernel
theorem dL_185 : decode code 185 = .ok (.iadd, 1) := by decide +kernel
theorem dL_186 : decode code 186 = .ok (.iaload, 1) := by decide +kernel
theorem dL_187 : decode code 187 = .ok (.aload_n 0, 1) := by decide +kernel
theorem dL_188 : decode code 188 = .ok (.iload_n 3, 1) := by decide +kernel
theorem dL_189 : decode code 189 = .ok (.iconst 3, 1) := by decide +kernel
theorem dL_190 : decode code 190 = .ok (.iadd, 1) := by decide +kernel
theorem dL_191 : decode code 191 = .ok (.iaload, 1) := by decide +kernel
theorem dL_192 : decode code 192 = .ok (.aload_n 0, 1) := by decide +kernel
theorem dL_193 : decode code 193 = .ok (.iload_n 3, 1) := by decide +kernel
theorem dL_194 : decode code 194 = .ok (.iconst 4, 1) := by decide +kernel
theorem dL_195 : decode code 195 = .ok (.iadd, 1) := by decide +kernel
theorem dL_196 : decode code 196 = .ok (.iaload, 1) := by decide +kernel
theorem dL_197 : decode code 197 = .ok (.aload_n 0, 1) := by decide +kernel
theorem dL_198 : decode code 198 = .ok (.iload_n 3, 1) := by decide +kernel
theorem dL_199 : decode code 199 = .ok (.iconst 5, 1) := by decide +kernel
theorem dL_200 : decode code 200 = .ok (.iadd, 1) := by decide +kernel
theorem dL_201 : decode code 201 = .ok (.iaload, 1) := by decide +kernel
theorem dL_202 : decode code 202 = .ok (.invokevirtual 13, 3) := by decide +kernel
theorem dL_205 : decode code 205 = .ok (.aload_n 2, 1) := by decide +kernel
theorem dL_206 : decode code 206 = .ok (.aload_n 0, 1) := by decide +kernel
theorem dL_207 : decode code 207 = .ok (.iload_n 3, 1) := by decide +kernel
theorem dL_208 : decode code 208 = .ok (.iconst 1, 1) := by decide +kernel
theorem dL_209 : decode code 209 = .ok (.iadd, 1) := by decide +kernel
theorem dL_210 : decode code 210 = .ok (.iaload, 1) := by decide +kernel
theorem dL_211 : decode code 211 = .ok (.aload_n 0, 1) := by decide +kernel
theorem dL_212 : decode code 212 = .ok (.iload_n 3, 1) := by decide +kernel
theorem dL_213 : decode code 213 = .ok (.iconst 2, 1) := by decide +kernel
theorem dL_214 : decode code 214 = .ok (.iadd, 1) := by decide +kernel
theorem dL_215 : decode code 215 = .ok (.iaload, 1) := by decide +kernel
theorem dL_216 : decode code 216 = .ok (.aload_n 0, 1) := by decide +kernel
theorem dL_217 : decode code 217 = .ok (.iload_n 3, 1) := by decide +kernel
theorem dL_218 : decode code 218 = .ok (.iconst 3, 1) := by decide +kernel
theorem dL_219 : decode code 219 = .ok (.iadd, 1) := by decide +kernel
theorem dL_220 : decode code 220 = .ok (.iaload, 1) := by decide +kernel
theorem dL_221 : decode code 221 = .ok (.aload_n 0, 1) := by decide +kernel
theorem dL_222 : decode code 222 = .ok (.iload_n 3, 1) := by decide +kernel
theorem dL_223 : decode code 223 = .ok (.iconst 4, 1) := by decide +kernel
theorem dL_224 : decode code 224 = .ok (.iadd, 1) := by decide +kernel
theorem dL_225 : decode code 225 = .ok (.iaload, 1) := by decide +kernel
theorem dL_226 : decode code 226 = .ok (.aload_n 0, 1) := by decide +kernel
theorem dL_227 : decode code 227 = .ok (.iload_n 3, 1) := by decide +kernel
theorem dL_228 : decode code 228 = .ok (.iconst 5, 1) := by decide +kernel
theorem dL_229 : decode code 229 = .ok (.iadd, 1) := by decide +kernel
theorem dL_230 : decode code 230 = .ok (.iaload, 1) := by decide +kernel
theorem dL_231 : decode code 231 = .ok (.invokevirtual 17, 3) := by decide +kernel
theorem dL_234 : decode code 234 = .ok (.if_icmp .eq 830, 3) := by decide +kernel
theorem lc_0 {C : Ct} {i : Nat} {I1 : Ii} {J1 : Jj} {I2 : Ii} {J2 : Jj} {sc : Sx} {L : Nat → List Nat} {s : Sx} {ps : Nat → Sx} {g : Sx} (hi : i + 6 ≤ CL C) (hL : CL C ≤ 3072) (hX : EnX I1 sc L s ps g) (hM : EnM I2 J2 sc L s ps g) (h : ∀ I1' J1' I2' J2' sc' L' s' ps' g', EnX I1' sc' L' s' ps' g' → EnM I2' J2' sc' L' s' ps' g' → LW C 1064 (lsC C i) [] I1' J1' I2' J2') : LW C 176 (lsC C i) [] I1 J1 I2 J2 := by
  refine l_aload dL_176 1 1 rfl rfl ?_
  refine l_aload dL_177 0 0 rfl rfl ?_
  refine l_iload dL_178 3 3 rfl rfl ?_
  refine l_iconst (v := nI 1) dL_179 rfl ?_
  refine l_iadd (z := nI (i + 1)) dL_180 (nI_add i 1) ?_
  refine l_iald dL_181 (by omega) hL ?_
  refine l_aload dL_182 0 0 rfl rfl ?_
  refine l_iload dL_183 3 3 rfl rfl ?_
  refine l_iconst (v := nI 2) dL_184 rfl ?_
  refine l_iadd (z := nI (i + 2)) dL_185 (nI_add i 2) ?_
  refine l_iald dL_186 (by omega) hL ?_
  refine l_aload dL_187 0 0 rfl rfl ?_
  refine l_iload dL_188 3 3 rfl rfl ?_
  refine l_iconst (v := nI 3) dL_189 rfl ?_
  refine l_iadd (z := nI (i + 3)) dL_190 (nI_add i 3) ?_
  refine l_iald dL_191 (by omega) hL ?_
  refine l_aload dL_192 0 0 rfl rfl ?_
  refine l_iload dL_193 3 3 rfl rfl ?_
  refine l_iconst (v := nI 4) dL_194 rfl ?_
  refine l_iadd (z := nI (i + 4)) dL_195 (nI_add i 4) ?_
  refine l_iald dL_196 (by omega) hL ?_
  refine l_aload dL_197 0 0 rfl rfl ?_
  refine l_iload dL_198 3 3 rfl rfl ?_
  refine l_iconst (v := nI 5) dL_199 rfl ?_
  refine l_iadd (z := nI (i + 5)) dL_200 (nI_add i 5) ?_
  refine l_iald dL_201 (by omega) hL ?_
  refine l_callX (As := [.int (Cx C (i + 1)), .int (Cx C (i + 2)), .int (Cx C (i + 3)), .int (Cx C (i + 4)), .int (Cx C (i + 5))]) (rest := []) dL_202 ml_L_13 md_X12_feed mv_X12_feed rfl rfl (fun _ => rfl) rfl (by decide) (by decide) (x_feed (d := 0) (K := fun x I' _ => x = (r_feed g) ∧ EnX I' sc L s ps (g_feed g (Cx C (i + 1)) (Cx C (i + 2)) (Cx C (i + 3)) (Cx C (i + 4)) (Cx C (i + 5)))) hX (fun I' h9 => ⟨rfl, h9⟩)) (fun r I' J' q => ?_)
  obtain ⟨x, rfl, rfl, hX1⟩ := q
  refine ⟨fun _ => rfl, ?_⟩
  refine l_aload dL_205 2 2 rfl rfl ?_
  refine l_aload dL_206 0 0 rfl rfl ?_
  refine l_iload dL_207 3 3 rfl rfl ?_
  refine l_iconst (v := nI 1) dL_208 rfl ?_
  refine l_iadd (z := nI (i + 1)) dL_209 (nI_add i 1) ?_
  refine l_iald dL_210 (by omega) hL ?_
  refine l_aload dL_211 0 0 rfl rfl ?_
  refine l_iload dL_212 3 3 rfl rfl ?_
  refine l_iconst (v := nI 2) dL_213 rfl ?_
  refine l_iadd (z := nI (i + 2)) dL_214 (nI_add i 2) ?_
  refine l_iald dL_215 (by omega) hL ?_
  refine l_aload dL_216 0 0 rfl rfl ?_
  refine l_iload dL_217 3 3 rfl rfl ?_
  refine l_iconst (v := nI 3) dL_218 rfl ?_
  refine l_iadd (z := nI (i + 3)) dL_219 (nI_add i 3) ?_
  refine l_iald dL_220 (by omega) hL ?_
  refine l_aload dL_221 0 0 rfl rfl ?_
  refine l_iload dL_222 3 3 rfl rfl ?_
  refine l_iconst (v := nI 4) dL_223 rfl ?_
  refine l_iadd (z := nI (i + 4)) dL_224 (nI_add i 4) ?_
  refine l_iald dL_225 (by omega) hL ?_
  refine l_aload dL_226 0 0 rfl rfl ?_
  refine l_iload dL_227 3 3 rfl rfl ?_
  refine l_iconst (v := nI 5) dL_228 rfl ?_
  refine l_iadd (z := nI (i + 5)) dL_229 (nI_add i 5) ?_
  refine l_iald dL_230 (by omega) hL ?_
  refine l_callM (As := [.int (Cx C (i + 1)), .int (Cx C (i + 2)), .int (Cx C (i + 3)), .int (Cx C (i + 4)), .int (Cx C (i + 5))]) (rest := [.int ((r_feed g))]) dL_231 ml_L_17 md_X13_feed mv_X13_feed rfl rfl (fun _ => rfl) rfl (Nat.le_of_ble_eq_true rfl) (by decide) (y_feed (d := 0) (K := fun x I' J' => x = (r_feed g) ∧ EnM I' J' sc L s ps (g_feed g (Cx C (i + 1)) (Cx C (i + 2)) (Cx C (i + 3)) (Cx C (i + 4)) (Cx C (i + 5)))) hM (fun I' h9 => ⟨rfl, h9⟩)) (fun r I2' J2' q => ?_)
  obtain ⟨x, rfl, rfl, hM1⟩ := q
  refine ⟨fun _ => rfl, ?_⟩
  exact l_same dL_234 rfl (h _ _ _ _ _ _ _ _ _ hX1 hM1)
theorem dL_239 : decode code 239 = .ok (.aload_n 1, 1) := by decide +kernel
theorem dL_240 : decode code 240 = .ok (.aload_n 0, 1) := by decide +kernel
theorem dL_241 : decode code 241 = .ok (.iload_n 3, 1) := by decide +kernel
theorem dL_242 : decode code 242 = .ok (.iconst 1, 1) := by decide +kernel
theorem dL_243 : decode code 243 = .ok (.iadd, 1) := by decide +kernel
theorem dL_244 : decode code 244 = .ok (.iaload, 1) := by decide +kernel
theorem dL_245 : decode code 245 = .ok (.invokevirtual 18, 3) := by decide +kernel
theorem dL_248 : decode code 248 = .ok (.aload_n 2, 1) := by decide +kernel
theorem dL_249 : decode code 249 = .ok (.aload_n 0, 1) := by decide +kernel
theorem dL_250 : decode code 250 = .ok (.iload_n 3, 1) := by decide +kernel
theorem dL_251 : decode code 251 = .ok (.iconst 1, 1) := by decide +kernel
theorem dL_252 : decode code 252 = .ok (.iadd, 1) := by decide +kernel
theorem dL_253 : decode code 253 = .ok (.iaload, 1) := by decide +kernel
theorem dL_254 : decode code 254 = .ok (.invokevirtual 22, 3) := by decide +kernel
theorem dL_257 : decode code 257 = .ok (.if_icmp .eq 807, 3) := by decide +kernel
theorem lc_1 {C : Ct} {i : Nat} {I1 : Ii} {J1 : Jj} {I2 : Ii} {J2 : Jj} {sc : Sx} {L : Nat → List Nat} {s : Sx} {ps : Nat → Sx} {g : Sx} (hi : i + 6 ≤ CL C) (hL : CL C ≤ 3072) (hX : EnX I1 sc L s ps g) (hM : EnM I2 J2 sc L s ps g) (h : ∀ I1' J1' I2' J2' sc' L' s' ps' g', EnX I1' sc' L' s' ps' g' → EnM I2' J2' sc' L' s' ps' g' → LW C 1064 (lsC C i) [] I1' J1' I2' J2') : LW C 239 (lsC C i) [] I1 J1 I2 J2 := by
  refine l_aload dL_239 1 1 rfl rfl ?_
  refine l_aload dL_240 0 0 rfl rfl ?_
  refine l_iload dL_241 3 3 rfl rfl ?_
  refine l_iconst (v := nI 1) dL_242 rfl ?_
  refine l_iadd (z := nI (i + 1)) dL_243 (nI_add i 1) ?_
  refine l_iald dL_244 (by omega) hL ?_
  refine l_callX (As := [.int (Cx C (i + 1))]) (rest := []) dL_245 ml_L_18 md_X12_end mv_X12_end rfl rfl (fun _ => rfl) rfl (by decide) (by decide) (x_end (d := 0) (K := fun x I' _ => x = (b01 (isin (Cx C (i + 1)) (g 0 0 + 1))) ∧ EnX I' sc L s ps (g_end g (Cx C (i + 1)))) hX (fun I' h9 => ⟨rfl, h9⟩)) (fun r I' J' q => ?_)
  obtain ⟨x, rfl, rfl, hX1⟩ := q
  refine ⟨fun _ => rfl, ?_⟩
  refine l_aload dL_248 2 2 rfl rfl ?_
  refine l_aload dL_249 0 0 rfl rfl ?_
  refine l_iload dL_250 3 3 rfl rfl ?_
  refine l_iconst (v := nI 1) dL_251 rfl ?_
  refine l_iadd (z := nI (i + 1)) dL_252 (nI_add i 1) ?_
  refine l_iald dL_253 (by omega) hL ?_
  refine l_callM (As := [.int (Cx C (i + 1))]) (rest := [.int ((b01 (isin (Cx C (i + 1)) (g 0 0 + 1))))]) dL_254 ml_L_22 md_X13_end mv_X13_end rfl rfl (fun _ => rfl) rfl (Nat.le_of_ble_eq_true rfl) (by decide) (y_end (d := 0) (K := fun x I' J' => x = (b01 (isin (Cx C (i + 1)) (g 0 0 + 1))) ∧ EnM I' J' sc L s ps (g_end g (Cx C (i + 1)))) hM (fun I' h9 => ⟨rfl, h9⟩)) (fun r I2' J2' q => ?_)
  obtain ⟨x, rfl, rfl, hM1⟩ := q
  refine ⟨fun _ => rfl, ?_⟩
  exact l_same dL_257 rfl (h _ _ _ _ _ _ _ _ _ hX1 hM1)
theorem dL_262 : decode code 262 = .ok (.aload_n 1, 1) := by decide +kernel
theorem dL_263 : decode code 263 = .ok (.invokevirtual 23, 3) := by decide +kernel
theorem dL_266 : decode code 266 = .ok (.aload_n 2, 1) := by decide +kernel
theorem dL_267 : decode code 267 = .ok (.invokevirtual 27, 3) := by decide +kernel
theorem dL_270 : decode code 270 = .ok (.if_icmp .eq 794, 3) := by decide +kernel
theorem lc_2 {C : Ct} {i : Nat} {I1 : Ii} {J1 : Jj} {I2 : Ii} {J2 : Jj} {sc : Sx} {L : Nat → List Nat} {s : Sx} {ps : Nat → Sx} {g : Sx} (hi : i + 6 ≤ CL C) (hL : CL C ≤ 3072) (hX : EnX I1 sc L s ps g) (hM : EnM I2 J2 sc L s ps g) (h : ∀ I1' J1' I2' J2' sc' L' s' ps' g', EnX I1' sc' L' s' ps' g' → EnM I2' J2' sc' L' s' ps' g' → LW C 1064 (lsC C i) [] I1' J1' I2' J2') : LW C 262 (lsC C i) [] I1 J1 I2 J2 := by
  refine l_aload dL_262 1 1 rfl rfl ?_
  refine l_callX (As := []) (rest := []) dL_263 ml_L_23 md_X12_school mv_X12_school rfl rfl (fun _ => rfl) rfl (by decide) (by decide) (x_school (d := 0) (K := fun x I' _ => x = (r_sch g) ∧ EnX I' (scS sc g) (LSc L g) (s_sch s g) ps (g_sch g)) hX (fun I' h9 => ⟨rfl, h9⟩)) (fun r I' J' q => ?_)
  obtain ⟨x, rfl, rfl, hX1⟩ := q
  refine ⟨fun _ => rfl, ?_⟩
  refine l_aload dL_266 2 2 rfl rfl ?_
  refine l_callM (As := []) (rest := [.int ((r_sch g))]) dL_267 ml_L_27 md_X13_school mv_X13_school rfl rfl (fun _ => rfl) rfl (Nat.le_of_ble_eq_true rfl) (by decide) (y_school (d := 0) (K := fun x I' J' => x = (r_sch g) ∧ EnM I' J' (scS sc g) (LSc L g) (s_sch s g) ps (g_sch g)) hM (fun I' J' h9 => ⟨rfl, h9⟩)) (fun r I2' J2' q => ?_)
  obtain ⟨x, rfl, rfl, hM1⟩ := q
  refine ⟨fun _ => rfl, ?_⟩
  exact l_same dL_270 rfl (h _ _ _ _ _ _ _ _ _ hX1 hM1)
theorem dL_275 : decode code 275 = .ok (.aload_n 1, 1) := by decide +kernel
theorem dL_276 : decode code 276 = .ok (.aload_n 0, 1) := by decide +kernel
theorem dL_277 : decode code 277 = .ok (.iload_n 3, 1) := by decide +kernel
theorem dL_278 : decode code 278 = .ok (.iconst 1, 1) := by decide +kernel
theorem dL_279 : decode code 279 = .ok (.iadd, 1) := by decide +kernel
theorem dL_280 : decode code 280 = .ok (.iaload, 1) := by decide +kernel
theorem dL_281 : decode code 281 = .ok (.invokevirtual 28, 3) := by decide +kernel
theorem dL_284 : decode code 284 = .ok (.aload_n 2, 1) := by decide +kernel
theorem dL_285 : decode code 285 = .ok (.aload_n 0, 1) := by decide +kernel
theorem dL_286 : decode code 286 = .ok (.iload_n 3, 1) := by decide +kernel
theorem dL_287 : decode code 287 = .ok (.iconst 1, 1) := by decide +kernel
theorem dL_288 : decode code 288 = .ok (.iadd, 1) := by decide +kernel
theorem dL_289 : decode code 289 = .ok (.iaload, 1) := by decide +kernel
theorem dL_290 : decode code 290 = .ok (.invokevirtual 32, 3) := by decide +kernel
theorem dL_293 : decode code 293 = .ok (.if_icmp .eq 771, 3) := by decide +kernel
theorem lc_3 {C : Ct} {i : Nat} {I1 : Ii} {J1 : Jj} {I2 : Ii} {J2 : Jj} {sc : Sx} {L : Nat → List Nat} {s : Sx} {ps : Nat → Sx} {g : Sx} (hi : i + 6 ≤ CL C) (hL : CL C ≤ 3072) (hX : EnX I1 sc L s ps g) (hM : EnM I2 J2 sc L s ps g) (h : ∀ I1' J1' I2' J2' sc' L' s' ps' g', EnX I1' sc' L' s' ps' g' → EnM I2' J2' sc' L' s' ps' g' → LW C 1064 (lsC C i) [] I1' J1' I2' J2') : LW C 275 (lsC C i) [] I1 J1 I2 J2 := by
  refine l_aload dL_275 1 1 rfl rfl ?_
  refine l_aload dL_276 0 0 rfl rfl ?_
  refine l_iload dL_277 3 3 rfl rfl ?_
  refine l_iconst (v := nI 1) dL_278 rfl ?_
  refine l_iadd (z := nI (i + 1)) dL_279 (nI_add i 1) ?_
  refine l_iald dL_280 (by omega) hL ?_
  refine l_callX (As := [.int (Cx C (i + 1))]) (rest := []) dL_281 ml_L_28 md_X12_fault mv_X12_fault rfl rfl (fun _ => rfl) rfl (by decide) (by decide) (x_fault (d := 0) (K := fun x I' _ => x = (r_fault g (Cx C (i + 1))) ∧ EnX I' sc L s ps g) hX ⟨rfl, hX⟩) (fun r I' J' q => ?_)
  obtain ⟨x, rfl, rfl, hX1⟩ := q
  refine ⟨fun _ => rfl, ?_⟩
  refine l_aload dL_284 2 2 rfl rfl ?_
  refine l_aload dL_285 0 0 rfl rfl ?_
  refine l_iload dL_286 3 3 rfl rfl ?_
  refine l_iconst (v := nI 1) dL_287 rfl ?_
  refine l_iadd (z := nI (i + 1)) dL_288 (nI_add i 1) ?_
  refine l_iald dL_289 (by omega) hL ?_
  refine l_callM (As := [.int (Cx C (i + 1))]) (rest := [.int ((r_fault g (Cx C (i + 1))))]) dL_290 ml_L_32 md_X13_fault mv_X13_fault rfl rfl (fun _ => rfl) rfl (Nat.le_of_ble_eq_true rfl) (by decide) (y_fault (d := 0) (K := fun x I' J' => x = (r_fault g (Cx C (i + 1))) ∧ EnM I' J' sc L s ps g) hM ⟨rfl, hM⟩) (fun r I2' J2' q => ?_)
  obtain ⟨x, rfl, rfl, hM1⟩ := q
  refine ⟨fun _ => rfl, ?_⟩
  exact l_same dL_293 rfl (h _ _ _ _ _ _ _ _ _ hX1 hM1)
theorem dL_298 : decode code 298 = .ok (.aload_n 1, 1) := by decide +kernel
theorem dL_299 : decode code 299 = .ok (.aload_n 0, 1) := by decide +kernel
theorem dL_300 : decode code 300 = .ok (.iload_n 3, 1) := by decide +kernel
theorem dL_301 : decode code 301 = .ok (.iconst 1, 1) := by decide +kernel
theorem dL_302 : decode code 302 = .ok (.iadd, 1) := by decide +kernel
theorem dL_303 : decode code 303 = .ok (.iaload, 1) := by decide +kernel
theorem dL_304 : decode code 304 = .ok (.invokevirtual 33, 3) := by decide +kernel
theorem dL_307 : decode code 307 = .ok (.aload_n 2, 1) := by decide +kernel
theorem dL_308 : decode code 308 = .ok (.aload_n 0, 1) := by decide +kernel
theorem dL_309 : decode code 309 = .ok (.iload_n 3, 1) := by decide +kernel
theorem dL_310 : decode code 310 = .ok (.iconst 1, 1) := by decide +kernel
theorem dL_311 : decode code 311 = .ok (.iadd, 1) := by decide +kernel
theorem dL_312 : decode code 312 = .ok (.iaload, 1) := by decide +kernel
theorem dL_313 : decode code 313 = .ok (.invokevirtual 36, 3) := by decide +kernel
theorem dL_316 : decode code 316 = .ok (.if_icmp .eq 748, 3) := by decide +kernel
theorem lc_4 {C : Ct} {i : Nat} {I1 : Ii} {J1 : Jj} {I2 : Ii} {J2 : Jj} {sc : Sx} {L : Nat → List Nat} {s : Sx} {ps : Nat → Sx} {g : Sx} (hi : i + 6 ≤ CL C) (hL : CL C ≤ 3072) (hX : EnX I1 sc L s ps g) (hM : EnM I2 J2 sc L s ps g) (h : ∀ I1' J1' I2' J2' sc' L' s' ps' g', EnX I1' sc' L' s' ps' g' → EnM I2' J2' sc' L' s' ps' g' → LW C 1064 (lsC C i) [] I1' J1' I2' J2') : LW C 298 (lsC C i) [] I1 J1 I2 J2 := by
  refine l_aload dL_298 1 1 rfl rfl ?_
  refine l_aload dL_299 0 0 rfl rfl ?_
  refine l_iload dL_300 3 3 rfl rfl ?_
  refine l_iconst (v := nI 1) dL_301 rfl ?_
  refine l_iadd (z := nI (i + 1)) dL_302 (nI_add i 1) ?_
  refine l_iald dL_303 (by omega) hL ?_
  refine l_callX (As := [.int (Cx C (i + 1))]) (rest := []) dL_304 ml_L_33 md_X12_has mv_X12_has rfl rfl (fun _ => rfl) rfl (by decide) (by decide) (x_has (d := 0) (K := fun x I' _ => x = (r_has sc s g (Cx C (i + 1))) ∧ EnX I' sc L s ps g) hX ⟨rfl, hX⟩) (fun r I' J' q => ?_)
  obtain ⟨x, rfl, rfl, hX1⟩ := q
  refine ⟨fun _ => rfl, ?_⟩
  refine l_aload dL_307 2 2 rfl rfl ?_
  refine l_aload dL_308 0 0 rfl rfl ?_
  refine l_iload dL_309 3 3 rfl rfl ?_
  refine l_iconst (v := nI 1) dL_310 rfl ?_
  refine l_iadd (z := nI (i + 1)) dL_311 (nI_add i 1) ?_
  refine l_iald dL_312 (by omega) hL ?_
  refine l_callM (As := [.int (Cx C (i + 1))]) (rest := [.int ((r_has sc s g (Cx C (i + 1))))]) dL_313 ml_L_36 md_X13_has mv_X13_has rfl rfl (fun _ => rfl) rfl (Nat.le_of_ble_eq_true rfl) (by decide) (y_has (d := 0) (K := fun x I' J' => x = (r_has sc s g (Cx C (i + 1))) ∧ EnM I' J' sc L s ps g) hM ⟨rfl, hM⟩) (fun r I2' J2' q => ?_)
  obtain ⟨x, rfl, rfl, hM1⟩ := q
  refine ⟨fun _ => rfl, ?_⟩
  exact l_same dL_316 rfl (h _ _ _ _ _ _ _ _ _ hX1 hM1)
theorem dL_321 : decode code 321 = .ok (.aload_n 1, 1) := by decide +kernel
theorem dL_322 : decode code 322 = .ok (.aload_n 0, 1) := by decide +kernel
theorem dL_323 : decode code 323 = .ok (.iload_n 3, 1) := by decide +kernel
theorem dL_324 : decode code 324 = .ok (.iconst 1, 1) := by decide +kernel
theorem dL_325 : decode code 325 = .ok (.iadd, 1) := by decide +kernel
theorem dL_326 : decode code 326 = .ok (.iaload, 1) := by decide +kernel
theorem dL_327 : decode code 327 = .ok (.aload_n 0, 1) := by decide +kernel
theorem dL_328 : decode code 328 = .ok (.iload_n 3, 1) := by decide +kernel
theorem dL_329 : decode code 329 = .ok (.iconst 2, 1) := by decide +kernel
theorem dL_330 : decode code 330 = .ok (.iadd, 1) := by decide +kernel
theorem dL_331 : decode code 331 = .ok (.iaload, 1) := by decide +kernel
theorem dL_332 : decode code 332 = .ok (.aload_n 0, 1) := by decide +kernel
theorem dL_333 : decode code 333 = .ok (.iload_n 3, 1) := by decide +kernel
theorem dL_334 : decode code 334 = .ok (.iconst 3, 1) := by decide +kernel
theorem dL_335 : decode code 335 = .ok (.iadd, 1) := by decide +kernel
theorem dL_336 : decode code 336 = .ok (.iaload, 1) := by decide +kernel
theorem dL_337 : decode code 337 = .ok (.invokevirtual 37, 3) := by decide +kernel
theorem dL_340 : decode code 340 = .ok (.aload_n 2, 1) := by decide +kernel
theorem dL_341 : decode code 341 = .ok (.aload_n 0, 1) := by decide +kernel
theorem dL_342 : decode code 342 = .ok (.iload_n 3, 1) := by decide +kernel
theorem dL_343 : decode code 343 = .ok (.iconst 1, 1) := by decide +kernel
theorem dL_344 : decode code 344 = .ok (.iadd, 1) := by decide +kernel
theorem dL_345 : decode code 345 = .ok (.iaload, 1) := by decide +kernel
theorem dL_346 : decode code 346 = .ok (.aload_n 0, 1) := by decide +kernel
theorem dL_347 : decode code 347 = .ok (.iload_n 3, 1) := by decide +kernel
theorem dL_348 : decode code 348 = .ok (.iconst 2, 1) := by decide +kernel
theorem dL_349 : decode code 349 = .ok (.iadd, 1) := by decide +kernel
theorem dL_350 : decode code 350 = .ok (.iaload, 1) := by decide +kernel
theorem dL_351 : decode code 351 = .ok (.aload_n 0, 1) := by decide +kernel
theorem dL_352 : decode code 352 = .ok (.iload_n 3, 1) := by decide +kernel
theorem dL_353 : decode code 353 = .ok (.iconst 3, 1) := by decide +kernel
theorem dL_354 : decode code 354 = .ok (.iadd, 1) := by decide +kernel
theorem dL_355 : decode code 355 = .ok (.iaload, 1) := by decide +kernel
theorem dL_356 : decode code 356 = .ok (.invokevirtual 41, 3) := by decide +kernel
theorem dL_359 : decode code 359 = .ok (.if_icmp .eq 705, 3) := by decide +kernel
theorem lc_5 {C : Ct} {i : Nat} {I1 : Ii} {J1 : Jj} {I2 : Ii} {J2 : Jj} {sc : Sx} {L : Nat → List Nat} {s : Sx} {ps : Nat → Sx} {g : Sx} (hi : i + 6 ≤ CL C) (hL : CL C ≤ 3072) (hX : EnX I1 sc L s ps g) (hM : EnM I2 J2 sc L s ps g) (h : ∀ I1' J1' I2' J2' sc' L' s' ps' g', EnX I1' sc' L' s' ps' g' → EnM I2' J2' sc' L' s' ps' g' → LW C 1064 (lsC C i) [] I1' J1' I2' J2') : LW C 321 (lsC C i) [] I1 J1 I2 J2 := by
  refine l_aload dL_321 1 1 rfl rfl ?_
  refine l_aload dL_322 0 0 rfl rfl ?_
  refine l_iload dL_323 3 3 rfl rfl ?_
  refine l_iconst (v := nI 1) dL_324 rfl ?_
  refine l_iadd (z := nI (i + 1)) dL_325 (nI_add i 1) ?_
  refine l_iald dL_326 (by omega) hL ?_
  refine l_aload dL_327 0 0 rfl rfl ?_
  refine l_iload dL_328 3 3 rfl rfl ?_
  refine l_iconst (v := nI 2) dL_329 rfl ?_
  refine l_iadd (z := nI (i + 2)) dL_330 (nI_add i 2) ?_
  refine l_iald dL_331 (by omega) hL ?_
  refine l_aload dL_332 0 0 rfl rfl ?_
  refine l_iload dL_333 3 3 rfl rfl ?_
  refine l_iconst (v := nI 3) dL_334 rfl ?_
  refine l_iadd (z := nI (i + 3)) dL_335 (nI_add i 3) ?_
  refine l_iald dL_336 (by omega) hL ?_
  refine l_callX (As := [.int (Cx C (i + 1)), .int (Cx C (i + 2)), .int (Cx C (i + 3))]) (rest := []) dL_337 ml_L_37 md_X12_letter mv_X12_letter rfl rfl (fun _ => rfl) rfl (by decide) (by decide) (x_letter (d := 0) (K := fun x I' _ => x = (r_letter sc (Cx C (i + 1)) (Cx C (i + 2)) (Cx C (i + 3))) ∧ EnX I' sc L s ps g) hX ⟨rfl, hX⟩) (fun r I' J' q => ?_)
  obtain ⟨x, rfl, rfl, hX1⟩ := q
  refine ⟨fun _ => rfl, ?_⟩
  refine l_aload dL_340 2 2 rfl rfl ?_
  refine l_aload dL_341 0 0 rfl rfl ?_
  refine l_iload dL_342 3 3 rfl rfl ?_
  refine l_iconst (v := nI 1) dL_343 rfl ?_
  refine l_iadd (z := nI (i + 1)) dL_344 (nI_add i 1) ?_
  refine l_iald dL_345 (by omega) hL ?_
  refine l_aload dL_346 0 0 rfl rfl ?_
  refine l_iload dL_347 3 3 rfl rfl ?_
  refine l_iconst (v := nI 2) dL_348 rfl ?_
  refine l_iadd (z := nI (i + 2)) dL_349 (nI_add i 2) ?_
  refine l_iald dL_350 (by omega) hL ?_
  refine l_aload dL_351 0 0 rfl rfl ?_
  refine l_iload dL_352 3 3 rfl rfl ?_
  refine l_iconst (v := nI 3) dL_353 rfl ?_
  refine l_iadd (z := nI (i + 3)) dL_354 (nI_add i 3) ?_
  refine l_iald dL_355 (by omega) hL ?_
  refine l_callM (As := [.int (Cx C (i + 1)), .int (Cx C (i + 2)), .int (Cx C (i + 3))]) (rest := [.int ((r_letter sc (Cx C (i + 1)) (Cx C (i + 2)) (Cx C (i + 3))))]) dL_356 ml_L_41 md_X13_letter mv_X13_letter rfl rfl (fun _ => rfl) rfl (Nat.le_of_ble_eq_true rfl) (by decide) (y_letter (d := 0) (K := fun x I' J' => x = (r_letter sc (Cx C (i + 1)) (Cx C (i + 2)) (Cx C (i + 3))) ∧ EnM I' J' sc L s ps g) hM ⟨rfl, hM⟩) (fun r I2' J2' q => ?_)
  obtain ⟨x, rfl, rfl, hM1⟩ := q
  refine ⟨fun _ => rfl, ?_⟩
  exact l_same dL_359 rfl (h _ _ _ _ _ _ _ _ _ hX1 hM1)
theorem dL_364 : decode code 364 = .ok (.aload_n 1, 1) := by decide +kernel
theorem dL_365 : decode code 365 = .ok (.aload_n 0, 1) := by decide +kernel
theorem dL_366 : decode code 366 = .ok (.iload_n 3, 1) := by decide +kernel
theorem dL_367 : decode code 367 = .ok (.iconst 1, 1) := by decide +kernel
theorem dL_368 : decode code 368 = .ok (.iadd, 1) := by decide +kernel
theorem dL_369 : decode code 369 = .ok (.iaload, 1) := by decide +kernel
theorem dL_370 : decode code 370 = .ok (.aload_n 0, 1) := by decide +kernel
theorem dL_371 : decode code 371 = .ok (.iload_n 3, 1) := by decide +kernel
theorem dL_372 : decode code 372 = .ok (.iconst 2, 1) := by decide +kernel
theorem dL_373 : decode code 373 = .ok (.iadd, 1) := by decide +kernel
theorem dL_374 : decode code 374 = .ok (.iaload, 1) := by decide +kernel
theorem dL_375 : decode code 375 = .ok (.invokevirtual 42, 3) := by decide +kernel
theorem dL_378 : decode code 378 = .ok (.aload_n 2, 1) := by decide +kernel
theorem dL_379 : decode code 379 = .ok (.aload_n 0, 1) := by decide +kernel
theorem dL_380 : decode code 380 = .ok (.iload_n 3, 1) := by decide +kernel
theorem dL_381 : decode code 381 = .ok (.iconst 1, 1) := by decide +kernel
theorem dL_382 : decode code 382 = .ok (.iadd, 1) := by decide +kernel
theorem dL_383 : decode code 383 = .ok (.iaload, 1) := by decide +kernel
theorem dL_384 : decode code 384 = .ok (.aload_n 0, 1) := by decide +kernel
theorem dL_385 : decode code 385 = .ok (.iload_n 3, 1) := by decide +kernel
theorem dL_386 : decode code 386 = .ok (.iconst 2, 1) := by decide +kernel
theorem dL_387 : decode code 387 = .ok (.iadd, 1) := by decide +kernel
theorem dL_388 : decode code 388 = .ok (.iaload, 1) := by decide +kernel
theorem dL_389 : decode code 389 = .ok (.invokevirtual 46, 3) := by decide +kernel
theorem dL_392 : decode code 392 = .ok (.if_icmp .eq 672, 3) := by decide +kernel
theorem lc_6 {C : Ct} {i : Nat} {I1 : Ii} {J1 : Jj} {I2 : Ii} {J2 : Jj} {sc : Sx} {L : Nat → List Nat} {s : Sx} {ps : Nat → Sx} {g : Sx} (hi : i + 6 ≤ CL C) (hL : CL C ≤ 3072) (hX : EnX I1 sc L s ps g) (hM : EnM I2 J2 sc L s ps g) (h : ∀ I1' J1' I2' J2' sc' L' s' ps' g', EnX I1' sc' L' s' ps' g' → EnM I2' J2' sc' L' s' ps' g' → LW C 1064 (lsC C i) [] I1' J1' I2' J2') : LW C 364 (lsC C i) [] I1 J1 I2 J2 := by
  refine l_aload dL_364 1 1 rfl rfl ?_
  refine l_aload dL_365 0 0 rfl rfl ?_
  refine l_iload dL_366 3 3 rfl rfl ?_
  refine l_iconst (v := nI 1) dL_367 rfl ?_
  refine l_iadd (z := nI (i + 1)) dL_368 (nI_add i 1) ?_
  refine l_iald dL_369 (by omega) hL ?_
  refine l_aload dL_370 0 0 rfl rfl ?_
  refine l_iload dL_371 3 3 rfl rfl ?_
  refine l_iconst (v := nI 2) dL_372 rfl ?_
  refine l_iadd (z := nI (i + 2)) dL_373 (nI_add i 2) ?_
  refine l_iald dL_374 (by omega) hL ?_
  refine l_callX (As := [.int (Cx C (i + 1)), .int (Cx C (i + 2))]) (rest := []) dL_375 ml_L_42 md_X12_fact mv_X12_fact rfl rfl (fun _ => rfl) rfl (by decide) (by decide) (x_fact (d := 0) (K := fun x I' _ => x = (r_fact sc s (Cx C (i + 1)) (Cx C (i + 2))) ∧ EnX I' sc L s ps g) hX ⟨rfl, hX⟩) (fun r I' J' q => ?_)
  obtain ⟨x, rfl, rfl, hX1⟩ := q
  refine ⟨fun _ => rfl, ?_⟩
  refine l_aload dL_378 2 2 rfl rfl ?_
  refine l_aload dL_379 0 0 rfl rfl ?_
  refine l_iload dL_380 3 3 rfl rfl ?_
  refine l_iconst (v := nI 1) dL_381 rfl ?_
  refine l_iadd (z := nI (i + 1)) dL_382 (nI_add i 1) ?_
  refine l_iald dL_383 (by omega) hL ?_
  refine l_aload dL_384 0 0 rfl rfl ?_
  refine l_iload dL_385 3 3 rfl rfl ?_
  refine l_iconst (v := nI 2) dL_386 rfl ?_
  refine l_iadd (z := nI (i + 2)) dL_387 (nI_add i 2) ?_
  refine l_iald dL_388 (by omega) hL ?_
  refine l_callM (As := [.int (Cx C (i + 1)), .int (Cx C (i + 2))]) (rest := [.int ((r_fact sc s (Cx C (i + 1)) (Cx C (i + 2))))]) dL_389 ml_L_46 md_X13_fact mv_X13_fact rfl rfl (fun _ => rfl) rfl (Nat.le_of_ble_eq_true rfl) (by decide) (y_fact (d := 0) (K := fun x I' J' => x = (r_fact sc s (Cx C (i + 1)) (Cx C (i + 2))) ∧ EnM I' J' sc L s ps g) hM ⟨rfl, hM⟩) (fun r I2' J2' q => ?_)
  obtain ⟨x, rfl, rfl, hM1⟩ := q
  refine ⟨fun _ => rfl, ?_⟩
  exact l_same dL_392 rfl (h _ _ _ _ _ _ _ _ _ hX1 hM1)
theorem dL_397 : decode code 397 = .ok (.aload_n 1, 1) := by decide +kernel
theorem dL_398 : decode code 398 = .ok (.aload_n 0, 1) := by decide +kernel
theorem dL_399 : decode code 399 = .ok (.iload_n 3, 1) := by decide +kernel
theorem dL_400 : decode code 400 = .ok (.iconst 1, 1) := by decide +kernel
theorem dL_401 : decode code 401 = .ok (.iadd, 1) := by decide +kernel
theorem dL_402 : decode code 402 = .ok (.iaload, 1) := by decide +kernel
theorem dL_403 : decode code 403 = .ok (.aload_n 0, 1) := by decide +kernel
theorem dL_404 : decode code 404 = .ok (.iload_n 3, 1) := by decide +kernel
theorem dL_405 : decode code 405 = .ok (.iconst 2, 1) := by decide +kernel
theorem dL_406 : decode code 406 = .ok (.iadd, 1) := by decide +kernel
theorem dL_407 : decode code 407 = .ok (.iaload, 1) := by decide +kernel
theorem dL_408 : decode code 408 = .ok (.invokevirtual 47, 3) := by decide +kernel
theorem dL_411 : decode code 411 = .ok (.aload_n 2, 1) := by decide +kernel
theorem dL_412 : decode code 412 = .ok (.aload_n 0, 1) := by decide +kernel
theorem dL_413 : decode code 413 = .ok (.iload_n 3, 1) := by decide +kernel
theorem dL_414 : decode code 414 = .ok (.iconst 1, 1) := by decide +kernel
theorem dL_415 : decode code 415 = .ok (.iadd, 1) := by decide +kernel
theorem dL_416 : decode code 416 = .ok (.iaload, 1) := by decide +kernel
theorem dL_417 : decode code 417 = .ok (.aload_n 0, 1) := by decide +kernel
theorem dL_418 : decode code 418 = .ok (.iload_n 3, 1) := by decide +kernel
theorem dL_419 : decode code 419 = .ok (.iconst 2, 1) := by decide +kernel
theorem dL_420 : decode code 420 = .ok (.iadd, 1) := by decide +kernel
theorem dL_421 : decode code 421 = .ok (.iaload, 1) := by decide +kernel
theorem dL_422 : decode code 422 = .ok (.invokevirtual 50, 3) := by decide +kernel
theorem dL_425 : decode code 425 = .ok (.if_icmp .eq 639, 3) := by decide +kernel
theorem lc_7 {C : Ct} {i : Nat} {I1 : Ii} {J1 : Jj} {I2 : Ii} {J2 : Jj} {sc : Sx} {L : Nat → List Nat} {s : Sx} {ps : Nat → Sx} {g : Sx} (hi : i + 6 ≤ CL C) (hL : CL C ≤ 3072) (hX : EnX I1 sc L s ps g) (hM : EnM I2 J2 sc L s ps g) (h : ∀ I1' J1' I2' J2' sc' L' s' ps' g', EnX I1' sc' L' s' ps' g' → EnM I2' J2' sc' L' s' ps' g' → LW C 1064 (lsC C i) [] I1' J1' I2' J2') : LW C 397 (lsC C i) [] I1 J1 I2 J2 := by
  refine l_aload dL_397 1 1 rfl rfl ?_
  refine l_aload dL_398 0 0 rfl rfl ?_
  refine l_iload dL_399 3 3 rfl rfl ?_
  refine l_iconst (v := nI 1) dL_400 rfl ?_
  refine l_iadd (z := nI (i + 1)) dL_401 (nI_add i 1) ?_
  refine l_iald dL_402 (by omega) hL ?_
  refine l_aload dL_403 0 0 rfl rfl ?_
  refine l_iload dL_404 3 3 rfl rfl ?_
  refine l_iconst (v := nI 2) dL_405 rfl ?_
  refine l_iadd (z := nI (i + 2)) dL_406 (nI_add i 2) ?_
  refine l_iald dL_407 (by omega) hL ?_
  refine l_callX (As := [.int (Cx C (i + 1)), .int (Cx C (i + 2))]) (rest := []) dL_408 ml_L_47 md_X12_person mv_X12_person rfl rfl (fun _ => rfl) rfl (by decide) (by decide) (x_person (d := 0) (K := fun x I' _ => x = (r_person sc s (Cx C (i + 1)) (Cx C (i + 2))) ∧ EnX I' sc L s ps g) hX ⟨rfl, hX⟩) (fun r I' J' q => ?_)
  obtain ⟨x, rfl, rfl, hX1⟩ := q
  refine ⟨fun _ => rfl, ?_⟩
  refine l_aload dL_411 2 2 rfl rfl ?_
  refine l_aload dL_412 0 0 rfl rfl ?_
  refine l_iload dL_413 3 3 rfl rfl ?_
  refine l_iconst (v := nI 1) dL_414 rfl ?_
  refine l_iadd (z := nI (i + 1)) dL_415 (nI_add i 1) ?_
  refine l_iald dL_416 (by omega) hL ?_
  refine l_aload dL_417 0 0 rfl rfl ?_
  refine l_iload dL_418 3 3 rfl rfl ?_
  refine l_iconst (v := nI 2) dL_419 rfl ?_
  refine l_iadd (z := nI (i + 2)) dL_420 (nI_add i 2) ?_
  refine l_iald dL_421 (by omega) hL ?_
  refine l_callM (As := [.int (Cx C (i + 1)), .int (Cx C (i + 2))]) (rest := [.int ((r_person sc s (Cx C (i + 1)) (Cx C (i + 2))))]) dL_422 ml_L_50 md_X13_person mv_X13_person rfl rfl (fun _ => rfl) rfl (Nat.le_of_ble_eq_true rfl) (by decide) (y_person (d := 0) (K := fun x I' J' => x = (r_person sc s (Cx C (i + 1)) (Cx C (i + 2))) ∧ EnM I' J' sc L s ps g) hM ⟨rfl, hM⟩) (fun r I2' J2' q => ?_)
  obtain ⟨x, rfl, rfl, hM1⟩ := q
  refine ⟨fun _ => rfl, ?_⟩
  exact l_same dL_425 rfl (h _ _ _ _ _ _ _ _ _ hX1 hM1)

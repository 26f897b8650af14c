section LC
variable {l : Launch} {G : gG} {b L : Nat} {xs : Nat → Int32}
theorem l_feed (hL : L ≤ 3072) (i : Int) (hi : 0 ≤ i ∧ i + 5 < L) (σ : gS) (hI : tInv σ) (K : ∀ υ, tInv υ → lAt l G b L xs 985 [(3, vI i), (2, .ref (G.2.1 88)), (1, .ref (G.2.1 0)), (0, .ref b)] [] υ) : lAt l G b L xs 132 [(3, vI i), (2, .ref (G.2.1 88)), (1, .ref (G.2.1 0)), (0, .ref b)] [] σ := by
  refine l_aload_n 2 dL_132 rfl rfl ?_
  refine l_aload_n 3 dL_133 rfl rfl ?_
  refine l_iload_n 0 dL_134 rfl rfl ?_
  refine l_iconst dL_135 ?_
  refine l_iadd dL_136 ?_
  refine l_sld hL dL_137 ⟨by omega, by omega⟩ ?_
  refine l_aload_n 3 dL_138 rfl rfl ?_
  refine l_iload_n 0 dL_139 rfl rfl ?_
  refine l_iconst dL_140 ?_
  refine l_iadd dL_141 ?_
  refine l_sld hL dL_142 ⟨by omega, by omega⟩ ?_
  refine l_aload_n 3 dL_143 rfl rfl ?_
  refine l_iload_n 0 dL_144 rfl rfl ?_
  refine l_iconst dL_145 ?_
  refine l_iadd dL_146 ?_
  refine l_sld hL dL_147 ⟨by omega, by omega⟩ ?_
  refine l_aload_n 3 dL_148 rfl rfl ?_
  refine l_iload_n 0 dL_149 rfl rfl ?_
  refine l_iconst dL_150 ?_
  refine l_iadd dL_151 ?_
  refine l_sld hL dL_152 ⟨by omega, by omega⟩ ?_
  refine l_aload_n 3 dL_153 rfl rfl ?_
  refine l_iload_n 0 dL_154 rfl rfl ?_
  refine l_iconst dL_155 ?_
  refine l_iadd dL_156 ?_
  refine l_sld hL dL_157 ⟨by omega, by omega⟩ ?_
  refine l_callVi (z := mX11_feed) (c := 0) (As := [vI (xs (i + 1).toNat).toInt, vI (xs (i + 2).toNat).toInt, vI (xs (i + 3).toNat).toInt, vI (xs (i + 4).toNat).toInt, vI (xs (i + 5).toNat).toInt]) (rest := []) dL_158 wL_13 rL_13 rfl ⟨_, rfl, rfl⟩ rfl rfl (Nat.le_of_ble_eq_true rfl) (gEi_mono (p_feed (xs (i + 1).toNat).toInt (xs (i + 2).toNat).toInt (xs (i + 3).toNat).toInt (xs (i + 4).toNat).toInt (xs (i + 5).toNat).toInt (gR_toInt _) (gR_toInt _) (gR_toInt _) (gR_toInt _) (gR_toInt _) σ hI) (fun r τ h hr => ?_))
  refine l_aload_n 1 dL_161 rfl rfl ?_
  refine l_aload_n 3 dL_162 rfl rfl ?_
  refine l_iload_n 0 dL_163 rfl rfl ?_
  refine l_iconst dL_164 ?_
  refine l_iadd dL_165 ?_
  refine l_sld hL dL_166 ⟨by omega, by omega⟩ ?_
  refine l_aload_n 3 dL_167 rfl rfl ?_
  refine l_iload_n 0 dL_168 rfl rfl ?_
  refine l_iconst dL_169 ?_
  refine l_iadd dL_170 ?_
  refine l_sld hL dL_171 ⟨by omega, by omega⟩ ?_
  refine l_aload_n 3 dL_172 rfl rfl ?_
  refine l_iload_n 0 dL_173 rfl rfl ?_
  refine l_iconst dL_174 ?_
  refine l_iadd dL_175 ?_
  refine l_sld hL dL_176 ⟨by omega, by omega⟩ ?_
  refine l_aload_n 3 dL_177 rfl rfl ?_
  refine l_iload_n 0 dL_178 rfl rfl ?_
  refine l_iconst dL_179 ?_
  refine l_iadd dL_180 ?_
  refine l_sld hL dL_181 ⟨by omega, by omega⟩ ?_
  refine l_aload_n 3 dL_182 rfl rfl ?_
  refine l_iload_n 0 dL_183 rfl rfl ?_
  refine l_iconst dL_184 ?_
  refine l_iadd dL_185 ?_
  refine l_sld hL dL_186 ⟨by omega, by omega⟩ ?_
  refine l_callVi (z := mX12_feed) (c := 88) (As := [vI (xs (i + 1).toNat).toInt, vI (xs (i + 2).toNat).toInt, vI (xs (i + 3).toNat).toInt, vI (xs (i + 4).toNat).toInt, vI (xs (i + 5).toNat).toInt]) (rest := [vI r]) dL_187 wL_17 rL_17 rfl ⟨_, rfl, rfl⟩ rfl rfl (Nat.le_of_ble_eq_true rfl) (gEi_mono (h hr) (fun r' υ h' hr' => ?_))
  exact l_icmp_eq (tgt := 985) dL_190 (by decide) hr hr' (fun _ => K υ (h' hr').2) (fun n => absurd (h' hr').1 n)
theorem l_end (hL : L ≤ 3072) (i : Int) (hi : 0 ≤ i ∧ i + 5 < L) (σ : gS) (hI : tInv σ) (K : ∀ υ, tInv υ → lAt l G b L xs 985 [(3, vI i), (2, .ref (G.2.1 88)), (1, .ref (G.2.1 0)), (0, .ref b)] [] υ) : lAt l G b L xs 195 [(3, vI i), (2, .ref (G.2.1 88)), (1, .ref (G.2.1 0)), (0, .ref b)] [] σ := by
  refine l_aload_n 2 dL_195 rfl rfl ?_
  refine l_aload_n 3 dL_196 rfl rfl ?_
  refine l_iload_n 0 dL_197 rfl rfl ?_
  refine l_iconst dL_198 ?_
  refine l_iadd dL_199 ?_
  refine l_sld hL dL_200 ⟨by omega, by omega⟩ ?_
  refine l_callVi (z := mX11_end) (c := 0) (As := [vI (xs (i + 1).toNat).toInt]) (rest := []) dL_201 wL_18 rL_18 rfl ⟨_, rfl, rfl⟩ rfl rfl (Nat.le_of_ble_eq_true rfl) (gEi_mono (p_end (xs (i + 1).toNat).toInt (gR_toInt _) σ hI) (fun r τ h hr => ?_))
  refine l_aload_n 1 dL_204 rfl rfl ?_
  refine l_aload_n 3 dL_205 rfl rfl ?_
  refine l_iload_n 0 dL_206 rfl rfl ?_
  refine l_iconst dL_207 ?_
  refine l_iadd dL_208 ?_
  refine l_sld hL dL_209 ⟨by omega, by omega⟩ ?_
  refine l_callVi (z := mX12_end) (c := 88) (As := [vI (xs (i + 1).toNat).toInt]) (rest := [vI r]) dL_210 wL_22 rL_22 rfl ⟨_, rfl, rfl⟩ rfl rfl (Nat.le_of_ble_eq_true rfl) (gEi_mono (h hr) (fun r' υ h' hr' => ?_))
  exact l_icmp_eq (tgt := 985) dL_213 (by decide) hr hr' (fun _ => K υ (h' hr').2) (fun n => absurd (h' hr').1 n)
theorem l_text (hL : L ≤ 3072) (i : Int) (hi : 0 ≤ i ∧ i + 5 < L) (σ : gS) (hI : tInv σ) (K : ∀ υ, tInv υ → lAt l G b L xs 985 [(3, vI i), (2, .ref (G.2.1 88)), (1, .ref (G.2.1 0)), (0, .ref b)] [] υ) : lAt l G b L xs 218 [(3, vI i), (2, .ref (G.2.1 88)), (1, .ref (G.2.1 0)), (0, .ref b)] [] σ := by
  refine l_aload_n 2 dL_218 rfl rfl ?_
  refine l_aload_n 3 dL_219 rfl rfl ?_
  refine l_iload_n 0 dL_220 rfl rfl ?_
  refine l_iconst dL_221 ?_
  refine l_iadd dL_222 ?_
  refine l_sld hL dL_223 ⟨by omega, by omega⟩ ?_
  refine l_aload_n 3 dL_224 rfl rfl ?_
  refine l_iload_n 0 dL_225 rfl rfl ?_
  refine l_iconst dL_226 ?_
  refine l_iadd dL_227 ?_
  refine l_sld hL dL_228 ⟨by omega, by omega⟩ ?_
  refine l_callVi (z := mX11_text) (c := 0) (As := [vI (xs (i + 1).toNat).toInt, vI (xs (i + 2).toNat).toInt]) (rest := []) dL_229 wL_23 rL_23 rfl ⟨_, rfl, rfl⟩ rfl rfl (Nat.le_of_ble_eq_true rfl) (gEi_mono (p_text0 (xs (i + 1).toNat).toInt (xs (i + 2).toNat).toInt (gR_toInt _) (gR_toInt _) σ hI) (fun r τ h hr => ?_))
  refine l_aload_n 1 dL_232 rfl rfl ?_
  refine l_aload_n 3 dL_233 rfl rfl ?_
  refine l_iload_n 0 dL_234 rfl rfl ?_
  refine l_iconst dL_235 ?_
  refine l_iadd dL_236 ?_
  refine l_sld hL dL_237 ⟨by omega, by omega⟩ ?_
  refine l_aload_n 3 dL_238 rfl rfl ?_
  refine l_iload_n 0 dL_239 rfl rfl ?_
  refine l_iconst dL_240 ?_
  refine l_iadd dL_241 ?_
  refine l_sld hL dL_242 ⟨by omega, by omega⟩ ?_
  refine l_callVi (z := mX12_text) (c := 88) (As := [vI (xs (i + 1).toNat).toInt, vI (xs (i + 2).toNat).toInt]) (rest := [vI r]) dL_243 wL_27 rL_27 rfl ⟨_, rfl, rfl⟩ rfl rfl (Nat.le_of_ble_eq_true rfl) (gEi_mono (h hr) (fun r' υ h' hr' => ?_))
  exact l_icmp_eq (tgt := 985) dL_246 (by decide) hr hr' (fun _ => K υ (h' hr').2) (fun n => absurd (h' hr').1 n)
theorem l_fault (hL : L ≤ 3072) (i : Int) (hi : 0 ≤ i ∧ i + 5 < L) (σ : gS) (hI : tInv σ) (K : ∀ υ, tInv υ → lAt l G b L xs 985 [(3, vI i), (2, .ref (G.2.1 88)), (1, .ref (G.2.1 0)), (0, .ref b)] [] υ) : lAt l G b L xs 251 [(3, vI i), (2, .ref (G.2.1 88)), (1, .ref (G.2.1 0)), (0, .ref b)] [] σ := by
  refine l_aload_n 2 dL_251 rfl rfl ?_
  refine l_aload_n 3 dL_252 rfl rfl ?_
  refine l_iload_n 0 dL_253 rfl rfl ?_
  refine l_iconst dL_254 ?_
  refine l_iadd dL_255 ?_
  refine l_sld hL dL_256 ⟨by omega, by omega⟩ ?_
  refine l_callVi (z := mX11_fault) (c := 0) (As := [vI (xs (i + 1).toNat).toInt]) (rest := []) dL_257 wL_28 rL_28 rfl ⟨_, rfl, rfl⟩ rfl rfl (Nat.le_of_ble_eq_true rfl) (gEi_mono (p_fault (xs (i + 1).toNat).toInt (gR_toInt _) σ hI) (fun r τ h hr => ?_))
  refine l_aload_n 1 dL_260 rfl rfl ?_
  refine l_aload_n 3 dL_261 rfl rfl ?_
  refine l_iload_n 0 dL_262 rfl rfl ?_
  refine l_iconst dL_263 ?_
  refine l_iadd dL_264 ?_
  refine l_sld hL dL_265 ⟨by omega, by omega⟩ ?_
  refine l_callVi (z := mX12_fault) (c := 88) (As := [vI (xs (i + 1).toNat).toInt]) (rest := [vI r]) dL_266 wL_31 rL_31 rfl ⟨_, rfl, rfl⟩ rfl rfl (Nat.le_of_ble_eq_true rfl) (gEi_mono (h hr) (fun r' υ h' hr' => ?_))
  exact l_icmp_eq (tgt := 985) dL_269 (by decide) hr hr' (fun _ => K υ (h' hr').2) (fun n => absurd (h' hr').1 n)
theorem l_crossbar (hL : L ≤ 3072) (i : Int) (hi : 0 ≤ i ∧ i + 5 < L) (σ : gS) (hI : tInv σ) (K : ∀ υ, tInv υ → lAt l G b L xs 985 [(3, vI i), (2, .ref (G.2.1 88)), (1, .ref (G.2.1 0)), (0, .ref b)] [] υ) : lAt l G b L xs 274 [(3, vI i), (2, .ref (G.2.1 88)), (1, .ref (G.2.1 0)), (0, .ref b)] [] σ := by
  refine l_aload_n 2 dL_274 rfl rfl ?_
  refine l_aload_n 3 dL_275 rfl rfl ?_
  refine l_iload_n 0 dL_276 rfl rfl ?_
  refine l_iconst dL_277 ?_
  refine l_iadd dL_278 ?_
  refine l_sld hL dL_279 ⟨by omega, by omega⟩ ?_
  refine l_aload_n 3 dL_280 rfl rfl ?_
  refine l_iload_n 0 dL_281 rfl rfl ?_
  refine l_iconst dL_282 ?_
  refine l_iadd dL_283 ?_
  refine l_sld hL dL_284 ⟨by omega, by omega⟩ ?_
  refine l_callVi (z := mX11_crossbar) (c := 0) (As := [vI (xs (i + 1).toNat).toInt, vI (xs (i + 2).toNat).toInt]) (rest := []) dL_285 wL_32 rL_32 rfl ⟨_, rfl, rfl⟩ rfl rfl (Nat.le_of_ble_eq_true rfl) (gEi_mono (p_crossbar (xs (i + 1).toNat).toInt (xs (i + 2).toNat).toInt (gR_toInt _) (gR_toInt _) σ hI) (fun r τ h hr => ?_))
  refine l_aload_n 1 dL_288 rfl rfl ?_
  refine l_aload_n 3 dL_289 rfl rfl ?_
  refine l_iload_n 0 dL_290 rfl rfl ?_
  refine l_iconst dL_291 ?_
  refine l_iadd dL_292 ?_
  refine l_sld hL dL_293 ⟨by omega, by omega⟩ ?_
  refine l_aload_n 3 dL_294 rfl rfl ?_
  refine l_iload_n 0 dL_295 rfl rfl ?_
  refine l_iconst dL_296 ?_
  refine l_iadd dL_297 ?_
  refine l_sld hL dL_298 ⟨by omega, by omega⟩ ?_
  refine l_callVi (z := mX12_crossbar) (c := 88) (As := [vI (xs (i + 1).toNat).toInt, vI (xs (i + 2).toNat).toInt]) (rest := [vI r]) dL_299 wL_35 rL_35 rfl ⟨_, rfl, rfl⟩ rfl rfl (Nat.le_of_ble_eq_true rfl) (gEi_mono (h hr) (fun r' υ h' hr' => ?_))
  exact l_icmp_eq (tgt := 985) dL_302 (by decide) hr hr' (fun _ => K υ (h' hr').2) (fun n => absurd (h' hr').1 n)
theorem l_deed (hL : L ≤ 3072) (i : Int) (hi : 0 ≤ i ∧ i + 5 < L) (σ : gS) (hI : tInv σ) (K : ∀ υ, tInv υ → lAt l G b L xs 985 [(3, vI i), (2, .ref (G.2.1 88)), (1, .ref (G.2.1 0)), (0, .ref b)] [] υ) : lAt l G b L xs 307 [(3, vI i), (2, .ref (G.2.1 88)), (1, .ref (G.2.1 0)), (0, .ref b)] [] σ := by
  refine l_aload_n 2 dL_307 rfl rfl ?_
  refine l_aload_n 3 dL_308 rfl rfl ?_
  refine l_iload_n 0 dL_309 rfl rfl ?_
  refine l_iconst dL_310 ?_
  refine l_iadd dL_311 ?_
  refine l_sld hL dL_312 ⟨by omega, by omega⟩ ?_
  refine l_aload_n 3 dL_313 rfl rfl ?_
  refine l_iload_n 0 dL_314 rfl rfl ?_
  refine l_iconst dL_315 ?_
  refine l_iadd dL_316 ?_
  refine l_sld hL dL_317 ⟨by omega, by omega⟩ ?_
  refine l_aload_n 3 dL_318 rfl rfl ?_
  refine l_iload_n 0 dL_319 rfl rfl ?_
  refine l_iconst dL_320 ?_
  refine l_iadd dL_321 ?_
  refine l_sld hL dL_322 ⟨by omega, by omega⟩ ?_
  refine l_callVi (z := mX11_deed) (c := 0) (As := [vI (xs (i + 1).toNat).toInt, vI (xs (i + 2).toNat).toInt, vI (xs (i + 3).toNat).toInt]) (rest := []) dL_323 wL_36 rL_36 rfl ⟨_, rfl, rfl⟩ rfl rfl (Nat.le_of_ble_eq_true rfl) (gEi_mono (p_deed (xs (i + 1).toNat).toInt (xs (i + 2).toNat).toInt (xs (i + 3).toNat).toInt (gR_toInt _) (gR_toInt _) (gR_toInt _) σ hI) (fun r τ h hr => ?_))
  refine l_aload_n 1 dL_326 rfl rfl ?_
  refine l_aload_n 3 dL_327 rfl rfl ?_
  refine l_iload_n 0 dL_328 rfl rfl ?_
  refine l_iconst dL_329 ?_
  refine l_iadd dL_330 ?_
  refine l_sld hL dL_331 ⟨by omega, by omega⟩ ?_
  refine l_aload_n 3 dL_332 rfl rfl ?_
  refine l_iload_n 0 dL_333 rfl rfl ?_
  refine l_iconst dL_334 ?_
  refine l_iadd dL_335 ?_
  refine l_sld hL dL_336 ⟨by omega, by omega⟩ ?_
  refine l_aload_n 3 dL_337 rfl rfl ?_
  refine l_iload_n 0 dL_338 rfl rfl ?_
  refine l_iconst dL_339 ?_
  refine l_iadd dL_340 ?_
  refine l_sld hL dL_341 ⟨by omega, by omega⟩ ?_
  refine l_callVi (z := mX12_deed) (c := 88) (As := [vI (xs (i + 1).toNat).toInt, vI (xs (i + 2).toNat).toInt, vI (xs (i + 3).toNat).toInt]) (rest := [vI r]) dL_342 wL_40 rL_40 rfl ⟨_, rfl, rfl⟩ rfl rfl (Nat.le_of_ble_eq_true rfl) (gEi_mono (h hr) (fun r' υ h' hr' => ?_))
  exact l_icmp_eq (tgt := 985) dL_345 (by decide) hr hr' (fun _ => K υ (h' hr').2) (fun n => absurd (h' hr').1 n)
theorem l_stop (hL : L ≤ 3072) (i : Int) (hi : 0 ≤ i ∧ i + 5 < L) (σ : gS) (hI : tInv σ) (K : ∀ υ, tInv υ → lAt l G b L xs 985 [(3, vI i), (2, .ref (G.2.1 88)), (1, .ref (G.2.1 0)), (0, .ref b)] [] υ) : lAt l G b L xs 350 [(3, vI i), (2, .ref (G.2.1 88)), (1, .ref (G.2.1 0)), (0, .ref b)] [] σ := by
  refine l_aload_n 2 dL_350 rfl rfl ?_
  refine l_aload_n 3 dL_351 rfl rfl ?_
  refine l_iload_n 0 dL_352 rfl rfl ?_
  refine l_iconst dL_353 ?_
  refine l_iadd dL_354 ?_
  refine l_sld hL dL_355 ⟨by omega, by omega⟩ ?_
  refine l_aload_n 3 dL_356 rfl rfl ?_
  refine l_iload_n 0 dL_357 rfl rfl ?_
  refine l_iconst dL_358 ?_
  refine l_iadd dL_359 ?_
  refine l_sld hL dL_360 ⟨by omega, by omega⟩ ?_
  refine l_callVi (z := mX11_stop) (c := 0) (As := [vI (xs (i + 1).toNat).toInt, vI (xs (i + 2).toNat).toInt]) (rest := []) dL_361 wL_41 rL_41 rfl ⟨_, rfl, rfl⟩ rfl rfl (Nat.le_of_ble_eq_true rfl) (gEi_mono (p_stop (xs (i + 1).toNat).toInt (xs (i + 2).toNat).toInt (gR_toInt _) (gR_toInt _) σ hI) (fun r τ h hr => ?_))
  refine l_aload_n 1 dL_364 rfl rfl ?_
  refine l_aload_n 3 dL_365 rfl rfl ?_
  refine l_iload_n 0 dL_366 rfl rfl ?_
  refine l_iconst dL_367 ?_
  refine l_iadd dL_368 ?_
  refine l_sld hL dL_369 ⟨by omega, by omega⟩ ?_
  refine l_aload_n 3 dL_370 rfl rfl ?_
  refine l_iload_n 0 dL_371 rfl rfl ?_
  refine l_iconst dL_372 ?_
  refine l_iadd dL_373 ?_
  refine l_sld hL dL_374 ⟨by omega, by omega⟩ ?_
  refine l_callVi (z := mX12_stop) (c := 88) (As := [vI (xs (i + 1).toNat).toInt, vI (xs (i + 2).toNat).toInt]) (rest := [vI r]) dL_375 wL_44 rL_44 rfl ⟨_, rfl, rfl⟩ rfl rfl (Nat.le_of_ble_eq_true rfl) (gEi_mono (h hr) (fun r' υ h' hr' => ?_))
  exact l_icmp_eq (tgt := 985) dL_378 (by decide) hr hr' (fun _ => K υ (h' hr').2) (fun n => absurd (h' hr').1 n)
theorem l_state (hL : L ≤ 3072) (i : Int) (hi : 0 ≤ i ∧ i + 5 < L) (σ : gS) (hI : tInv σ) (K : ∀ υ, tInv υ → lAt l G b L xs 985 [(3, vI i), (2, .ref (G.2.1 88)), (1, .ref (G.2.1 0)), (0, .ref b)] [] υ) : lAt l G b L xs 383 [(3, vI i), (2, .ref (G.2.1 88)), (1, .ref (G.2.1 0)), (0, .ref b)] [] σ := by
  refine l_aload_n 2 dL_383 rfl rfl ?_
  refine l_aload_n 3 dL_384 rfl rfl ?_
  refine l_iload_n 0 dL_385 rfl rfl ?_
  refine l_iconst dL_386 ?_
  refine l_iadd dL_387 ?_
  refine l_sld hL dL_388 ⟨by omega, by omega⟩ ?_
  refine l_aload_n 3 dL_389 rfl rfl ?_
  refine l_iload_n 0 dL_390 rfl rfl ?_
  refine l_iconst dL_391 ?_
  refine l_iadd dL_392 ?_
  refine l_sld hL dL_393 ⟨by omega, by omega⟩ ?_
  refine l_aload_n 3 dL_394 rfl rfl ?_
  refine l_iload_n 0 dL_395 rfl rfl ?_
  refine l_iconst dL_396 ?_
  refine l_iadd dL_397 ?_
  refine l_sld hL dL_398 ⟨by omega, by omega⟩ ?_
  refine l_aload_n 3 dL_399 rfl rfl ?_
  refine l_iload_n 0 dL_400 rfl rfl ?_
  refine l_iconst dL_401 ?_
  refine l_iadd dL_402 ?_
  refine l_sld hL dL_403 ⟨by omega, by omega⟩ ?_
  refine l_callVi (z := mX11_state) (c := 0) (As := [vI (xs (i + 1).toNat).toInt, vI (xs (i + 2).toNat).toInt, vI (xs (i + 3).toNat).toInt, vI (xs (i + 4).toNat).toInt]) (rest := []) dL_404 wL_45 rL_45 rfl ⟨_, rfl, rfl⟩ rfl rfl (Nat.le_of_ble_eq_true rfl) (gEi_mono (p_state (xs (i + 1).toNat).toInt (xs (i + 2).toNat).toInt (xs (i + 3).toNat).toInt (xs (i + 4).toNat).toInt (gR_toInt _) (gR_toInt _) (gR_toInt _) (gR_toInt _) σ hI) (fun r τ h hr => ?_))
  refine l_aload_n 1 dL_407 rfl rfl ?_
  refine l_aload_n 3 dL_408 rfl rfl ?_
  refine l_iload_n 0 dL_409 rfl rfl ?_
  refine l_iconst dL_410 ?_
  refine l_iadd dL_411 ?_
  refine l_sld hL dL_412 ⟨by omega, by omega⟩ ?_
  refine l_aload_n 3 dL_413 rfl rfl ?_
  refine l_iload_n 0 dL_414 rfl rfl ?_
  refine l_iconst dL_415 ?_
  refine l_iadd dL_416 ?_
  refine l_sld hL dL_417 ⟨by omega, by omega⟩ ?_
  refine l_aload_n 3 dL_418 rfl rfl ?_
  refine l_iload_n 0 dL_419 rfl rfl ?_
  refine l_iconst dL_420 ?_
  refine l_iadd dL_421 ?_
  refine l_sld hL dL_422 ⟨by omega, by omega⟩ ?_
  refine l_aload_n 3 dL_423 rfl rfl ?_
  refine l_iload_n 0 dL_424 rfl rfl ?_
  refine l_iconst dL_425 ?_
  refine l_iadd dL_426 ?_
  refine l_sld hL dL_427 ⟨by omega, by omega⟩ ?_
  refine l_callVi (z := mX12_state) (c := 88) (As := [vI (xs (i + 1).toNat).toInt, vI (xs (i + 2).toNat).toInt, vI (xs (i + 3).toNat).toInt, vI (xs (i + 4).toNat).toInt]) (rest := [vI r]) dL_428 wL_49 rL_49 rfl ⟨_, rfl, rfl⟩ rfl rfl (Nat.le_of_ble_eq_true rfl) (gEi_mono (h hr) (fun r' υ h' hr' => ?_))
  exact l_icmp_eq (tgt := 985) dL_431 (by decide) hr hr' (fun _ => K υ (h' hr').2) (fun n => absurd (h' hr').1 n)
theorem l_cell (hL : L ≤ 3072) (i : Int) (hi : 0 ≤ i ∧ i + 5 < L) (σ : gS) (hI : tInv σ) (K : ∀ υ, tInv υ → lAt l G b L xs 985 [(3, vI i), (2, .ref (G.2.1 88)), (1, .ref (G.2.1 0)), (0, .ref b)] [] υ) : lAt l G b L xs 436 [(3, vI i), (2, .ref (G.2.1 88)), (1, .ref (G.2.1 0)), (0, .ref b)] [] σ := by
  refine l_aload_n 2 dL_436 rfl rfl ?_
  refine l_aload_n 3 dL_437 rfl rfl ?_
  refine l_iload_n 0 dL_438 rfl rfl ?_
  refine l_iconst dL_439 ?_
  refine l_iadd dL_440 ?_
  refine l_sld hL dL_441 ⟨by omega, by omega⟩ ?_
  refine l_aload_n 3 dL_442 rfl rfl ?_
  refine l_iload_n 0 dL_443 rfl rfl ?_
  refine l_iconst dL_444 ?_
  refine l_iadd dL_445 ?_
  refine l_sld hL dL_446 ⟨by omega, by omega⟩ ?_
  refine l_aload_n 3 dL_447 rfl rfl ?_
  refine l_iload_n 0 dL_448 rfl rfl ?_
  refine l_iconst dL_449 ?_
  refine l_iadd dL_450 ?_
  refine l_sld hL dL_451 ⟨by omega, by omega⟩ ?_
  refine l_aload_n 3 dL_452 rfl rfl ?_
  refine l_iload_n 0 dL_453 rfl rfl ?_
  refine l_iconst dL_454 ?_
  refine l_iadd dL_455 ?_
  refine l_sld hL dL_456 ⟨by omega, by omega⟩ ?_
  refine l_callVi (z := mX11_cell) (c := 0) (As := [vI (xs (i + 1).toNat).toInt, vI (xs (i + 2).toNat).toInt, vI (xs (i + 3).toNat).toInt, vI (xs (i + 4).toNat).toInt]) (rest := []) dL_457 wL_50 rL_50 rfl ⟨_, rfl, rfl⟩ rfl rfl (Nat.le_of_ble_eq_true rfl) (gEi_mono (p_cell (xs (i + 1).toNat).toInt (xs (i + 2).toNat).toInt (xs (i + 3).toNat).toInt (xs (i + 4).toNat).toInt (gR_toInt _) (gR_toInt _) (gR_toInt _) (gR_toInt _) σ hI) (fun r τ h hr => ?_))
  refine l_aload_n 1 dL_460 rfl rfl ?_
  refine l_aload_n 3 dL_461 rfl rfl ?_
  refine l_iload_n 0 dL_462 rfl rfl ?_
  refine l_iconst dL_463 ?_
  refine l_iadd dL_464 ?_
  refine l_sld hL dL_465 ⟨by omega, by omega⟩ ?_
  refine l_aload_n 3 dL_466 rfl rfl ?_
  refine l_iload_n 0 dL_467 rfl rfl ?_
  refine l_iconst dL_468 ?_
  refine l_iadd dL_469 ?_
  refine l_sld hL dL_470 ⟨by omega, by omega⟩ ?_
  refine l_aload_n 3 dL_471 rfl rfl ?_
  refine l_iload_n 0 dL_472 rfl rfl ?_
  refine l_iconst dL_473 ?_
  refine l_iadd dL_474 ?_
  refine l_sld hL dL_475 ⟨by omega, by omega⟩ ?_
  refine l_aload_n 3 dL_476 rfl rfl ?_
  refine l_iload_n 0 dL_477 rfl rfl ?_
  refine l_iconst dL_478 ?_
  refine l_iadd dL_479 ?_
  refine l_sld hL dL_480 ⟨by omega, by omega⟩ ?_
  refine l_callVi (z := mX12_cell) (c := 88) (As := [vI (xs (i + 1).toNat).toInt, vI (xs (i + 2).toNat).toInt, vI (xs (i + 3).toNat).toInt, vI (xs (i + 4).toNat).toInt]) (rest := [vI r]) dL_481 wL_53 rL_53 rfl ⟨_, rfl, rfl⟩ rfl rfl (Nat.le_of_ble_eq_true rfl) (gEi_mono (h hr) (fun r' υ h' hr' => ?_))
  exact l_icmp_eq (tgt := 985) dL_484 (by decide) hr hr' (fun _ => K υ (h' hr').2) (fun n => absurd (h' hr').1 n)
theorem l_full (hL : L ≤ 3072) (i : Int) (hi : 0 ≤ i ∧ i + 5 < L) (σ : gS) (hI : tInv σ) (K : ∀ υ, tInv υ → lAt l G b L xs 985 [(3, vI i), (2, .ref (G.2.1 88)), (1, .ref (G.2.1 0)), (0, .ref b)] [] υ) : lAt l G b L xs 489 [(3, vI i), (2, .ref (G.2.1 88)), (1, .ref (G.2.1 0)), (0, .ref b)] [] σ := by
  refine l_aload_n 2 dL_489 rfl rfl ?_
  refine l_aload_n 3 dL_490 rfl rfl ?_
  refine l_iload_n 0 dL_491 rfl rfl ?_
  refine l_iconst dL_492 ?_
  refine l_iadd dL_493 ?_
  refine l_sld hL dL_494 ⟨by omega, by omega⟩ ?_
  refine l_aload_n 3 dL_495 rfl rfl ?_
  refine l_iload_n 0 dL_496 rfl rfl ?_
  refine l_iconst dL_497 ?_
  refine l_iadd dL_498 ?_
  refine l_sld hL dL_499 ⟨by omega, by omega⟩ ?_
  refine l_aload_n 3 dL_500 rfl rfl ?_
  refine l_iload_n 0 dL_501 rfl rfl ?_
  refine l_iconst dL_502 ?_
  refine l_iadd dL_503 ?_
  refine l_sld hL dL_504 ⟨by omega, by omega⟩ ?_
  refine l_callVi (z := mX11_full) (c := 0) (As := [vI (xs (i + 1).toNat).toInt, vI (xs (i + 2).toNat).toInt, vI (xs (i + 3).toNat).toInt]) (rest := []) dL_505 wL_54 rL_54 rfl ⟨_, rfl, rfl⟩ rfl rfl (Nat.le_of_ble_eq_true rfl) (gEi_mono (p_full (xs (i + 1).toNat).toInt (xs (i + 2).toNat).toInt (xs (i + 3).toNat).toInt (gR_toInt _) (gR_toInt _) (gR_toInt _) σ hI) (fun r τ h hr => ?_))
  refine l_aload_n 1 dL_508 rfl rfl ?_
  refine l_aload_n 3 dL_509 rfl rfl ?_
  refine l_iload_n 0 dL_510 rfl rfl ?_
  refine l_iconst dL_511 ?_
  refine l_iadd dL_512 ?_
  refine l_sld hL dL_513 ⟨by omega, by omega⟩ ?_
  refine l_aload_n 3 dL_514 rfl rfl ?_
  refine l_iload_n 0 dL_515 rfl rfl ?_
  refine l_iconst dL_516 ?_
  refine l_iadd dL_517 ?_
  refine l_sld hL dL_518 ⟨by omega, by omega⟩ ?_
  refine l_aload_n 3 dL_519 rfl rfl ?_
  refine l_iload_n 0 dL_520 rfl rfl ?_
  refine l_iconst dL_521 ?_
  refine l_iadd dL_522 ?_
  refine l_sld hL dL_523 ⟨by omega, by omega⟩ ?_
  refine l_callVi (z := mX12_full) (c := 88) (As := [vI (xs (i + 1).toNat).toInt, vI (xs (i + 2).toNat).toInt, vI (xs (i + 3).toNat).toInt]) (rest := [vI r]) dL_524 wL_57 rL_57 rfl ⟨_, rfl, rfl⟩ rfl rfl (Nat.le_of_ble_eq_true rfl) (gEi_mono (h hr) (fun r' υ h' hr' => ?_))
  exact l_icmp_eq (tgt := 985) dL_527 (by decide) hr hr' (fun _ => K υ (h' hr').2) (fun n => absurd (h' hr').1 n)
theorem l_rhythm (hL : L ≤ 3072) (i : Int) (hi : 0 ≤ i ∧ i + 5 < L) (σ : gS) (hI : tInv σ) (K : ∀ υ, tInv υ → lAt l G b L xs 985 [(3, vI i), (2, .ref (G.2.1 88)), (1, .ref (G.2.1 0)), (0, .ref b)] [] υ) : lAt l G b L xs 532 [(3, vI i), (2, .ref (G.2.1 88)), (1, .ref (G.2.1 0)), (0, .ref b)] [] σ := by
  refine l_aload_n 2 dL_532 rfl rfl ?_
  refine l_aload_n 3 dL_533 rfl rfl ?_
  refine l_iload_n 0 dL_534 rfl rfl ?_
  refine l_iconst dL_535 ?_
  refine l_iadd dL_536 ?_
  refine l_sld hL dL_537 ⟨by omega, by omega⟩ ?_
  refine l_aload_n 3 dL_538 rfl rfl ?_
  refine l_iload_n 0 dL_539 rfl rfl ?_
  refine l_iconst dL_540 ?_
  refine l_iadd dL_541 ?_
  refine l_sld hL dL_542 ⟨by omega, by omega⟩ ?_
  refine l_callVi (z := mX11_rhythm) (c := 0) (As := [vI (xs (i + 1).toNat).toInt, vI (xs (i + 2).toNat).toInt]) (rest := []) dL_543 wL_58 rL_58 rfl ⟨_, rfl, rfl⟩ rfl rfl (Nat.le_of_ble_eq_true rfl) (gEi_mono (p_rhythm (xs (i + 1).toNat).toInt (xs (i + 2).toNat).toInt (gR_toInt _) (gR_toInt _) σ hI) (fun r τ h hr => ?_))
  refine l_aload_n 1 dL_546 rfl rfl ?_
  refine l_aload_n 3 dL_547 rfl rfl ?_
  refine l_iload_n 0 dL_548 rfl rfl ?_
  refine l_iconst dL_549 ?_
  refine l_iadd dL_550 ?_
  refine l_sld hL dL_551 ⟨by omega, by omega⟩ ?_
  refine l_aload_n 3 dL_552 rfl rfl ?_
  refine l_iload_n 0 dL_553 rfl rfl ?_
  refine l_iconst dL_554 ?_
  refine l_iadd dL_555 ?_
  refine l_sld hL dL_556 ⟨by omega, by omega⟩ ?_
  refine l_callVi (z := mX12_rhythm) (c := 88) (As := [vI (xs (i + 1).toNat).toInt, vI (xs (i + 2).toNat).toInt]) (rest := [vI r]) dL_557 wL_61 rL_61 rfl ⟨_, rfl, rfl⟩ rfl rfl (Nat.le_of_ble_eq_true rfl) (gEi_mono (h hr) (fun r' υ h' hr' => ?_))
  exact l_icmp_eq (tgt := 985) dL_560 (by decide) hr hr' (fun _ => K υ (h' hr').2) (fun n => absurd (h' hr').1 n)
theorem l_judge (hL : L ≤ 3072) (i : Int) (hi : 0 ≤ i ∧ i + 5 < L) (σ : gS) (hI : tInv σ) (K : ∀ υ, tInv υ → lAt l G b L xs 985 [(3, vI i), (2, .ref (G.2.1 88)), (1, .ref (G.2.1 0)), (0, .ref b)] [] υ) : lAt l G b L xs 565 [(3, vI i), (2, .ref (G.2.1 88)), (1, .ref (G.2.1 0)), (0, .ref b)] [] σ := by
  refine l_aload_n 2 dL_565 rfl rfl ?_
  refine l_aload_n 3 dL_566 rfl rfl ?_
  refine l_iload_n 0 dL_567 rfl rfl ?_
  refine l_iconst dL_568 ?_
  refine l_iadd dL_569 ?_
  refine l_sld hL dL_570 ⟨by omega, by omega⟩ ?_
  refine l_aload_n 3 dL_571 rfl rfl ?_
  refine l_iload_n 0 dL_572 rfl rfl ?_
  refine l_iconst dL_573 ?_
  refine l_iadd dL_574 ?_
  refine l_sld hL dL_575 ⟨by omega, by omega⟩ ?_
  refine l_aload_n 3 dL_576 rfl rfl ?_
  refine l_iload_n 0 dL_577 rfl rfl ?_
  refine l_iconst dL_578 ?_
  refine l_iadd dL_579 ?_
  refine l_sld hL dL_580 ⟨by omega, by omega⟩ ?_
  refine l_aload_n 3 dL_581 rfl rfl ?_
  refine l_iload_n 0 dL_582 rfl rfl ?_
  refine l_iconst dL_583 ?_
  refine l_iadd dL_584 ?_
  refine l_sld hL dL_585 ⟨by omega, by omega⟩ ?_
  refine l_callVi (z := mX11_judge) (c := 0) (As := [vI (xs (i + 1).toNat).toInt, vI (xs (i + 2).toNat).toInt, vI (xs (i + 3).toNat).toInt, vI (xs (i + 4).toNat).toInt]) (rest := []) dL_586 wL_62 rL_62 rfl ⟨_, rfl, rfl⟩ rfl rfl (Nat.le_of_ble_eq_true rfl) (gEi_mono (p_judge (xs (i + 1).toNat).toInt (xs (i + 2).toNat).toInt (xs (i + 3).toNat).toInt (xs (i + 4).toNat).toInt (gR_toInt _) (gR_toInt _) (gR_toInt _) (gR_toInt _) σ hI) (fun r τ h hr => ?_))
  refine l_aload_n 1 dL_589 rfl rfl ?_
  refine l_aload_n 3 dL_590 rfl rfl ?_
  refine l_iload_n 0 dL_591 rfl rfl ?_
  refine l_iconst dL_592 ?_
  refine l_iadd dL_593 ?_
  refine l_sld hL dL_594 ⟨by omega, by omega⟩ ?_
  refine l_aload_n 3 dL_595 rfl rfl ?_
  refine l_iload_n 0 dL_596 rfl rfl ?_
  refine l_iconst dL_597 ?_
  refine l_iadd dL_598 ?_
  refine l_sld hL dL_599 ⟨by omega, by omega⟩ ?_
  refine l_aload_n 3 dL_600 rfl rfl ?_
  refine l_iload_n 0 dL_601 rfl rfl ?_
  refine l_iconst dL_602 ?_
  refine l_iadd dL_603 ?_
  refine l_sld hL dL_604 ⟨by omega, by omega⟩ ?_
  refine l_aload_n 3 dL_605 rfl rfl ?_
  refine l_iload_n 0 dL_606 rfl rfl ?_
  refine l_iconst dL_607 ?_
  refine l_iadd dL_608 ?_
  refine l_sld hL dL_609 ⟨by omega, by omega⟩ ?_
  refine l_callVi (z := mX12_judge) (c := 88) (As := [vI (xs (i + 1).toNat).toInt, vI (xs (i + 2).toNat).toInt, vI (xs (i + 3).toNat).toInt, vI (xs (i + 4).toNat).toInt]) (rest := [vI r]) dL_610 wL_65 rL_65 rfl ⟨_, rfl, rfl⟩ rfl rfl (Nat.le_of_ble_eq_true rfl) (gEi_mono (h hr) (fun r' υ h' hr' => ?_))
  exact l_icmp_eq (tgt := 985) dL_613 (by decide) hr hr' (fun _ => K υ (h' hr').2) (fun n => absurd (h' hr').1 n)
theorem l_mimic (hL : L ≤ 3072) (i : Int) (hi : 0 ≤ i ∧ i + 5 < L) (σ : gS) (hI : tInv σ) (K : ∀ υ, tInv υ → lAt l G b L xs 985 [(3, vI i), (2, .ref (G.2.1 88)), (1, .ref (G.2.1 0)), (0, .ref b)] [] υ) : lAt l G b L xs 618 [(3, vI i), (2, .ref (G.2.1 88)), (1, .ref (G.2.1 0)), (0, .ref b)] [] σ := by
  refine l_aload_n 2 dL_618 rfl rfl ?_
  refine l_aload_n 3 dL_619 rfl rfl ?_
  refine l_iload_n 0 dL_620 rfl rfl ?_
  refine l_iconst dL_621 ?_
  refine l_iadd dL_622 ?_
  refine l_sld hL dL_623 ⟨by omega, by omega⟩ ?_
  refine l_aload_n 3 dL_624 rfl rfl ?_
  refine l_iload_n 0 dL_625 rfl rfl ?_
  refine l_iconst dL_626 ?_
  refine l_iadd dL_627 ?_
  refine l_sld hL dL_628 ⟨by omega, by omega⟩ ?_
  refine l_aload_n 3 dL_629 rfl rfl ?_
  refine l_iload_n 0 dL_630 rfl rfl ?_
  refine l_iconst dL_631 ?_
  refine l_iadd dL_632 ?_
  refine l_sld hL dL_633 ⟨by omega, by omega⟩ ?_
  refine l_aload_n 3 dL_634 rfl rfl ?_
  refine l_iload_n 0 dL_635 rfl rfl ?_
  refine l_iconst dL_636 ?_
  refine l_iadd dL_637 ?_
  refine l_sld hL dL_638 ⟨by omega, by omega⟩ ?_
  refine l_callVi (z := mX11_mimic) (c := 0) (As := [vI (xs (i + 1).toNat).toInt, vI (xs (i + 2).toNat).toInt, vI (xs (i + 3).toNat).toInt, vI (xs (i + 4).toNat).toInt]) (rest := []) dL_639 wL_66 rL_66 rfl ⟨_, rfl, rfl⟩ rfl rfl (Nat.le_of_ble_eq_true rfl) (gEi_mono (p_mimic (xs (i + 1).toNat).toInt (xs (i + 2).toNat).toInt (xs (i + 3).toNat).toInt (xs (i + 4).toNat).toInt (gR_toInt _) (gR_toInt _) (gR_toInt _) (gR_toInt _) σ hI) (fun r τ h hr => ?_))
  refine l_aload_n 1 dL_642 rfl rfl ?_
  refine l_aload_n 3 dL_643 rfl rfl ?_
  refine l_iload_n 0 dL_644 rfl rfl ?_
  refine l_iconst dL_645 ?_
  refine l_iadd dL_646 ?_
  refine l_sld hL dL_647 ⟨by omega, by omega⟩ ?_
  refine l_aload_n 3 dL_648 rfl rfl ?_
  refine l_iload_n 0 dL_649 rfl rfl ?_
  refine l_iconst dL_650 ?_
  refine l_iadd dL_651 ?_
  refine l_sld hL dL_652 ⟨by omega, by omega⟩ ?_
  refine l_aload_n 3 dL_653 rfl rfl ?_
  refine l_iload_n 0 dL_654 rfl rfl ?_
  refine l_iconst dL_655 ?_
  refine l_iadd dL_656 ?_
  refine l_sld hL dL_657 ⟨by omega, by omega⟩ ?_
  refine l_aload_n 3 dL_658 rfl rfl ?_
  refine l_iload_n 0 dL_659 rfl rfl ?_
  refine l_iconst dL_660 ?_
  refine l_iadd dL_661 ?_
  refine l_sld hL dL_662 ⟨by omega, by omega⟩ ?_
  refine l_callVi (z := mX12_mimic) (c := 88) (As := [vI (xs (i + 1).toNat).toInt, vI (xs (i + 2).toNat).toInt, vI (xs (i + 3).toNat).toInt, vI (xs (i + 4).toNat).toInt]) (rest := [vI r]) dL_663 wL_69 rL_69 rfl ⟨_, rfl, rfl⟩ rfl rfl (Nat.le_of_ble_eq_true rfl) (gEi_mono (h hr) (fun r' υ h' hr' => ?_))
  exact l_icmp_eq (tgt := 985) dL_666 (by decide) hr hr' (fun _ => K υ (h' hr').2) (fun n => absurd (h' hr').1 n)
theorem l_flow (hL : L ≤ 3072) (i : Int) (hi : 0 ≤ i ∧ i + 5 < L) (σ : gS) (hI : tInv σ) (K : ∀ υ, tInv υ → lAt l G b L xs 985 [(3, vI i), (2, .ref (G.2.1 88)), (1, .ref (G.2.1 0)), (0, .ref b)] [] υ) : lAt l G b L xs 671 [(3, vI i), (2, .ref (G.2.1 88)), (1, .ref (G.2.1 0)), (0, .ref b)] [] σ := by
  refine l_aload_n 2 dL_671 rfl rfl ?_
  refine l_aload_n 3 dL_672 rfl rfl ?_
  refine l_iload_n 0 dL_673 rfl rfl ?_
  refine l_iconst dL_674 ?_
  refine l_iadd dL_675 ?_
  refine l_sld hL dL_676 ⟨by omega, by omega⟩ ?_
  refine l_aload_n 3 dL_677 rfl rfl ?_
  refine l_iload_n 0 dL_678 rfl rfl ?_
  refine l_iconst dL_679 ?_
  refine l_iadd dL_680 ?_
  refine l_sld hL dL_681 ⟨by omega, by omega⟩ ?_
  refine l_aload_n 3 dL_682 rfl rfl ?_
  refine l_iload_n 0 dL_683 rfl rfl ?_
  refine l_iconst dL_684 ?_
  refine l_iadd dL_685 ?_
  refine l_sld hL dL_686 ⟨by omega, by omega⟩ ?_
  refine l_aload_n 3 dL_687 rfl rfl ?_
  refine l_iload_n 0 dL_688 rfl rfl ?_
  refine l_iconst dL_689 ?_
  refine l_iadd dL_690 ?_
  refine l_sld hL dL_691 ⟨by omega, by omega⟩ ?_
  refine l_callVi (z := mX11_flow) (c := 0) (As := [vI (xs (i + 1).toNat).toInt, vI (xs (i + 2).toNat).toInt, vI (xs (i + 3).toNat).toInt, vI (xs (i + 4).toNat).toInt]) (rest := []) dL_692 wL_70 rL_70 rfl ⟨_, rfl, rfl⟩ rfl rfl (Nat.le_of_ble_eq_true rfl) (gEi_mono (p_flow (xs (i + 1).toNat).toInt (xs (i + 2).toNat).toInt (xs (i + 3).toNat).toInt (xs (i + 4).toNat).toInt (gR_toInt _) (gR_toInt _) (gR_toInt _) (gR_toInt _) σ hI) (fun r τ h hr => ?_))
  refine l_aload_n 1 dL_695 rfl rfl ?_
  refine l_aload_n 3 dL_696 rfl rfl ?_
  refine l_iload_n 0 dL_697 rfl rfl ?_
  refine l_iconst dL_698 ?_
  refine l_iadd dL_699 ?_
  refine l_sld hL dL_700 ⟨by omega, by omega⟩ ?_
  refine l_aload_n 3 dL_701 rfl rfl ?_
  refine l_iload_n 0 dL_702 rfl rfl ?_
  refine l_iconst dL_703 ?_
  refine l_iadd dL_704 ?_
  refine l_sld hL dL_705 ⟨by omega, by omega⟩ ?_
  refine l_aload_n 3 dL_706 rfl rfl ?_
  refine l_iload_n 0 dL_707 rfl rfl ?_
  refine l_iconst dL_708 ?_
  refine l_iadd dL_709 ?_
  refine l_sld hL dL_710 ⟨by omega, by omega⟩ ?_
  refine l_aload_n 3 dL_711 rfl rfl ?_
  refine l_iload_n 0 dL_712 rfl rfl ?_
  refine l_iconst dL_713 ?_
  refine l_iadd dL_714 ?_
  refine l_sld hL dL_715 ⟨by omega, by omega⟩ ?_
  refine l_callVi (z := mX12_flow) (c := 88) (As := [vI (xs (i + 1).toNat).toInt, vI (xs (i + 2).toNat).toInt, vI (xs (i + 3).toNat).toInt, vI (xs (i + 4).toNat).toInt]) (rest := [vI r]) dL_716 wL_73 rL_73 rfl ⟨_, rfl, rfl⟩ rfl rfl (Nat.le_of_ble_eq_true rfl) (gEi_mono (h hr) (fun r' υ h' hr' => ?_))
  exact l_icmp_eq (tgt := 985) dL_719 (by decide) hr hr' (fun _ => K υ (h' hr').2) (fun n => absurd (h' hr').1 n)
theorem l_after (hL : L ≤ 3072) (i : Int) (hi : 0 ≤ i ∧ i + 5 < L) (σ : gS) (hI : tInv σ) (K : ∀ υ, tInv υ → lAt l G b L xs 985 [(3, vI i), (2, .ref (G.2.1 88)), (1, .ref (G.2.1 0)), (0, .ref b)] [] υ) : lAt l G b L xs 724 [(3, vI i), (2, .ref (G.2.1 88)), (1, .ref (G.2.1 0)), (0, .ref b)] [] σ := by
  refine l_aload_n 2 dL_724 rfl rfl ?_
  refine l_aload_n 3 dL_725 rfl rfl ?_
  refine l_iload_n 0 dL_726 rfl rfl ?_
  refine l_iconst dL_727 ?_
  refine l_iadd dL_728 ?_
  refine l_sld hL dL_729 ⟨by omega, by omega⟩ ?_
  refine l_aload_n 3 dL_730 rfl rfl ?_
  refine l_iload_n 0 dL_731 rfl rfl ?_
  refine l_iconst dL_732 ?_
  refine l_iadd dL_733 ?_
  refine l_sld hL dL_734 ⟨by omega, by omega⟩ ?_
  refine l_aload_n 3 dL_735 rfl rfl ?_
  refine l_iload_n 0 dL_736 rfl rfl ?_
  refine l_iconst dL_737 ?_
  refine l_iadd dL_738 ?_
  refine l_sld hL dL_739 ⟨by omega, by omega⟩ ?_
  refine l_callVi (z := mX11_after) (c := 0) (As := [vI (xs (i + 1).toNat).toInt, vI (xs (i + 2).toNat).toInt, vI (xs (i + 3).toNat).toInt]) (rest := []) dL_740 wL_74 rL_74 rfl ⟨_, rfl, rfl⟩ rfl rfl (Nat.le_of_ble_eq_true rfl) (gEi_mono (p_after (xs (i + 1).toNat).toInt (xs (i + 2).toNat).toInt (xs (i + 3).toNat).toInt (gR_toInt _) (gR_toInt _) (gR_toInt _) σ hI) (fun r τ h hr => ?_))
  refine l_aload_n 1 dL_743 rfl rfl ?_
  refine l_aload_n 3 dL_744 rfl rfl ?_
  refine l_iload_n 0 dL_745 rfl rfl ?_
  refine l_iconst dL_746 ?_
  refine l_iadd dL_747 ?_
  refine l_sld hL dL_748 ⟨by omega, by omega⟩ ?_
  refine l_aload_n 3 dL_749 rfl rfl ?_
  refine l_iload_n 0 dL_750 rfl rfl ?_
  refine l_iconst dL_751 ?_
  refine l_iadd dL_752 ?_
  refine l_sld hL dL_753 ⟨by omega, by omega⟩ ?_
  refine l_aload_n 3 dL_754 rfl rfl ?_
  refine l_iload_n 0 dL_755 rfl rfl ?_
  refine l_iconst dL_756 ?_
  refine l_iadd dL_757 ?_
  refine l_sld hL dL_758 ⟨by omega, by omega⟩ ?_
  refine l_callVi (z := mX12_after) (c := 88) (As := [vI (xs (i + 1).toNat).toInt, vI (xs (i + 2).toNat).toInt, vI (xs (i + 3).toNat).toInt]) (rest := [vI r]) dL_759 wL_77 rL_77 rfl ⟨_, rfl, rfl⟩ rfl rfl (Nat.le_of_ble_eq_true rfl) (gEi_mono (h hr) (fun r' υ h' hr' => ?_))
  exact l_icmp_eq (tgt := 985) dL_762 (by decide) hr hr' (fun _ => K υ (h' hr').2) (fun n => absurd (h' hr').1 n)
theorem l_fact (hL : L ≤ 3072) (i : Int) (hi : 0 ≤ i ∧ i + 5 < L) (σ : gS) (hI : tInv σ) (K : ∀ υ, tInv υ → lAt l G b L xs 985 [(3, vI i), (2, .ref (G.2.1 88)), (1, .ref (G.2.1 0)), (0, .ref b)] [] υ) : lAt l G b L xs 767 [(3, vI i), (2, .ref (G.2.1 88)), (1, .ref (G.2.1 0)), (0, .ref b)] [] σ := by
  refine l_aload_n 2 dL_767 rfl rfl ?_
  refine l_aload_n 3 dL_768 rfl rfl ?_
  refine l_iload_n 0 dL_769 rfl rfl ?_
  refine l_iconst dL_770 ?_
  refine l_iadd dL_771 ?_
  refine l_sld hL dL_772 ⟨by omega, by omega⟩ ?_
  refine l_aload_n 3 dL_773 rfl rfl ?_
  refine l_iload_n 0 dL_774 rfl rfl ?_
  refine l_iconst dL_775 ?_
  refine l_iadd dL_776 ?_
  refine l_sld hL dL_777 ⟨by omega, by omega⟩ ?_
  refine l_aload_n 3 dL_778 rfl rfl ?_
  refine l_iload_n 0 dL_779 rfl rfl ?_
  refine l_iconst dL_780 ?_
  refine l_iadd dL_781 ?_
  refine l_sld hL dL_782 ⟨by omega, by omega⟩ ?_
  refine l_callVi (z := mX11_fact) (c := 0) (As := [vI (xs (i + 1).toNat).toInt, vI (xs (i + 2).toNat).toInt, vI (xs (i + 3).toNat).toInt]) (rest := []) dL_783 wL_78 rL_78 rfl ⟨_, rfl, rfl⟩ rfl rfl (Nat.le_of_ble_eq_true rfl) (gEi_mono (p_fact (xs (i + 1).toNat).toInt (xs (i + 2).toNat).toInt (xs (i + 3).toNat).toInt (gR_toInt _) (gR_toInt _) (gR_toInt _) σ hI) (fun r τ h hr => ?_))
  refine l_aload_n 1 dL_786 rfl rfl ?_
  refine l_aload_n 3 dL_787 rfl rfl ?_
  refine l_iload_n 0 dL_788 rfl rfl ?_
  refine l_iconst dL_789 ?_
  refine l_iadd dL_790 ?_
  refine l_sld hL dL_791 ⟨by omega, by omega⟩ ?_
  refine l_aload_n 3 dL_792 rfl rfl ?_
  refine l_iload_n 0 dL_793 rfl rfl ?_
  refine l_iconst dL_794 ?_
  refine l_iadd dL_795 ?_
  refine l_sld hL dL_796 ⟨by omega, by omega⟩ ?_
  refine l_aload_n 3 dL_797 rfl rfl ?_
  refine l_iload_n 0 dL_798 rfl rfl ?_
  refine l_iconst dL_799 ?_
  refine l_iadd dL_800 ?_
  refine l_sld hL dL_801 ⟨by omega, by omega⟩ ?_
  refine l_callVi (z := mX12_fact) (c := 88) (As := [vI (xs (i + 1).toNat).toInt, vI (xs (i + 2).toNat).toInt, vI (xs (i + 3).toNat).toInt]) (rest := [vI r]) dL_802 wL_81 rL_81 rfl ⟨_, rfl, rfl⟩ rfl rfl (Nat.le_of_ble_eq_true rfl) (gEi_mono (h hr) (fun r' υ h' hr' => ?_))
  exact l_icmp_eq (tgt := 985) dL_805 (by decide) hr hr' (fun _ => K υ (h' hr').2) (fun n => absurd (h' hr').1 n)
theorem l_fits (hL : L ≤ 3072) (i : Int) (hi : 0 ≤ i ∧ i + 5 < L) (σ : gS) (hI : tInv σ) (K : ∀ υ, tInv υ → lAt l G b L xs 985 [(3, vI i), (2, .ref (G.2.1 88)), (1, .ref (G.2.1 0)), (0, .ref b)] [] υ) : lAt l G b L xs 810 [(3, vI i), (2, .ref (G.2.1 88)), (1, .ref (G.2.1 0)), (0, .ref b)] [] σ := by
  refine l_aload_n 2 dL_810 rfl rfl ?_
  refine l_aload_n 3 dL_811 rfl rfl ?_
  refine l_iload_n 0 dL_812 rfl rfl ?_
  refine l_iconst dL_813 ?_
  refine l_iadd dL_814 ?_
  refine l_sld hL dL_815 ⟨by omega, by omega⟩ ?_
  refine l_aload_n 3 dL_816 rfl rfl ?_
  refine l_iload_n 0 dL_817 rfl rfl ?_
  refine l_iconst dL_818 ?_
  refine l_iadd dL_819 ?_
  refine l_sld hL dL_820 ⟨by omega, by omega⟩ ?_
  refine l_aload_n 3 dL_821 rfl rfl ?_
  refine l_iload_n 0 dL_822 rfl rfl ?_
  refine l_iconst dL_823 ?_
  refine l_iadd dL_824 ?_
  refine l_sld hL dL_825 ⟨by omega, by omega⟩ ?_
  refine l_aload_n 3 dL_826 rfl rfl ?_
  refine l_iload_n 0 dL_827 rfl rfl ?_
  refine l_iconst dL_828 ?_
  refine l_iadd dL_829 ?_
  refine l_sld hL dL_830 ⟨by omega, by omega⟩ ?_
  refine l_callVi (z := mX11_fits) (c := 0) (As := [vI (xs (i + 1).toNat).toInt, vI (xs (i + 2).toNat).toInt, vI (xs (i + 3).toNat).toInt, vI (xs (i + 4).toNat).toInt]) (rest := []) dL_831 wL_82 rL_82 rfl ⟨_, rfl, rfl⟩ rfl rfl (Nat.le_of_ble_eq_true rfl) (gEi_mono (p_fits (xs (i + 1).toNat).toInt (xs (i + 2).toNat).toInt (xs (i + 3).toNat).toInt (xs (i + 4).toNat).toInt (gR_toInt _) (gR_toInt _) (gR_toInt _) (gR_toInt _) σ hI) (fun r τ h hr => ?_))
  refine l_aload_n 1 dL_834 rfl rfl ?_
  refine l_aload_n 3 dL_835 rfl rfl ?_
  refine l_iload_n 0 dL_836 rfl rfl ?_
  refine l_iconst dL_837 ?_
  refine l_iadd dL_838 ?_
  refine l_sld hL dL_839 ⟨by omega, by omega⟩ ?_
  refine l_aload_n 3 dL_840 rfl rfl ?_
  refine l_iload_n 0 dL_841 rfl rfl ?_
  refine l_iconst dL_842 ?_
  refine l_iadd dL_843 ?_
  refine l_sld hL dL_844 ⟨by omega, by omega⟩ ?_
  refine l_aload_n 3 dL_845 rfl rfl ?_
  refine l_iload_n 0 dL_846 rfl rfl ?_
  refine l_iconst dL_847 ?_
  refine l_iadd dL_848 ?_
  refine l_sld hL dL_849 ⟨by omega, by omega⟩ ?_
  refine l_aload_n 3 dL_850 rfl rfl ?_
  refine l_iload_n 0 dL_851 rfl rfl ?_
  refine l_iconst dL_852 ?_
  refine l_iadd dL_853 ?_
  refine l_sld hL dL_854 ⟨by omega, by omega⟩ ?_
  refine l_callVi (z := mX12_fits) (c := 88) (As := [vI (xs (i + 1).toNat).toInt, vI (xs (i + 2).toNat).toInt, vI (xs (i + 3).toNat).toInt, vI (xs (i + 4).toNat).toInt]) (rest := [vI r]) dL_855 wL_85 rL_85 rfl ⟨_, rfl, rfl⟩ rfl rfl (Nat.le_of_ble_eq_true rfl) (gEi_mono (h hr) (fun r' υ h' hr' => ?_))
  exact l_icmp_eq (tgt := 985) dL_858 (by decide) hr hr' (fun _ => K υ (h' hr').2) (fun n => absurd (h' hr').1 n)
theorem l_drawn (hL : L ≤ 3072) (i : Int) (hi : 0 ≤ i ∧ i + 5 < L) (σ : gS) (hI : tInv σ) (K : ∀ υ, tInv υ → lAt l G b L xs 985 [(3, vI i), (2, .ref (G.2.1 88)), (1, .ref (G.2.1 0)), (0, .ref b)] [] υ) : lAt l G b L xs 863 [(3, vI i), (2, .ref (G.2.1 88)), (1, .ref (G.2.1 0)), (0, .ref b)] [] σ := by
  refine l_aload_n 2 dL_863 rfl rfl ?_
  refine l_aload_n 3 dL_864 rfl rfl ?_
  refine l_iload_n 0 dL_865 rfl rfl ?_
  refine l_iconst dL_866 ?_
  refine l_iadd dL_867 ?_
  refine l_sld hL dL_868 ⟨by omega, by omega⟩ ?_
  refine l_aload_n 3 dL_869 rfl rfl ?_
  refine l_iload_n 0 dL_870 rfl rfl ?_
  refine l_iconst dL_871 ?_
  refine l_iadd dL_872 ?_
  refine l_sld hL dL_873 ⟨by omega, by omega⟩ ?_
  refine l_aload_n 3 dL_874 rfl rfl ?_
  refine l_iload_n 0 dL_875 rfl rfl ?_
  refine l_iconst dL_876 ?_
  refine l_iadd dL_877 ?_
  refine l_sld hL dL_878 ⟨by omega, by omega⟩ ?_
  refine l_aload_n 3 dL_879 rfl rfl ?_
  refine l_iload_n 0 dL_880 rfl rfl ?_
  refine l_iconst dL_881 ?_
  refine l_iadd dL_882 ?_
  refine l_sld hL dL_883 ⟨by omega, by omega⟩ ?_
  refine l_callVi (z := mX11_drawn) (c := 0) (As := [vI (xs (i + 1).toNat).toInt, vI (xs (i + 2).toNat).toInt, vI (xs (i + 3).toNat).toInt, vI (xs (i + 4).toNat).toInt]) (rest := []) dL_884 wL_86 rL_86 rfl ⟨_, rfl, rfl⟩ rfl rfl (Nat.le_of_ble_eq_true rfl) (gEi_mono (p_drawn (xs (i + 1).toNat).toInt (xs (i + 2).toNat).toInt (xs (i + 3).toNat).toInt (xs (i + 4).toNat).toInt (gR_toInt _) (gR_toInt _) (gR_toInt _) (gR_toInt _) σ hI) (fun r τ h hr => ?_))
  refine l_aload_n 1 dL_887 rfl rfl ?_
  refine l_aload_n 3 dL_888 rfl rfl ?_
  refine l_iload_n 0 dL_889 rfl rfl ?_
  refine l_iconst dL_890 ?_
  refine l_iadd dL_891 ?_
  refine l_sld hL dL_892 ⟨by omega, by omega⟩ ?_
  refine l_aload_n 3 dL_893 rfl rfl ?_
  refine l_iload_n 0 dL_894 rfl rfl ?_
  refine l_iconst dL_895 ?_
  refine l_iadd dL_896 ?_
  refine l_sld hL dL_897 ⟨by omega, by omega⟩ ?_
  refine l_aload_n 3 dL_898 rfl rfl ?_
  refine l_iload_n 0 dL_899 rfl rfl ?_
  refine l_iconst dL_900 ?_
  refine l_iadd dL_901 ?_
  refine l_sld hL dL_902 ⟨by omega, by omega⟩ ?_
  refine l_aload_n 3 dL_903 rfl rfl ?_
  refine l_iload_n 0 dL_904 rfl rfl ?_
  refine l_iconst dL_905 ?_
  refine l_iadd dL_906 ?_
  refine l_sld hL dL_907 ⟨by omega, by omega⟩ ?_
  refine l_callVi (z := mX12_drawn) (c := 88) (As := [vI (xs (i + 1).toNat).toInt, vI (xs (i + 2).toNat).toInt, vI (xs (i + 3).toNat).toInt, vI (xs (i + 4).toNat).toInt]) (rest := [vI r]) dL_908 wL_89 rL_89 rfl ⟨_, rfl, rfl⟩ rfl rfl (Nat.le_of_ble_eq_true rfl) (gEi_mono (h hr) (fun r' υ h' hr' => ?_))
  exact l_icmp_eq (tgt := 985) dL_911 (by decide) hr hr' (fun _ => K υ (h' hr').2) (fun n => absurd (h' hr').1 n)
theorem l_count (hL : L ≤ 3072) (i : Int) (hi : 0 ≤ i ∧ i + 5 < L) (σ : gS) (hI : tInv σ) (K : ∀ υ, tInv υ → lAt l G b L xs 985 [(3, vI i), (2, .ref (G.2.1 88)), (1, .ref (G.2.1 0)), (0, .ref b)] [] υ) : lAt l G b L xs 916 [(3, vI i), (2, .ref (G.2.1 88)), (1, .ref (G.2.1 0)), (0, .ref b)] [] σ := by
  refine l_aload_n 2 dL_916 rfl rfl ?_
  refine l_aload_n 3 dL_917 rfl rfl ?_
  refine l_iload_n 0 dL_918 rfl rfl ?_
  refine l_iconst dL_919 ?_
  refine l_iadd dL_920 ?_
  refine l_sld hL dL_921 ⟨by omega, by omega⟩ ?_
  refine l_callVi (z := mX11_count) (c := 0) (As := [vI (xs (i + 1).toNat).toInt]) (rest := []) dL_922 wL_90 rL_90 rfl ⟨_, rfl, rfl⟩ rfl rfl (Nat.le_of_ble_eq_true rfl) (gEi_mono (p_count (xs (i + 1).toNat).toInt (gR_toInt _) σ hI) (fun r τ h hr => ?_))
  refine l_aload_n 1 dL_925 rfl rfl ?_
  refine l_aload_n 3 dL_926 rfl rfl ?_
  refine l_iload_n 0 dL_927 rfl rfl ?_
  refine l_iconst dL_928 ?_
  refine l_iadd dL_929 ?_
  refine l_sld hL dL_930 ⟨by omega, by omega⟩ ?_
  refine l_callVi (z := mX12_count) (c := 88) (As := [vI (xs (i + 1).toNat).toInt]) (rest := [vI r]) dL_931 wL_93 rL_93 rfl ⟨_, rfl, rfl⟩ rfl rfl (Nat.le_of_ble_eq_true rfl) (gEi_mono (h hr) (fun r' υ h' hr' => ?_))
  exact l_icmp_eq (tgt := 985) dL_934 (by decide) hr hr' (fun _ => K υ (h' hr').2) (fun n => absurd (h' hr').1 n)
theorem l_image (hL : L ≤ 3072) (i : Int) (hi : 0 ≤ i ∧ i + 5 < L) (σ : gS) (hI : tInv σ) (K : ∀ υ, tInv υ → lAt l G b L xs 985 [(3, vI i), (2, .ref (G.2.1 88)), (1, .ref (G.2.1 0)), (0, .ref b)] [] υ) : lAt l G b L xs 939 [(3, vI i), (2, .ref (G.2.1 88)), (1, .ref (G.2.1 0)), (0, .ref b)] [] σ := by
  refine l_aload_n 2 dL_939 rfl rfl ?_
  refine l_aload_n 3 dL_940 rfl rfl ?_
  refine l_iload_n 0 dL_941 rfl rfl ?_
  refine l_iconst dL_942 ?_
  refine l_iadd dL_943 ?_
  refine l_sld hL dL_944 ⟨by omega, by omega⟩ ?_
  refine l_callVz (z := mX11_image) (c := 0) (As := [vI (xs (i + 1).toNat).toInt]) (rest := []) dL_945 wL_94 rL_94 rfl ⟨_, rfl, rfl⟩ rfl rfl (Nat.le_of_ble_eq_true rfl) (gEz_mono (p_image (xs (i + 1).toNat).toInt (gR_toInt _) σ hI) (fun r τ h hr => ?_))
  refine l_aload_n 1 dL_948 rfl rfl ?_
  refine l_aload_n 3 dL_949 rfl rfl ?_
  refine l_iload_n 0 dL_950 rfl rfl ?_
  refine l_iconst dL_951 ?_
  refine l_iadd dL_952 ?_
  refine l_sld hL dL_953 ⟨by omega, by omega⟩ ?_
  refine l_callVz (z := mX12_image) (c := 88) (As := [vI (xs (i + 1).toNat).toInt]) (rest := [vI r]) dL_954 wL_98 rL_98 rfl ⟨_, rfl, rfl⟩ rfl rfl (Nat.le_of_ble_eq_true rfl) (gEz_mono (h hr) (fun r' υ h' hr' => ?_))
  exact l_icmp_eq (tgt := 985) dL_957 (by decide) (gR_01 hr) (gR_01 hr') (fun _ => K υ (h' hr').2) (fun n => absurd (h' hr').1 n)
theorem l_again (hL : L ≤ 3072) (i : Int) (hi : 0 ≤ i ∧ i + 5 < L) (σ : gS) (hI : tInv σ) (K : ∀ υ, tInv υ → lAt l G b L xs 985 [(3, vI i), (2, .ref (G.2.1 88)), (1, .ref (G.2.1 0)), (0, .ref b)] [] υ) : lAt l G b L xs 962 [(3, vI i), (2, .ref (G.2.1 88)), (1, .ref (G.2.1 0)), (0, .ref b)] [] σ := by
  refine l_aload_n 2 dL_962 rfl rfl ?_
  refine l_aload_n 3 dL_963 rfl rfl ?_
  refine l_iload_n 0 dL_964 rfl rfl ?_
  refine l_iconst dL_965 ?_
  refine l_iadd dL_966 ?_
  refine l_sld hL dL_967 ⟨by omega, by omega⟩ ?_
  refine l_callVz (z := mX11_again) (c := 0) (As := [vI (xs (i + 1).toNat).toInt]) (rest := []) dL_968 wL_99 rL_99 rfl ⟨_, rfl, rfl⟩ rfl rfl (Nat.le_of_ble_eq_true rfl) (gEz_mono (p_again (xs (i + 1).toNat).toInt (gR_toInt _) σ hI) (fun r τ h hr => ?_))
  refine l_aload_n 1 dL_971 rfl rfl ?_
  refine l_aload_n 3 dL_972 rfl rfl ?_
  refine l_iload_n 0 dL_973 rfl rfl ?_
  refine l_iconst dL_974 ?_
  refine l_iadd dL_975 ?_
  refine l_sld hL dL_976 ⟨by omega, by omega⟩ ?_
  refine l_callVz (z := mX12_again) (c := 88) (As := [vI (xs (i + 1).toNat).toInt]) (rest := [vI r]) dL_977 wL_102 rL_102 rfl ⟨_, rfl, rfl⟩ rfl rfl (Nat.le_of_ble_eq_true rfl) (gEz_mono (h hr) (fun r' υ h' hr' => ?_))
  exact l_icmp_eq (tgt := 985) dL_980 (by decide) (gR_01 hr) (gR_01 hr') (fun _ => K υ (h' hr').2) (fun n => absurd (h' hr').1 n)
end LC

set_option maxRecDepth 100000 in
set_option maxHeartbeats 4000000 in
theorem E_L_law_L18 {G : oG} {r : Option Value} {m' : oM} : ∀ (n : Nat) (x3 : Int32) (m : oM) (b : (oM) ⊕ (Int32 × oM)), oLoop (fun s : Int32 × oM => F_L_law_L18 (oXL G) (oXs G) s.1 s.2) n (x3, m) = some b → Sum.elim (fun yy => oRun G M_L_law 1657 [] [] yy r m') (fun zz => r = (some (.int zz.1)) ∧ m' = zz.2) b → oRun G M_L_law 18 [(0, .ref 64), (1, .ref 0), (2, .ref 51), (3, .int x3)] [] m r m' := by
  intro n
  induction n with
  | zero => intro x3 m b h _; exact (oLoop_zero h).elim
  | succ n ih =>
    intro x3 m b h he
    obtain ⟨q', hq', h⟩ := oLoop_succ h
    have hc : ∀ s' : Int32 × oM, q' = .inl s' → oRun G M_L_law 18 [(0, .ref 64), (1, .ref 0), (2, .ref 51), (3, .int s'.1)] [] s'.2 r m' := by
      rintro s' rfl
      exact ih (s'.1) (s'.2) b h he
    have hx : ∀ b' : (oM) ⊕ (Int32 × oM), q' = .inr b' → Sum.elim (fun yy => oRun G M_L_law 1657 [] [] yy r m') (fun zz => r = (some (.int zz.1)) ∧ m' = zz.2) b' := by
      rintro b' rfl
      have h : b' = b := h
      rw [h]
      exact he
    clear h he ih
    have h := hq'
    clear hq'
    replace h : F_L_law_L18 (oXL G) (oXs G) x3 m = some q' := h
    unfold F_L_law_L18 at h
    refine oRun.iload_n 19 dL_law_18 3 rfl rfl rfl ?_
    refine oRun.aload_n 20 dL_law_19 0 rfl rfl (Nat.le_of_ble_eq_true rfl) rfl ?_
    refine oRun.slen 21 dL_law_20 rfl ?_
    refine oRun.bipush 23 dL_law_21 oc_b6 rfl ?_
    refine oRun.isub 24 dL_law_23 rfl ?_
    by_cases c24 : ((Int32.ofNat (oXL G)) - 6) < x3
    · replace h := oIp c24 h
      refine oRun.icmp_gt_t 1657 dL_law_24 c24 rfl ?_
      cases h
      refine oRun.sub [] rfl ?_
      exact hx _ rfl
    · replace h := oIn c24 h
      refine oRun.icmp_gt_f 27 dL_law_24 rfl c24 rfl ?_
      refine oRun.aload_n 28 dL_law_27 0 rfl rfl (Nat.le_of_ble_eq_true rfl) rfl ?_
      refine oRun.iload_n 29 dL_law_28 3 rfl rfl rfl ?_
      obtain ⟨v29, hv29, h⟩ := oB1 h
      obtain ⟨hz29, hv29⟩ := oXA_ok hv29
      refine oRun.sload 30 dL_law_29 hz29 rfl ?_
      refine oRun.nameI hv29 ?_
      refine oRun.bipush 32 dL_law_30 oc_b63 rfl ?_
      refine oRun.iand 33 dL_law_32 rfl ?_
      obtain ⟨v33, hv33, h⟩ := oB1 h
      refine oRun.nameI hv33 ?_
      by_cases c33_0 : v33 = 0
      · replace h := oIp c33_0 h
        refine oRun.tsin 220 dL_law_33 (q := 0) (by rw [c33_0]; rfl) (by decide) (by decide) rfl rfl ?_
        refine oRun.aload_n 221 dL_law_220 1 rfl rfl (Nat.le_of_ble_eq_true rfl) rfl ?_
        refine oRun.aload_n 222 dL_law_221 0 rfl rfl (Nat.le_of_ble_eq_true rfl) rfl ?_
        refine oRun.iload_n 223 dL_law_222 3 rfl rfl rfl ?_
        refine oRun.iconst 224 dL_law_223 oc_i1 rfl ?_
        refine oRun.iadd 225 dL_law_224 rfl ?_
        obtain ⟨v225, hv225, h⟩ := oB1 h
        obtain ⟨hz225, hv225⟩ := oXA_ok hv225
        refine oRun.sload 226 dL_law_225 hz225 rfl ?_
        refine oRun.nameI hv225 ?_
        refine oRun.aload_n 227 dL_law_226 0 rfl rfl (Nat.le_of_ble_eq_true rfl) rfl ?_
        refine oRun.iload_n 228 dL_law_227 3 rfl rfl rfl ?_
        refine oRun.iconst 229 dL_law_228 oc_i2 rfl ?_
        refine oRun.iadd 230 dL_law_229 rfl ?_
        obtain ⟨v230, hv230, h⟩ := oB1 h
        obtain ⟨hz230, hv230⟩ := oXA_ok hv230
        refine oRun.sload 231 dL_law_230 hz230 rfl ?_
        refine oRun.nameI hv230 ?_
        obtain ⟨r231, hr231, h⟩ := oB1 h
        refine oRun.callV (as := [.int v225, .int v230]) 234 dL_law_231 lk_RL_13 (oFit_i (Nat.le_of_ble_eq_true rfl) (Nat.le_of_ble_eq_true rfl)) rfl rfl rfl rfl (Nat.le_of_ble_eq_true rfl) (Nat.le_of_ble_eq_true rfl) rfl (E_X8_body hr231) rfl ?_
        show oRun G _ 234 _ [.int r231.1] _ _ _
        refine oRun.aload_n 235 dL_law_234 2 rfl rfl (Nat.le_of_ble_eq_true rfl) rfl ?_
        refine oRun.aload_n 236 dL_law_235 0 rfl rfl (Nat.le_of_ble_eq_true rfl) rfl ?_
        refine oRun.iload_n 237 dL_law_236 3 rfl rfl rfl ?_
        refine oRun.iconst 238 dL_law_237 oc_i1 rfl ?_
        refine oRun.iadd 239 dL_law_238 rfl ?_
        obtain ⟨v239, hv239, h⟩ := oB1 h
        obtain ⟨hz239, hv239⟩ := oXA_ok hv239
        refine oRun.sload 240 dL_law_239 hz239 rfl ?_
        refine oRun.nameI hv239 ?_
        refine oRun.aload_n 241 dL_law_240 0 rfl rfl (Nat.le_of_ble_eq_true rfl) rfl ?_
        refine oRun.iload_n 242 dL_law_241 3 rfl rfl rfl ?_
        refine oRun.iconst 243 dL_law_242 oc_i2 rfl ?_
        refine oRun.iadd 244 dL_law_243 rfl ?_
        obtain ⟨v244, hv244, h⟩ := oB1 h
        obtain ⟨hz244, hv244⟩ := oXA_ok hv244
        refine oRun.sload 245 dL_law_244 hz244 rfl ?_
        refine oRun.nameI hv244 ?_
        obtain ⟨r245, hr245, h⟩ := oB1 h
        refine oRun.callV (as := [.int v239, .int v244]) 248 dL_law_245 lk_RL_17 (oFit_i (Nat.le_of_ble_eq_true rfl) (Nat.le_of_ble_eq_true rfl)) rfl rfl rfl rfl (Nat.le_of_ble_eq_true rfl) (Nat.le_of_ble_eq_true rfl) rfl (E_X9_body hr245) rfl ?_
        show oRun G _ 248 _ [.int r245.1, .int r231.1] _ _ _
        by_cases c248 : r231.1 = r245.1
        · replace h := oIp c248 h
          refine oRun.icmp_eq_t 1651 dL_law_248 c248 rfl ?_
          refine oRun.iinc 1654 dL_law_1651 3 rfl (oAddC oc_i6) (Nat.le_of_ble_eq_true rfl) rfl rfl ?_
          refine oRun.goto 18 dL_law_1654 rfl ?_
          cases h
          refine oRun.sub [1, 2, 3, 0] rfl ?_
          exact hc _ rfl
        · replace h := oIn c248 h
          refine oRun.icmp_eq_f 251 dL_law_248 rfl c248 rfl ?_
          refine oRun.iconst 252 dL_law_251 oc_i0 rfl ?_
          cases h
          obtain ⟨hr1, hr2⟩ := hx _ rfl
          rw [hr1, hr2]
          exact oRun.ret (r := some (.int 0)) dL_law_252
      · replace h := oIn c33_0 h
        by_cases c33_1 : v33 = 1
        · replace h := oIp c33_1 h
          refine oRun.tsin 253 dL_law_33 (q := 1) (by rw [c33_1]; rfl) (by decide) (by decide) rfl rfl ?_
          refine oRun.aload_n 254 dL_law_253 1 rfl rfl (Nat.le_of_ble_eq_true rfl) rfl ?_
          refine oRun.aload_n 255 dL_law_254 0 rfl rfl (Nat.le_of_ble_eq_true rfl) rfl ?_
          refine oRun.iload_n 256 dL_law_255 3 rfl rfl rfl ?_
          refine oRun.iconst 257 dL_law_256 oc_i1 rfl ?_
          refine oRun.iadd 258 dL_law_257 rfl ?_
          obtain ⟨v258, hv258, h⟩ := oB1 h
          obtain ⟨hz258, hv258⟩ := oXA_ok hv258
          refine oRun.sload 259 dL_law_258 hz258 rfl ?_
          refine oRun.nameI hv258 ?_
          refine oRun.aload_n 260 dL_law_259 0 rfl rfl (Nat.le_of_ble_eq_true rfl) rfl ?_
          refine oRun.iload_n 261 dL_law_260 3 rfl rfl rfl ?_
          refine oRun.iconst 262 dL_law_261 oc_i2 rfl ?_
          refine oRun.iadd 263 dL_law_262 rfl ?_
          obtain ⟨v263, hv263, h⟩ := oB1 h
          obtain ⟨hz263, hv263⟩ := oXA_ok hv263
          refine oRun.sload 264 dL_law_263 hz263 rfl ?_
          refine oRun.nameI hv263 ?_
          refine oRun.aload_n 265 dL_law_264 0 rfl rfl (Nat.le_of_ble_eq_true rfl) rfl ?_
          refine oRun.iload_n 266 dL_law_265 3 rfl rfl rfl ?_
          refine oRun.iconst 267 dL_law_266 oc_i3 rfl ?_
          refine oRun.iadd 268 dL_law_267 rfl ?_
          obtain ⟨v268, hv268, h⟩ := oB1 h
          obtain ⟨hz268, hv268⟩ := oXA_ok hv268
          refine oRun.sload 269 dL_law_268 hz268 rfl ?_
          refine oRun.nameI hv268 ?_
          obtain ⟨r269, hr269, h⟩ := oB1 h
          refine oRun.callV (as := [.int v258, .int v263, .int v268]) 272 dL_law_269 lk_RL_18 (oFit_i (Nat.le_of_ble_eq_true rfl) (Nat.le_of_ble_eq_true rfl)) rfl rfl rfl rfl (Nat.le_of_ble_eq_true rfl) (Nat.le_of_ble_eq_true rfl) rfl (E_X8_ratio hr269) rfl ?_
          show oRun G _ 272 _ [.int r269.1] _ _ _
          refine oRun.aload_n 273 dL_law_272 2 rfl rfl (Nat.le_of_ble_eq_true rfl) rfl ?_
          refine oRun.aload_n 274 dL_law_273 0 rfl rfl (Nat.le_of_ble_eq_true rfl) rfl ?_
          refine oRun.iload_n 275 dL_law_274 3 rfl rfl rfl ?_
          refine oRun.iconst 276 dL_law_275 oc_i1 rfl ?_
          refine oRun.iadd 277 dL_law_276 rfl ?_
          obtain ⟨v277, hv277, h⟩ := oB1 h
          obtain ⟨hz277, hv277⟩ := oXA_ok hv277
          refine oRun.sload 278 dL_law_277 hz277 rfl ?_
          refine oRun.nameI hv277 ?_
          refine oRun.aload_n 279 dL_law_278 0 rfl rfl (Nat.le_of_ble_eq_true rfl) rfl ?_
          refine oRun.iload_n 280 dL_law_279 3 rfl rfl rfl ?_
          refine oRun.iconst 281 dL_law_280 oc_i2 rfl ?_
          refine oRun.iadd 282 dL_law_281 rfl ?_
          obtain ⟨v282, hv282, h⟩ := oB1 h
          obtain ⟨hz282, hv282⟩ := oXA_ok hv282
          refine oRun.sload 283 dL_law_282 hz282 rfl ?_
          refine oRun.nameI hv282 ?_
          refine oRun.aload_n 284 dL_law_283 0 rfl rfl (Nat.le_of_ble_eq_true rfl) rfl ?_
          refine oRun.iload_n 285 dL_law_284 3 rfl rfl rfl ?_
          refine oRun.iconst 286 dL_law_285 oc_i3 rfl ?_
          refine oRun.iadd 287 dL_law_286 rfl ?_
          obtain ⟨v287, hv287, h⟩ := oB1 h
          obtain ⟨hz287, hv287⟩ := oXA_ok hv287
          refine oRun.sload 288 dL_law_287 hz287 rfl ?_
          refine oRun.nameI hv287 ?_
          obtain ⟨r288, hr288, h⟩ := oB1 h
          refine oRun.callV (as := [.int v277, .int v282, .int v287]) 291 dL_law_288 lk_RL_22 (oFit_i (Nat.le_of_ble_eq_true rfl) (Nat.le_of_ble_eq_true rfl)) rfl rfl rfl rfl (Nat.le_of_ble_eq_true rfl) (Nat.le_of_ble_eq_true rfl) rfl (E_X9_ratio hr288) rfl ?_
          show oRun G _ 291 _ [.int r288.1, .int r269.1] _ _ _
          by_cases c291 : r269.1 = r288.1
          · replace h := oIp c291 h
            refine oRun.icmp_eq_t 1651 dL_law_291 c291 rfl ?_
            refine oRun.iinc 1654 dL_law_1651 3 rfl (oAddC oc_i6) (Nat.le_of_ble_eq_true rfl) rfl rfl ?_
            refine oRun.goto 18 dL_law_1654 rfl ?_
            cases h
            refine oRun.sub [1, 2, 3, 0] rfl ?_
            exact hc _ rfl
          · replace h := oIn c291 h
            refine oRun.icmp_eq_f 294 dL_law_291 rfl c291 rfl ?_
            refine oRun.iconst 295 dL_law_294 oc_i0 rfl ?_
            cases h
            obtain ⟨hr1, hr2⟩ := hx _ rfl
            rw [hr1, hr2]
            exact oRun.ret (r := some (.int 0)) dL_law_295
        · replace h := oIn c33_1 h
          by_cases c33_2 : v33 = 2
          · replace h := oIp c33_2 h
            refine oRun.tsin 296 dL_law_33 (q := 2) (by rw [c33_2]; rfl) (by decide) (by decide) rfl rfl ?_
            refine oRun.aload_n 297 dL_law_296 1 rfl rfl (Nat.le_of_ble_eq_true rfl) rfl ?_
            refine oRun.aload_n 298 dL_law_297 0 rfl rfl (Nat.le_of_ble_eq_true rfl) rfl ?_
            refine oRun.iload_n 299 dL_law_298 3 rfl rfl rfl ?_
            refine oRun.iconst 300 dL_law_299 oc_i1 rfl ?_
            refine oRun.iadd 301 dL_law_300 rfl ?_
            obtain ⟨v301, hv301, h⟩ := oB1 h
            obtain ⟨hz301, hv301⟩ := oXA_ok hv301
            refine oRun.sload 302 dL_law_301 hz301 rfl ?_
            refine oRun.nameI hv301 ?_
            refine oRun.aload_n 303 dL_law_302 0 rfl rfl (Nat.le_of_ble_eq_true rfl) rfl ?_
            refine oRun.iload_n 304 dL_law_303 3 rfl rfl rfl ?_
            refine oRun.iconst 305 dL_law_304 oc_i2 rfl ?_
            refine oRun.iadd 306 dL_law_305 rfl ?_
            obtain ⟨v306, hv306, h⟩ := oB1 h
            obtain ⟨hz306, hv306⟩ := oXA_ok hv306
            refine oRun.sload 307 dL_law_306 hz306 rfl ?_
            refine oRun.nameI hv306 ?_
            obtain ⟨r307, hr307, h⟩ := oB1 h
            refine oRun.callV (as := [.int v301, .int v306]) 310 dL_law_307 lk_RL_23 (oFit_i (Nat.le_of_ble_eq_true rfl) (Nat.le_of_ble_eq_true rfl)) rfl rfl rfl rfl (Nat.le_of_ble_eq_true rfl) (Nat.le_of_ble_eq_true rfl) rfl (E_X8_term hr307) rfl ?_
            show oRun G _ 310 _ [.int r307] _ _ _
            refine oRun.aload_n 311 dL_law_310 2 rfl rfl (Nat.le_of_ble_eq_true rfl) rfl ?_
            refine oRun.aload_n 312 dL_law_311 0 rfl rfl (Nat.le_of_ble_eq_true rfl) rfl ?_
            refine oRun.iload_n 313 dL_law_312 3 rfl rfl rfl ?_
            refine oRun.iconst 314 dL_law_313 oc_i1 rfl ?_
            refine oRun.iadd 315 dL_law_314 rfl ?_
            obtain ⟨v315, hv315, h⟩ := oB1 h
            obtain ⟨hz315, hv315⟩ := oXA_ok hv315
            refine oRun.sload 316 dL_law_315 hz315 rfl ?_
            refine oRun.nameI hv315 ?_
            refine oRun.aload_n 317 dL_law_316 0 rfl rfl (Nat.le_of_ble_eq_true rfl) rfl ?_
            refine oRun.iload_n 318 dL_law_317 3 rfl rfl rfl ?_
            refine oRun.iconst 319 dL_law_318 oc_i2 rfl ?_
            refine oRun.iadd 320 dL_law_319 rfl ?_
            obtain ⟨v320, hv320, h⟩ := oB1 h
            obtain ⟨hz320, hv320⟩ := oXA_ok hv320
            refine oRun.sload 321 dL_law_320 hz320 rfl ?_
            refine oRun.nameI hv320 ?_
            obtain ⟨r321, hr321, h⟩ := oB1 h
            refine oRun.callV (as := [.int v315, .int v320]) 324 dL_law_321 lk_RL_26 (oFit_i (Nat.le_of_ble_eq_true rfl) (Nat.le_of_ble_eq_true rfl)) rfl rfl rfl rfl (Nat.le_of_ble_eq_true rfl) (Nat.le_of_ble_eq_true rfl) rfl (E_X9_term hr321) rfl ?_
            show oRun G _ 324 _ [.int r321.1, .int r307] _ _ _
            by_cases c324 : r307 = r321.1
            · replace h := oIp c324 h
              refine oRun.icmp_eq_t 1651 dL_law_324 c324 rfl ?_
              refine oRun.iinc 1654 dL_law_1651 3 rfl (oAddC oc_i6) (Nat.le_of_ble_eq_true rfl) rfl rfl ?_
              refine oRun.goto 18 dL_law_1654 rfl ?_
              cases h
              refine oRun.sub [1, 2, 3, 0] rfl ?_
              exact hc _ rfl
            · replace h := oIn c324 h
              refine oRun.icmp_eq_f 327 dL_law_324 rfl c324 rfl ?_
              refine oRun.iconst 328 dL_law_327 oc_i0 rfl ?_
              cases h
              obtain ⟨hr1, hr2⟩ := hx _ rfl
              rw [hr1, hr2]
              exact oRun.ret (r := some (.int 0)) dL_law_328
          · replace h := oIn c33_2 h
            by_cases c33_3 : v33 = 3
            · replace h := oIp c33_3 h
              refine oRun.tsin 329 dL_law_33 (q := 3) (by rw [c33_3]; rfl) (by decide) (by decide) rfl rfl ?_
              refine oRun.aload_n 330 dL_law_329 1 rfl rfl (Nat.le_of_ble_eq_true rfl) rfl ?_
              refine oRun.aload_n 331 dL_law_330 0 rfl rfl (Nat.le_of_ble_eq_true rfl) rfl ?_
              refine oRun.iload_n 332 dL_law_331 3 rfl rfl rfl ?_
              refine oRun.iconst 333 dL_law_332 oc_i1 rfl ?_
              refine oRun.iadd 334 dL_law_333 rfl ?_
              obtain ⟨v334, hv334, h⟩ := oB1 h
              obtain ⟨hz334, hv334⟩ := oXA_ok hv334
              refine oRun.sload 335 dL_law_334 hz334 rfl ?_
              refine oRun.nameI hv334 ?_
              refine oRun.aload_n 336 dL_law_335 0 rfl rfl (Nat.le_of_ble_eq_true rfl) rfl ?_
              refine oRun.iload_n 337 dL_law_336 3 rfl rfl rfl ?_
              refine oRun.iconst 338 dL_law_337 oc_i2 rfl ?_
              refine oRun.iadd 339 dL_law_338 rfl ?_
              obtain ⟨v339, hv339, h⟩ := oB1 h
              obtain ⟨hz339, hv339⟩ := oXA_ok hv339
              refine oRun.sload 340 dL_law_339 hz339 rfl ?_
              refine oRun.nameI hv339 ?_
              refine oRun.aload_n 341 dL_law_340 0 rfl rfl (Nat.le_of_ble_eq_true rfl) rfl ?_
              refine oRun.iload_n 342 dL_law_341 3 rfl rfl rfl ?_
              refine oRun.iconst 343 dL_law_342 oc_i3 rfl ?_
              refine oRun.iadd 344 dL_law_343 rfl ?_
              obtain ⟨v344, hv344, h⟩ := oB1 h
              obtain ⟨hz344, hv344⟩ := oXA_ok hv344
              refine oRun.sload 345 dL_law_344 hz344 rfl ?_
              refine oRun.nameI hv344 ?_
              obtain ⟨r345, hr345, h⟩ := oB1 h
              refine oRun.callV (as := [.int v334, .int v339, .int v344]) 348 dL_law_345 lk_RL_27 (oFit_i (Nat.le_of_ble_eq_true rfl) (Nat.le_of_ble_eq_true rfl)) rfl rfl rfl rfl (Nat.le_of_ble_eq_true rfl) (Nat.le_of_ble_eq_true rfl) rfl (E_X8_convergent hr345) rfl ?_
              show oRun G _ 348 _ [.long r345] _ _ _
              refine oRun.aload_n 349 dL_law_348 2 rfl rfl (Nat.le_of_ble_eq_true rfl) rfl ?_
              refine oRun.aload_n 350 dL_law_349 0 rfl rfl (Nat.le_of_ble_eq_true rfl) rfl ?_
              refine oRun.iload_n 351 dL_law_350 3 rfl rfl rfl ?_
              refine oRun.iconst 352 dL_law_351 oc_i1 rfl ?_
              refine oRun.iadd 353 dL_law_352 rfl ?_
              obtain ⟨v353, hv353, h⟩ := oB1 h
              obtain ⟨hz353, hv353⟩ := oXA_ok hv353
              refine oRun.sload 354 dL_law_353 hz353 rfl ?_
              refine oRun.nameI hv353 ?_
              refine oRun.aload_n 355 dL_law_354 0 rfl rfl (Nat.le_of_ble_eq_true rfl) rfl ?_
              refine oRun.iload_n 356 dL_law_355 3 rfl rfl rfl ?_
              refine oRun.iconst 357 dL_law_356 oc_i2 rfl ?_
              refine oRun.iadd 358 dL_law_357 rfl ?_
              obtain ⟨v358, hv358, h⟩ := oB1 h
              obtain ⟨hz358, hv358⟩ := oXA_ok hv358
              refine oRun.sload 359 dL_law_358 hz358 rfl ?_
              refine oRun.nameI hv358 ?_
              refine oRun.aload_n 360 dL_law_359 0 rfl rfl (Nat.le_of_ble_eq_true rfl) rfl ?_
              refine oRun.iload_n 361 dL_law_360 3 rfl rfl rfl ?_
              refine oRun.iconst 362 dL_law_361 oc_i3 rfl ?_
              refine oRun.iadd 363 dL_law_362 rfl ?_
              obtain ⟨v363, hv363, h⟩ := oB1 h
              obtain ⟨hz363, hv363⟩ := oXA_ok hv363
              refine oRun.sload 364 dL_law_363 hz363 rfl ?_
              refine oRun.nameI hv363 ?_
              obtain ⟨r364, hr364, h⟩ := oB1 h
              refine oRun.callV (as := [.int v353, .int v358, .int v363]) 367 dL_law_364 lk_RL_31 (oFit_i (Nat.le_of_ble_eq_true rfl) (Nat.le_of_ble_eq_true rfl)) rfl rfl rfl rfl (Nat.le_of_ble_eq_true rfl) (Nat.le_of_ble_eq_true rfl) rfl (E_X9_convergent hr364) rfl ?_
              show oRun G _ 367 _ [.long r364.1, .long r345] _ _ _
              refine oRun.lcmp 368 dL_law_367 rfl ?_
              by_cases c368 : r345 = r364.1
              · replace h := oIp c368 h
                refine oRun.if_eq_t 1651 dL_law_368 ((oLc_eq _ _).mpr c368) rfl ?_
                refine oRun.iinc 1654 dL_law_1651 3 rfl (oAddC oc_i6) (Nat.le_of_ble_eq_true rfl) rfl rfl ?_
                refine oRun.goto 18 dL_law_1654 rfl ?_
                cases h
                refine oRun.sub [1, 2, 3, 0] rfl ?_
                exact hc _ rfl
              · replace h := oIn c368 h
                refine oRun.if_eq_f 371 dL_law_368 rfl (mt (oLc_eq _ _).mp c368) rfl ?_
                refine oRun.iconst 372 dL_law_371 oc_i0 rfl ?_
                cases h
                obtain ⟨hr1, hr2⟩ := hx _ rfl
                rw [hr1, hr2]
                exact oRun.ret (r := some (.int 0)) dL_law_372
            · replace h := oIn c33_3 h
              by_cases c33_4 : v33 = 4
              · replace h := oIp c33_4 h
                refine oRun.tsin 373 dL_law_33 (q := 4) (by rw [c33_4]; rfl) (by decide) (by decide) rfl rfl ?_
                refine oRun.aload_n 374 dL_law_373 1 rfl rfl (Nat.le_of_ble_eq_true rfl) rfl ?_
                refine oRun.aload_n 375 dL_law_374 0 rfl rfl (Nat.le_of_ble_eq_true rfl) rfl ?_
                refine oRun.iload_n 376 dL_law_375 3 rfl rfl rfl ?_
                refine oRun.iconst 377 dL_law_376 oc_i1 rfl ?_
                refine oRun.iadd 378 dL_law_377 rfl ?_
                obtain ⟨v378, hv378, h⟩ := oB1 h
                obtain ⟨hz378, hv378⟩ := oXA_ok hv378
                refine oRun.sload 379 dL_law_378 hz378 rfl ?_
                refine oRun.nameI hv378 ?_
                refine oRun.aload_n 380 dL_law_379 0 rfl rfl (Nat.le_of_ble_eq_true rfl) rfl ?_
                refine oRun.iload_n 381 dL_law_380 3 rfl rfl rfl ?_
                refine oRun.iconst 382 dL_law_381 oc_i2 rfl ?_
                refine oRun.iadd 383 dL_law_382 rfl ?_
                obtain ⟨v383, hv383, h⟩ := oB1 h
                obtain ⟨hz383, hv383⟩ := oXA_ok hv383
                refine oRun.sload 384 dL_law_383 hz383 rfl ?_
                refine oRun.nameI hv383 ?_
                refine oRun.aload_n 385 dL_law_384 0 rfl rfl (Nat.le_of_ble_eq_true rfl) rfl ?_
                refine oRun.iload_n 386 dL_law_385 3 rfl rfl rfl ?_
                refine oRun.iconst 387 dL_law_386 oc_i3 rfl ?_
                refine oRun.iadd 388 dL_law_387 rfl ?_
                obtain ⟨v388, hv388, h⟩ := oB1 h
                obtain ⟨hz388, hv388⟩ := oXA_ok hv388
                refine oRun.sload 389 dL_law_388 hz388 rfl ?_
                refine oRun.nameI hv388 ?_
                obtain ⟨r389, hr389, h⟩ := oB1 h
                refine oRun.callV (as := [.int v378, .int v383, .int v388]) 392 dL_law_389 lk_RL_32 (oFit_i (Nat.le_of_ble_eq_true rfl) (Nat.le_of_ble_eq_true rfl)) rfl rfl rfl rfl (Nat.le_of_ble_eq_true rfl) (Nat.le_of_ble_eq_true rfl) rfl (E_X8_near hr389) rfl ?_
                show oRun G _ 392 _ [.long r389] _ _ _
                refine oRun.aload_n 393 dL_law_392 2 rfl rfl (Nat.le_of_ble_eq_true rfl) rfl ?_
                refine oRun.aload_n 394 dL_law_393 0 rfl rfl (Nat.le_of_ble_eq_true rfl) rfl ?_
                refine oRun.iload_n 395 dL_law_394 3 rfl rfl rfl ?_
                refine oRun.iconst 396 dL_law_395 oc_i1 rfl ?_
                refine oRun.iadd 397 dL_law_396 rfl ?_
                obtain ⟨v397, hv397, h⟩ := oB1 h
                obtain ⟨hz397, hv397⟩ := oXA_ok hv397
                refine oRun.sload 398 dL_law_397 hz397 rfl ?_
                refine oRun.nameI hv397 ?_
                refine oRun.aload_n 399 dL_law_398 0 rfl rfl (Nat.le_of_ble_eq_true rfl) rfl ?_
                refine oRun.iload_n 400 dL_law_399 3 rfl rfl rfl ?_
                refine oRun.iconst 401 dL_law_400 oc_i2 rfl ?_
                refine oRun.iadd 402 dL_law_401 rfl ?_
                obtain ⟨v402, hv402, h⟩ := oB1 h
                obtain ⟨hz402, hv402⟩ := oXA_ok hv402
                refine oRun.sload 403 dL_law_402 hz402 rfl ?_
                refine oRun.nameI hv402 ?_
                refine oRun.aload_n 404 dL_law_403 0 rfl rfl (Nat.le_of_ble_eq_true rfl) rfl ?_
                refine oRun.iload_n 405 dL_law_404 3 rfl rfl rfl ?_
                refine oRun.iconst 406 dL_law_405 oc_i3 rfl ?_
                refine oRun.iadd 407 dL_law_406 rfl ?_
                obtain ⟨v407, hv407, h⟩ := oB1 h
                obtain ⟨hz407, hv407⟩ := oXA_ok hv407
                refine oRun.sload 408 dL_law_407 hz407 rfl ?_
                refine oRun.nameI hv407 ?_
                obtain ⟨r408, hr408, h⟩ := oB1 h
                refine oRun.callV (as := [.int v397, .int v402, .int v407]) 411 dL_law_408 lk_RL_35 (oFit_i (Nat.le_of_ble_eq_true rfl) (Nat.le_of_ble_eq_true rfl)) rfl rfl rfl rfl (Nat.le_of_ble_eq_true rfl) (Nat.le_of_ble_eq_true rfl) rfl (E_X9_near hr408) rfl ?_
                show oRun G _ 411 _ [.long r408, .long r389] _ _ _
                refine oRun.lcmp 412 dL_law_411 rfl ?_
                by_cases c412 : r389 = r408
                · replace h := oIp c412 h
                  refine oRun.if_eq_t 1651 dL_law_412 ((oLc_eq _ _).mpr c412) rfl ?_
                  refine oRun.iinc 1654 dL_law_1651 3 rfl (oAddC oc_i6) (Nat.le_of_ble_eq_true rfl) rfl rfl ?_
                  refine oRun.goto 18 dL_law_1654 rfl ?_
                  cases h
                  refine oRun.sub [1, 2, 3, 0] rfl ?_
                  exact hc _ rfl
                · replace h := oIn c412 h
                  refine oRun.if_eq_f 415 dL_law_412 rfl (mt (oLc_eq _ _).mp c412) rfl ?_
                  refine oRun.iconst 416 dL_law_415 oc_i0 rfl ?_
                  cases h
                  obtain ⟨hr1, hr2⟩ := hx _ rfl
                  rw [hr1, hr2]
                  exact oRun.ret (r := some (.int 0)) dL_law_416
              · replace h := oIn c33_4 h
                by_cases c33_5 : v33 = 5
                · replace h := oIp c33_5 h
                  refine oRun.tsin 417 dL_law_33 (q := 5) (by rw [c33_5]; rfl) (by decide) (by decide) rfl rfl ?_
                  refine oRun.aload_n 418 dL_law_417 1 rfl rfl (Nat.le_of_ble_eq_true rfl) rfl ?_
                  refine oRun.aload_n 419 dL_law_418 0 rfl rfl (Nat.le_of_ble_eq_true rfl) rfl ?_
                  refine oRun.iload_n 420 dL_law_419 3 rfl rfl rfl ?_
                  refine oRun.iconst 421 dL_law_420 oc_i1 rfl ?_
                  refine oRun.iadd 422 dL_law_421 rfl ?_
                  obtain ⟨v422, hv422, h⟩ := oB1 h
                  obtain ⟨hz422, hv422⟩ := oXA_ok hv422
                  refine oRun.sload 423 dL_law_422 hz422 rfl ?_
                  refine oRun.nameI hv422 ?_
                  refine oRun.aload_n 424 dL_law_423 0 rfl rfl (Nat.le_of_ble_eq_true rfl) rfl ?_
                  refine oRun.iload_n 425 dL_law_424 3 rfl rfl rfl ?_
                  refine oRun.iconst 426 dL_law_425 oc_i2 rfl ?_
                  refine oRun.iadd 427 dL_law_426 rfl ?_
                  obtain ⟨v427, hv427, h⟩ := oB1 h
                  obtain ⟨hz427, hv427⟩ := oXA_ok hv427
                  refine oRun.sload 428 dL_law_427 hz427 rfl ?_
                  refine oRun.nameI hv427 ?_
                  obtain ⟨r428, hr428, h⟩ := oB1 h
                  refine oRun.callV (as := [.int v422, .int v427]) 431 dL_law_428 lk_RL_36 (oFit_i (Nat.le_of_ble_eq_true rfl) (Nat.le_of_ble_eq_true rfl)) rfl rfl rfl rfl (Nat.le_of_ble_eq_true rfl) (Nat.le_of_ble_eq_true rfl) rfl (E_X8_bounds hr428) rfl ?_
                  show oRun G _ 431 _ [.int r428.1] _ _ _
                  refine oRun.aload_n 432 dL_law_431 2 rfl rfl (Nat.le_of_ble_eq_true rfl) rfl ?_
                  refine oRun.aload_n 433 dL_law_432 0 rfl rfl (Nat.le_of_ble_eq_true rfl) rfl ?_
                  refine oRun.iload_n 434 dL_law_433 3 rfl rfl rfl ?_
                  refine oRun.iconst 435 dL_law_434 oc_i1 rfl ?_
                  refine oRun.iadd 436 dL_law_435 rfl ?_
                  obtain ⟨v436, hv436, h⟩ := oB1 h
                  obtain ⟨hz436, hv436⟩ := oXA_ok hv436
                  refine oRun.sload 437 dL_law_436 hz436 rfl ?_
                  refine oRun.nameI hv436 ?_
                  refine oRun.aload_n 438 dL_law_437 0 rfl rfl (Nat.le_of_ble_eq_true rfl) rfl ?_
                  refine oRun.iload_n 439 dL_law_438 3 rfl rfl rfl ?_
                  refine oRun.iconst 440 dL_law_439 oc_i2 rfl ?_
                  refine oRun.iadd 441 dL_law_440 rfl ?_
                  obtain ⟨v441, hv441, h⟩ := oB1 h
                  obtain ⟨hz441, hv441⟩ := oXA_ok hv441
                  refine oRun.sload 442 dL_law_441 hz441 rfl ?_
                  refine oRun.nameI hv441 ?_
                  obtain ⟨r442, hr442, h⟩ := oB1 h
                  refine oRun.callV (as := [.int v436, .int v441]) 445 dL_law_442 lk_RL_39 (oFit_i (Nat.le_of_ble_eq_true rfl) (Nat.le_of_ble_eq_true rfl)) rfl rfl rfl rfl (Nat.le_of_ble_eq_true rfl) (Nat.le_of_ble_eq_true rfl) rfl (E_X9_bounds hr442) rfl ?_
                  show oRun G _ 445 _ [.int r442.1, .int r428.1] _ _ _
                  by_cases c445 : r428.1 = r442.1
                  · replace h := oIp c445 h
                    refine oRun.icmp_eq_t 1651 dL_law_445 c445 rfl ?_
                    refine oRun.iinc 1654 dL_law_1651 3 rfl (oAddC oc_i6) (Nat.le_of_ble_eq_true rfl) rfl rfl ?_
                    refine oRun.goto 18 dL_law_1654 rfl ?_
                    cases h
                    refine oRun.sub [1, 2, 3, 0] rfl ?_
                    exact hc _ rfl
                  · replace h := oIn c445 h
                    refine oRun.icmp_eq_f 448 dL_law_445 rfl c445 rfl ?_
                    refine oRun.iconst 449 dL_law_448 oc_i0 rfl ?_
                    cases h
                    obtain ⟨hr1, hr2⟩ := hx _ rfl
                    rw [hr1, hr2]
                    exact oRun.ret (r := some (.int 0)) dL_law_449
                · replace h := oIn c33_5 h
                  by_cases c33_6 : v33 = 6
                  · replace h := oIp c33_6 h
                    refine oRun.tsin 450 dL_law_33 (q := 6) (by rw [c33_6]; rfl) (by decide) (by decide) rfl rfl ?_
                    refine oRun.aload_n 451 dL_law_450 1 rfl rfl (Nat.le_of_ble_eq_true rfl) rfl ?_
                    refine oRun.aload_n 452 dL_law_451 0 rfl rfl (Nat.le_of_ble_eq_true rfl) rfl ?_
                    refine oRun.iload_n 453 dL_law_452 3 rfl rfl rfl ?_
                    refine oRun.iconst 454 dL_law_453 oc_i1 rfl ?_
                    refine oRun.iadd 455 dL_law_454 rfl ?_
                    obtain ⟨v455, hv455, h⟩ := oB1 h
                    obtain ⟨hz455, hv455⟩ := oXA_ok hv455
                    refine oRun.sload 456 dL_law_455 hz455 rfl ?_
                    refine oRun.nameI hv455 ?_
                    refine oRun.aload_n 457 dL_law_456 0 rfl rfl (Nat.le_of_ble_eq_true rfl) rfl ?_
                    refine oRun.iload_n 458 dL_law_457 3 rfl rfl rfl ?_
                    refine oRun.iconst 459 dL_law_458 oc_i2 rfl ?_
                    refine oRun.iadd 460 dL_law_459 rfl ?_
                    obtain ⟨v460, hv460, h⟩ := oB1 h
                    obtain ⟨hz460, hv460⟩ := oXA_ok hv460
                    refine oRun.sload 461 dL_law_460 hz460 rfl ?_
                    refine oRun.nameI hv460 ?_
                    refine oRun.aload_n 462 dL_law_461 0 rfl rfl (Nat.le_of_ble_eq_true rfl) rfl ?_
                    refine oRun.iload_n 463 dL_law_462 3 rfl rfl rfl ?_
                    refine oRun.iconst 464 dL_law_463 oc_i3 rfl ?_
                    refine oRun.iadd 465 dL_law_464 rfl ?_
                    obtain ⟨v465, hv465, h⟩ := oB1 h
                    obtain ⟨hz465, hv465⟩ := oXA_ok hv465
                    refine oRun.sload 466 dL_law_465 hz465 rfl ?_
                    refine oRun.nameI hv465 ?_
                    obtain ⟨r466, hr466, h⟩ := oB1 h
                    refine oRun.callV (as := [.int v455, .int v460, .int v465]) 469 dL_law_466 lk_RL_40 (oFit_i (Nat.le_of_ble_eq_true rfl) (Nat.le_of_ble_eq_true rfl)) rfl rfl rfl rfl (Nat.le_of_ble_eq_true rfl) (Nat.le_of_ble_eq_true rfl) rfl (E_X8_split hr466) rfl ?_
                    show oRun G _ 469 _ [.int r466] _ _ _
                    refine oRun.aload_n 470 dL_law_469 2 rfl rfl (Nat.le_of_ble_eq_true rfl) rfl ?_
                    refine oRun.aload_n 471 dL_law_470 0 rfl rfl (Nat.le_of_ble_eq_true rfl) rfl ?_
                    refine oRun.iload_n 472 dL_law_471 3 rfl rfl rfl ?_
                    refine oRun.iconst 473 dL_law_472 oc_i1 rfl ?_
                    refine oRun.iadd 474 dL_law_473 rfl ?_
                    obtain ⟨v474, hv474, h⟩ := oB1 h
                    obtain ⟨hz474, hv474⟩ := oXA_ok hv474
                    refine oRun.sload 475 dL_law_474 hz474 rfl ?_
                    refine oRun.nameI hv474 ?_
                    refine oRun.aload_n 476 dL_law_475 0 rfl rfl (Nat.le_of_ble_eq_true rfl) rfl ?_
                    refine oRun.iload_n 477 dL_law_476 3 rfl rfl rfl ?_
                    refine oRun.iconst 478 dL_law_477 oc_i2 rfl ?_
                    refine oRun.iadd 479 dL_law_478 rfl ?_
                    obtain ⟨v479, hv479, h⟩ := oB1 h
                    obtain ⟨hz479, hv479⟩ := oXA_ok hv479
                    refine oRun.sload 480 dL_law_479 hz479 rfl ?_
                    refine oRun.nameI hv479 ?_
                    refine oRun.aload_n 481 dL_law_480 0 rfl rfl (Nat.le_of_ble_eq_true rfl) rfl ?_
                    refine oRun.iload_n 482 dL_law_481 3 rfl rfl rfl ?_
                    refine oRun.iconst 483 dL_law_482 oc_i3 rfl ?_
                    refine oRun.iadd 484 dL_law_483 rfl ?_
                    obtain ⟨v484, hv484, h⟩ := oB1 h
                    obtain ⟨hz484, hv484⟩ := oXA_ok hv484
                    refine oRun.sload 485 dL_law_484 hz484 rfl ?_
                    refine oRun.nameI hv484 ?_
                    obtain ⟨r485, hr485, h⟩ := oB1 h
                    refine oRun.callV (as := [.int v474, .int v479, .int v484]) 488 dL_law_485 lk_RL_43 (oFit_i (Nat.le_of_ble_eq_true rfl) (Nat.le_of_ble_eq_true rfl)) rfl rfl rfl rfl (Nat.le_of_ble_eq_true rfl) (Nat.le_of_ble_eq_true rfl) rfl (E_X9_split hr485) rfl ?_
                    show oRun G _ 488 _ [.int r485, .int r466] _ _ _
                    by_cases c488 : r466 = r485
                    · replace h := oIp c488 h
                      refine oRun.icmp_eq_t 1651 dL_law_488 c488 rfl ?_
                      refine oRun.iinc 1654 dL_law_1651 3 rfl (oAddC oc_i6) (Nat.le_of_ble_eq_true rfl) rfl rfl ?_
                      refine oRun.goto 18 dL_law_1654 rfl ?_
                      cases h
                      refine oRun.sub [1, 2, 3, 0] rfl ?_
                      exact hc _ rfl
                    · replace h := oIn c488 h
                      refine oRun.icmp_eq_f 491 dL_law_488 rfl c488 rfl ?_
                      refine oRun.iconst 492 dL_law_491 oc_i0 rfl ?_
                      cases h
                      obtain ⟨hr1, hr2⟩ := hx _ rfl
                      rw [hr1, hr2]
                      exact oRun.ret (r := some (.int 0)) dL_law_492
                  · replace h := oIn c33_6 h
                    by_cases c33_7 : v33 = 7
                    · replace h := oIp c33_7 h
                      refine oRun.tsin 493 dL_law_33 (q := 7) (by rw [c33_7]; rfl) (by decide) (by decide) rfl rfl ?_
                      refine oRun.aload_n 494 dL_law_493 1 rfl rfl (Nat.le_of_ble_eq_true rfl) rfl ?_
                      refine oRun.aload_n 495 dL_law_494 0 rfl rfl (Nat.le_of_ble_eq_true rfl) rfl ?_
                      refine oRun.iload_n 496 dL_law_495 3 rfl rfl rfl ?_
                      refine oRun.iconst 497 dL_law_496 oc_i1 rfl ?_
                      refine oRun.iadd 498 dL_law_497 rfl ?_
                      obtain ⟨v498, hv498, h⟩ := oB1 h
                      obtain ⟨hz498, hv498⟩ := oXA_ok hv498
                      refine oRun.sload 499 dL_law_498 hz498 rfl ?_
                      refine oRun.nameI hv498 ?_
                      refine oRun.aload_n 500 dL_law_499 0 rfl rfl (Nat.le_of_ble_eq_true rfl) rfl ?_
                      refine oRun.iload_n 501 dL_law_500 3 rfl rfl rfl ?_
                      refine oRun.iconst 502 dL_law_501 oc_i2 rfl ?_
                      refine oRun.iadd 503 dL_law_502 rfl ?_
                      obtain ⟨v503, hv503, h⟩ := oB1 h
                      obtain ⟨hz503, hv503⟩ := oXA_ok hv503
                      refine oRun.sload 504 dL_law_503 hz503 rfl ?_
                      refine oRun.nameI hv503 ?_
                      obtain ⟨r504, hr504, h⟩ := oB1 h
                      refine oRun.callV (as := [.int v498, .int v503]) 507 dL_law_504 lk_RL_44 (oFit_i (Nat.le_of_ble_eq_true rfl) (Nat.le_of_ble_eq_true rfl)) rfl rfl rfl rfl (Nat.le_of_ble_eq_true rfl) (Nat.le_of_ble_eq_true rfl) rfl (E_X8_prime hr504) rfl ?_
                      show oRun G _ 507 _ [.int r504] _ _ _
                      refine oRun.aload_n 508 dL_law_507 2 rfl rfl (Nat.le_of_ble_eq_true rfl) rfl ?_
                      refine oRun.aload_n 509 dL_law_508 0 rfl rfl (Nat.le_of_ble_eq_true rfl) rfl ?_
                      refine oRun.iload_n 510 dL_law_509 3 rfl rfl rfl ?_
                      refine oRun.iconst 511 dL_law_510 oc_i1 rfl ?_
                      refine oRun.iadd 512 dL_law_511 rfl ?_
                      obtain ⟨v512, hv512, h⟩ := oB1 h
                      obtain ⟨hz512, hv512⟩ := oXA_ok hv512
                      refine oRun.sload 513 dL_law_512 hz512 rfl ?_
                      refine oRun.nameI hv512 ?_
                      refine oRun.aload_n 514 dL_law_513 0 rfl rfl (Nat.le_of_ble_eq_true rfl) rfl ?_
                      refine oRun.iload_n 515 dL_law_514 3 rfl rfl rfl ?_
                      refine oRun.iconst 516 dL_law_515 oc_i2 rfl ?_
                      refine oRun.iadd 517 dL_law_516 rfl ?_
                      obtain ⟨v517, hv517, h⟩ := oB1 h
                      obtain ⟨hz517, hv517⟩ := oXA_ok hv517
                      refine oRun.sload 518 dL_law_517 hz517 rfl ?_
                      refine oRun.nameI hv517 ?_
                      obtain ⟨r518, hr518, h⟩ := oB1 h
                      refine oRun.callV (as := [.int v512, .int v517]) 521 dL_law_518 lk_RL_47 (oFit_i (Nat.le_of_ble_eq_true rfl) (Nat.le_of_ble_eq_true rfl)) rfl rfl rfl rfl (Nat.le_of_ble_eq_true rfl) (Nat.le_of_ble_eq_true rfl) rfl (E_X9_prime hr518) rfl ?_
                      show oRun G _ 521 _ [.int r518, .int r504] _ _ _
                      by_cases c521 : r504 = r518
                      · replace h := oIp c521 h
                        refine oRun.icmp_eq_t 1651 dL_law_521 c521 rfl ?_
                        refine oRun.iinc 1654 dL_law_1651 3 rfl (oAddC oc_i6) (Nat.le_of_ble_eq_true rfl) rfl rfl ?_
                        refine oRun.goto 18 dL_law_1654 rfl ?_
                        cases h
                        refine oRun.sub [1, 2, 3, 0] rfl ?_
                        exact hc _ rfl
                      · replace h := oIn c521 h
                        refine oRun.icmp_eq_f 524 dL_law_521 rfl c521 rfl ?_
                        refine oRun.iconst 525 dL_law_524 oc_i0 rfl ?_
                        cases h
                        obtain ⟨hr1, hr2⟩ := hx _ rfl
                        rw [hr1, hr2]
                        exact oRun.ret (r := some (.int 0)) dL_law_525
                    · replace h := oIn c33_7 h
                      by_cases c33_8 : v33 = 8
                      · replace h := oIp c33_8 h
                        refine oRun.tsin 526 dL_law_33 (q := 8) (by rw [c33_8]; rfl) (by decide) (by decide) rfl rfl ?_
                        refine oRun.aload_n 527 dL_law_526 1 rfl rfl (Nat.le_of_ble_eq_true rfl) rfl ?_
                        refine oRun.aload_n 528 dL_law_527 0 rfl rfl (Nat.le_of_ble_eq_true rfl) rfl ?_
                        refine oRun.iload_n 529 dL_law_528 3 rfl rfl rfl ?_
                        refine oRun.iconst 530 dL_law_529 oc_i1 rfl ?_
                        refine oRun.iadd 531 dL_law_530 rfl ?_
                        obtain ⟨v531, hv531, h⟩ := oB1 h
                        obtain ⟨hz531, hv531⟩ := oXA_ok hv531
                        refine oRun.sload 532 dL_law_531 hz531 rfl ?_
                        refine oRun.nameI hv531 ?_
                        obtain ⟨r532, hr532, h⟩ := oB1 h
                        refine oRun.callV (as := [.int v531]) 535 dL_law_532 lk_RL_48 (oFit_i (Nat.le_of_ble_eq_true rfl) (Nat.le_of_ble_eq_true rfl)) rfl rfl rfl rfl (Nat.le_of_ble_eq_true rfl) (Nat.le_of_ble_eq_true rfl) rfl (E_X8_feed hr532) rfl ?_
                        show oRun G _ 535 _ [.int r532.1] _ _ _
                        refine oRun.aload_n 536 dL_law_535 2 rfl rfl (Nat.le_of_ble_eq_true rfl) rfl ?_
                        refine oRun.aload_n 537 dL_law_536 0 rfl rfl (Nat.le_of_ble_eq_true rfl) rfl ?_
                        refine oRun.iload_n 538 dL_law_537 3 rfl rfl rfl ?_
                        refine oRun.iconst 539 dL_law_538 oc_i1 rfl ?_
                        refine oRun.iadd 540 dL_law_539 rfl ?_
                        obtain ⟨v540, hv540, h⟩ := oB1 h
                        obtain ⟨hz540, hv540⟩ := oXA_ok hv540
                        refine oRun.sload 541 dL_law_540 hz540 rfl ?_
                        refine oRun.nameI hv540 ?_
                        obtain ⟨r541, hr541, h⟩ := oB1 h
                        refine oRun.callV (as := [.int v540]) 544 dL_law_541 lk_RL_52 (oFit_i (Nat.le_of_ble_eq_true rfl) (Nat.le_of_ble_eq_true rfl)) rfl rfl rfl rfl (Nat.le_of_ble_eq_true rfl) (Nat.le_of_ble_eq_true rfl) rfl (E_X9_feed hr541) rfl ?_
                        show oRun G _ 544 _ [.int r541.1, .int r532.1] _ _ _
                        by_cases c544 : r532.1 = r541.1
                        · replace h := oIp c544 h
                          refine oRun.icmp_eq_t 1651 dL_law_544 c544 rfl ?_
                          refine oRun.iinc 1654 dL_law_1651 3 rfl (oAddC oc_i6) (Nat.le_of_ble_eq_true rfl) rfl rfl ?_
                          refine oRun.goto 18 dL_law_1654 rfl ?_
                          cases h
                          refine oRun.sub [1, 2, 3, 0] rfl ?_
                          exact hc _ rfl
                        · replace h := oIn c544 h
                          refine oRun.icmp_eq_f 547 dL_law_544 rfl c544 rfl ?_
                          refine oRun.iconst 548 dL_law_547 oc_i0 rfl ?_
                          cases h
                          obtain ⟨hr1, hr2⟩ := hx _ rfl
                          rw [hr1, hr2]
                          exact oRun.ret (r := some (.int 0)) dL_law_548
                      · replace h := oIn c33_8 h
                        by_cases c33_9 : v33 = 9
                        · replace h := oIp c33_9 h
                          refine oRun.tsin 549 dL_law_33 (q := 9) (by rw [c33_9]; rfl) (by decide) (by decide) rfl rfl ?_
                          refine oRun.aload_n 550 dL_law_549 1 rfl rfl (Nat.le_of_ble_eq_true rfl) rfl ?_
                          obtain ⟨r550, hr550, h⟩ := oB1 h
                          refine oRun.callV (as := []) 553 dL_law_550 lk_RL_53 (oFit_i (Nat.le_of_ble_eq_true rfl) (Nat.le_of_ble_eq_true rfl)) rfl rfl rfl rfl (Nat.le_of_ble_eq_true rfl) (Nat.le_of_ble_eq_true rfl) rfl (E_X8_pairs hr550) rfl ?_
                          show oRun G _ 553 _ [.int r550.1] _ _ _
                          refine oRun.aload_n 554 dL_law_553 2 rfl rfl (Nat.le_of_ble_eq_true rfl) rfl ?_
                          obtain ⟨r554, hr554, h⟩ := oB1 h
                          refine oRun.callV (as := []) 557 dL_law_554 lk_RL_57 (oFit_i (Nat.le_of_ble_eq_true rfl) (Nat.le_of_ble_eq_true rfl)) rfl rfl rfl rfl (Nat.le_of_ble_eq_true rfl) (Nat.le_of_ble_eq_true rfl) rfl (E_X9_pairs hr554) rfl ?_
                          show oRun G _ 557 _ [.int r554.1, .int r550.1] _ _ _
                          by_cases c557 : r550.1 = r554.1
                          · replace h := oIp c557 h
                            refine oRun.icmp_eq_t 1651 dL_law_557 c557 rfl ?_
                            refine oRun.iinc 1654 dL_law_1651 3 rfl (oAddC oc_i6) (Nat.le_of_ble_eq_true rfl) rfl rfl ?_
                            refine oRun.goto 18 dL_law_1654 rfl ?_
                            cases h
                            refine oRun.sub [1, 2, 3, 0] rfl ?_
                            exact hc _ rfl
                          · replace h := oIn c557 h
                            refine oRun.icmp_eq_f 560 dL_law_557 rfl c557 rfl ?_
                            refine oRun.iconst 561 dL_law_560 oc_i0 rfl ?_
                            cases h
                            obtain ⟨hr1, hr2⟩ := hx _ rfl
                            rw [hr1, hr2]
                            exact oRun.ret (r := some (.int 0)) dL_law_561
                        · replace h := oIn c33_9 h
                          by_cases c33_10 : v33 = 10
                          · replace h := oIp c33_10 h
                            refine oRun.tsin 562 dL_law_33 (q := 10) (by rw [c33_10]; rfl) (by decide) (by decide) rfl rfl ?_
                            refine oRun.aload_n 563 dL_law_562 1 rfl rfl (Nat.le_of_ble_eq_true rfl) rfl ?_
                            refine oRun.aload_n 564 dL_law_563 0 rfl rfl (Nat.le_of_ble_eq_true rfl) rfl ?_
                            refine oRun.iload_n 565 dL_law_564 3 rfl rfl rfl ?_
                            refine oRun.iconst 566 dL_law_565 oc_i1 rfl ?_
                            refine oRun.iadd 567 dL_law_566 rfl ?_
                            obtain ⟨v567, hv567, h⟩ := oB1 h
                            obtain ⟨hz567, hv567⟩ := oXA_ok hv567
                            refine oRun.sload 568 dL_law_567 hz567 rfl ?_
                            refine oRun.nameI hv567 ?_
                            refine oRun.aload_n 569 dL_law_568 0 rfl rfl (Nat.le_of_ble_eq_true rfl) rfl ?_
                            refine oRun.iload_n 570 dL_law_569 3 rfl rfl rfl ?_
                            refine oRun.iconst 571 dL_law_570 oc_i2 rfl ?_
                            refine oRun.iadd 572 dL_law_571 rfl ?_
                            obtain ⟨v572, hv572, h⟩ := oB1 h
                            obtain ⟨hz572, hv572⟩ := oXA_ok hv572
                            refine oRun.sload 573 dL_law_572 hz572 rfl ?_
                            refine oRun.nameI hv572 ?_
                            refine oRun.aload_n 574 dL_law_573 0 rfl rfl (Nat.le_of_ble_eq_true rfl) rfl ?_
                            refine oRun.iload_n 575 dL_law_574 3 rfl rfl rfl ?_
                            refine oRun.iconst 576 dL_law_575 oc_i3 rfl ?_
                            refine oRun.iadd 577 dL_law_576 rfl ?_
                            obtain ⟨v577, hv577, h⟩ := oB1 h
                            obtain ⟨hz577, hv577⟩ := oXA_ok hv577
                            refine oRun.sload 578 dL_law_577 hz577 rfl ?_
                            refine oRun.nameI hv577 ?_
                            obtain ⟨r578, hr578, h⟩ := oB1 h
                            refine oRun.callV (as := [.int v567, .int v572, .int v577]) 581 dL_law_578 lk_RL_58 (oFit_i (Nat.le_of_ble_eq_true rfl) (Nat.le_of_ble_eq_true rfl)) rfl rfl rfl rfl (Nat.le_of_ble_eq_true rfl) (Nat.le_of_ble_eq_true rfl) rfl (E_X8_becomes hr578) rfl ?_
                            show oRun G _ 581 _ [.int r578.1] _ _ _
                            refine oRun.aload_n 582 dL_law_581 2 rfl rfl (Nat.le_of_ble_eq_true rfl) rfl ?_
                            refine oRun.aload_n 583 dL_law_582 0 rfl rfl (Nat.le_of_ble_eq_true rfl) rfl ?_
                            refine oRun.iload_n 584 dL_law_583 3 rfl rfl rfl ?_
                            refine oRun.iconst 585 dL_law_584 oc_i1 rfl ?_
                            refine oRun.iadd 586 dL_law_585 rfl ?_
                            obtain ⟨v586, hv586, h⟩ := oB1 h
                            obtain ⟨hz586, hv586⟩ := oXA_ok hv586
                            refine oRun.sload 587 dL_law_586 hz586 rfl ?_
                            refine oRun.nameI hv586 ?_
                            refine oRun.aload_n 588 dL_law_587 0 rfl rfl (Nat.le_of_ble_eq_true rfl) rfl ?_
                            refine oRun.iload_n 589 dL_law_588 3 rfl rfl rfl ?_
                            refine oRun.iconst 590 dL_law_589 oc_i2 rfl ?_
                            refine oRun.iadd 591 dL_law_590 rfl ?_
                            obtain ⟨v591, hv591, h⟩ := oB1 h
                            obtain ⟨hz591, hv591⟩ := oXA_ok hv591
                            refine oRun.sload 592 dL_law_591 hz591 rfl ?_
                            refine oRun.nameI hv591 ?_
                            refine oRun.aload_n 593 dL_law_592 0 rfl rfl (Nat.le_of_ble_eq_true rfl) rfl ?_
                            refine oRun.iload_n 594 dL_law_593 3 rfl rfl rfl ?_
                            refine oRun.iconst 595 dL_law_594 oc_i3 rfl ?_
                            refine oRun.iadd 596 dL_law_595 rfl ?_
                            obtain ⟨v596, hv596, h⟩ := oB1 h
                            obtain ⟨hz596, hv596⟩ := oXA_ok hv596
                            refine oRun.sload 597 dL_law_596 hz596 rfl ?_
                            refine oRun.nameI hv596 ?_
                            obtain ⟨r597, hr597, h⟩ := oB1 h
                            refine oRun.callV (as := [.int v586, .int v591, .int v596]) 600 dL_law_597 lk_RL_61 (oFit_i (Nat.le_of_ble_eq_true rfl) (Nat.le_of_ble_eq_true rfl)) rfl rfl rfl rfl (Nat.le_of_ble_eq_true rfl) (Nat.le_of_ble_eq_true rfl) rfl (E_X9_becomes hr597) rfl ?_
                            show oRun G _ 600 _ [.int r597.1, .int r578.1] _ _ _
                            by_cases c600 : r578.1 = r597.1
                            · replace h := oIp c600 h
                              refine oRun.icmp_eq_t 1651 dL_law_600 c600 rfl ?_
                              refine oRun.iinc 1654 dL_law_1651 3 rfl (oAddC oc_i6) (Nat.le_of_ble_eq_true rfl) rfl rfl ?_
                              refine oRun.goto 18 dL_law_1654 rfl ?_
                              cases h
                              refine oRun.sub [1, 2, 3, 0] rfl ?_
                              exact hc _ rfl
                            · replace h := oIn c600 h
                              refine oRun.icmp_eq_f 603 dL_law_600 rfl c600 rfl ?_
                              refine oRun.iconst 604 dL_law_603 oc_i0 rfl ?_
                              cases h
                              obtain ⟨hr1, hr2⟩ := hx _ rfl
                              rw [hr1, hr2]
                              exact oRun.ret (r := some (.int 0)) dL_law_604
                          · replace h := oIn c33_10 h
                            by_cases c33_11 : v33 = 11
                            · replace h := oIp c33_11 h
                              refine oRun.tsin 605 dL_law_33 (q := 11) (by rw [c33_11]; rfl) (by decide) (by decide) rfl rfl ?_
                              refine oRun.aload_n 606 dL_law_605 1 rfl rfl (Nat.le_of_ble_eq_true rfl) rfl ?_
                              refine oRun.aload_n 607 dL_law_606 0 rfl rfl (Nat.le_of_ble_eq_true rfl) rfl ?_
                              refine oRun.iload_n 608 dL_law_607 3 rfl rfl rfl ?_
                              refine oRun.iconst 609 dL_law_608 oc_i1 rfl ?_
                              refine oRun.iadd 610 dL_law_609 rfl ?_
                              obtain ⟨v610, hv610, h⟩ := oB1 h
                              obtain ⟨hz610, hv610⟩ := oXA_ok hv610
                              refine oRun.sload 611 dL_law_610 hz610 rfl ?_
                              refine oRun.nameI hv610 ?_
                              refine oRun.aload_n 612 dL_law_611 0 rfl rfl (Nat.le_of_ble_eq_true rfl) rfl ?_
                              refine oRun.iload_n 613 dL_law_612 3 rfl rfl rfl ?_
                              refine oRun.iconst 614 dL_law_613 oc_i2 rfl ?_
                              refine oRun.iadd 615 dL_law_614 rfl ?_
                              obtain ⟨v615, hv615, h⟩ := oB1 h
                              obtain ⟨hz615, hv615⟩ := oXA_ok hv615
                              refine oRun.sload 616 dL_law_615 hz615 rfl ?_
                              refine oRun.nameI hv615 ?_
                              refine oRun.aload_n 617 dL_law_616 0 rfl rfl (Nat.le_of_ble_eq_true rfl) rfl ?_
                              refine oRun.iload_n 618 dL_law_617 3 rfl rfl rfl ?_
                              refine oRun.iconst 619 dL_law_618 oc_i3 rfl ?_
                              refine oRun.iadd 620 dL_law_619 rfl ?_
                              obtain ⟨v620, hv620, h⟩ := oB1 h
                              obtain ⟨hz620, hv620⟩ := oXA_ok hv620
                              refine oRun.sload 621 dL_law_620 hz620 rfl ?_
                              refine oRun.nameI hv620 ?_
                              obtain ⟨r621, hr621, h⟩ := oB1 h
                              refine oRun.callV (as := [.int v610, .int v615, .int v620]) 624 dL_law_621 lk_RL_62 (oFit_i (Nat.le_of_ble_eq_true rfl) (Nat.le_of_ble_eq_true rfl)) rfl rfl rfl rfl (Nat.le_of_ble_eq_true rfl) (Nat.le_of_ble_eq_true rfl) rfl (E_X8_teeth hr621) rfl ?_
                              show oRun G _ 624 _ [.int r621.1] _ _ _
                              refine oRun.aload_n 625 dL_law_624 2 rfl rfl (Nat.le_of_ble_eq_true rfl) rfl ?_
                              refine oRun.aload_n 626 dL_law_625 0 rfl rfl (Nat.le_of_ble_eq_true rfl) rfl ?_
                              refine oRun.iload_n 627 dL_law_626 3 rfl rfl rfl ?_
                              refine oRun.iconst 628 dL_law_627 oc_i1 rfl ?_
                              refine oRun.iadd 629 dL_law_628 rfl ?_
                              obtain ⟨v629, hv629, h⟩ := oB1 h
                              obtain ⟨hz629, hv629⟩ := oXA_ok hv629
                              refine oRun.sload 630 dL_law_629 hz629 rfl ?_
                              refine oRun.nameI hv629 ?_
                              refine oRun.aload_n 631 dL_law_630 0 rfl rfl (Nat.le_of_ble_eq_true rfl) rfl ?_
                              refine oRun.iload_n 632 dL_law_631 3 rfl rfl rfl ?_
                              refine oRun.iconst 633 dL_law_632 oc_i2 rfl ?_
                              refine oRun.iadd 634 dL_law_633 rfl ?_
                              obtain ⟨v634, hv634, h⟩ := oB1 h
                              obtain ⟨hz634, hv634⟩ := oXA_ok hv634
                              refine oRun.sload 635 dL_law_634 hz634 rfl ?_
                              refine oRun.nameI hv634 ?_
                              refine oRun.aload_n 636 dL_law_635 0 rfl rfl (Nat.le_of_ble_eq_true rfl) rfl ?_
                              refine oRun.iload_n 637 dL_law_636 3 rfl rfl rfl ?_
                              refine oRun.iconst 638 dL_law_637 oc_i3 rfl ?_
                              refine oRun.iadd 639 dL_law_638 rfl ?_
                              obtain ⟨v639, hv639, h⟩ := oB1 h
                              obtain ⟨hz639, hv639⟩ := oXA_ok hv639
                              refine oRun.sload 640 dL_law_639 hz639 rfl ?_
                              refine oRun.nameI hv639 ?_
                              obtain ⟨r640, hr640, h⟩ := oB1 h
                              refine oRun.callV (as := [.int v629, .int v634, .int v639]) 643 dL_law_640 lk_RL_65 (oFit_i (Nat.le_of_ble_eq_true rfl) (Nat.le_of_ble_eq_true rfl)) rfl rfl rfl rfl (Nat.le_of_ble_eq_true rfl) (Nat.le_of_ble_eq_true rfl) rfl (E_X9_teeth hr640) rfl ?_
                              show oRun G _ 643 _ [.int r640.1, .int r621.1] _ _ _
                              by_cases c643 : r621.1 = r640.1
                              · replace h := oIp c643 h
                                refine oRun.icmp_eq_t 1651 dL_law_643 c643 rfl ?_
                                refine oRun.iinc 1654 dL_law_1651 3 rfl (oAddC oc_i6) (Nat.le_of_ble_eq_true rfl) rfl rfl ?_
                                refine oRun.goto 18 dL_law_1654 rfl ?_
                                cases h
                                refine oRun.sub [1, 2, 3, 0] rfl ?_
                                exact hc _ rfl
                              · replace h := oIn c643 h
                                refine oRun.icmp_eq_f 646 dL_law_643 rfl c643 rfl ?_
                                refine oRun.iconst 647 dL_law_646 oc_i0 rfl ?_
                                cases h
                                obtain ⟨hr1, hr2⟩ := hx _ rfl
                                rw [hr1, hr2]
                                exact oRun.ret (r := some (.int 0)) dL_law_647
                            · replace h := oIn c33_11 h
                              by_cases c33_12 : v33 = 12
                              · replace h := oIp c33_12 h
                                refine oRun.tsin 648 dL_law_33 (q := 12) (by rw [c33_12]; rfl) (by decide) (by decide) rfl rfl ?_
                                refine oRun.aload_n 649 dL_law_648 1 rfl rfl (Nat.le_of_ble_eq_true rfl) rfl ?_
                                refine oRun.aload_n 650 dL_law_649 0 rfl rfl (Nat.le_of_ble_eq_true rfl) rfl ?_
                                refine oRun.iload_n 651 dL_law_650 3 rfl rfl rfl ?_
                                refine oRun.iconst 652 dL_law_651 oc_i1 rfl ?_
                                refine oRun.iadd 653 dL_law_652 rfl ?_
                                obtain ⟨v653, hv653, h⟩ := oB1 h
                                obtain ⟨hz653, hv653⟩ := oXA_ok hv653
                                refine oRun.sload 654 dL_law_653 hz653 rfl ?_
                                refine oRun.nameI hv653 ?_
                                refine oRun.aload_n 655 dL_law_654 0 rfl rfl (Nat.le_of_ble_eq_true rfl) rfl ?_
                                refine oRun.iload_n 656 dL_law_655 3 rfl rfl rfl ?_
                                refine oRun.iconst 657 dL_law_656 oc_i2 rfl ?_
                                refine oRun.iadd 658 dL_law_657 rfl ?_
                                obtain ⟨v658, hv658, h⟩ := oB1 h
                                obtain ⟨hz658, hv658⟩ := oXA_ok hv658
                                refine oRun.sload 659 dL_law_658 hz658 rfl ?_
                                refine oRun.nameI hv658 ?_
                                obtain ⟨r659, hr659, h⟩ := oB1 h
                                refine oRun.callV (as := [.int v653, .int v658]) 662 dL_law_659 lk_RL_66 (oFit_i (Nat.le_of_ble_eq_true rfl) (Nat.le_of_ble_eq_true rfl)) rfl rfl rfl rfl (Nat.le_of_ble_eq_true rfl) (Nat.le_of_ble_eq_true rfl) rfl (E_X8_pair hr659) rfl ?_
                                show oRun G _ 662 _ [.int r659] _ _ _
                                refine oRun.aload_n 663 dL_law_662 2 rfl rfl (Nat.le_of_ble_eq_true rfl) rfl ?_
                                refine oRun.aload_n 664 dL_law_663 0 rfl rfl (Nat.le_of_ble_eq_true rfl) rfl ?_
                                refine oRun.iload_n 665 dL_law_664 3 rfl rfl rfl ?_
                                refine oRun.iconst 666 dL_law_665 oc_i1 rfl ?_
                                refine oRun.iadd 667 dL_law_666 rfl ?_
                                obtain ⟨v667, hv667, h⟩ := oB1 h
                                obtain ⟨hz667, hv667⟩ := oXA_ok hv667
                                refine oRun.sload 668 dL_law_667 hz667 rfl ?_
                                refine oRun.nameI hv667 ?_
                                refine oRun.aload_n 669 dL_law_668 0 rfl rfl (Nat.le_of_ble_eq_true rfl) rfl ?_
                                refine oRun.iload_n 670 dL_law_669 3 rfl rfl rfl ?_
                                refine oRun.iconst 671 dL_law_670 oc_i2 rfl ?_
                                refine oRun.iadd 672 dL_law_671 rfl ?_
                                obtain ⟨v672, hv672, h⟩ := oB1 h
                                obtain ⟨hz672, hv672⟩ := oXA_ok hv672
                                refine oRun.sload 673 dL_law_672 hz672 rfl ?_
                                refine oRun.nameI hv672 ?_
                                obtain ⟨r673, hr673, h⟩ := oB1 h
                                refine oRun.callV (as := [.int v667, .int v672]) 676 dL_law_673 lk_RL_69 (oFit_i (Nat.le_of_ble_eq_true rfl) (Nat.le_of_ble_eq_true rfl)) rfl rfl rfl rfl (Nat.le_of_ble_eq_true rfl) (Nat.le_of_ble_eq_true rfl) rfl (E_X9_pair hr673) rfl ?_
                                show oRun G _ 676 _ [.int r673, .int r659] _ _ _
                                by_cases c676 : r659 = r673
                                · replace h := oIp c676 h
                                  refine oRun.icmp_eq_t 1651 dL_law_676 c676 rfl ?_
                                  refine oRun.iinc 1654 dL_law_1651 3 rfl (oAddC oc_i6) (Nat.le_of_ble_eq_true rfl) rfl rfl ?_
                                  refine oRun.goto 18 dL_law_1654 rfl ?_
                                  cases h
                                  refine oRun.sub [1, 2, 3, 0] rfl ?_
                                  exact hc _ rfl
                                · replace h := oIn c676 h
                                  refine oRun.icmp_eq_f 679 dL_law_676 rfl c676 rfl ?_
                                  refine oRun.iconst 680 dL_law_679 oc_i0 rfl ?_
                                  cases h
                                  obtain ⟨hr1, hr2⟩ := hx _ rfl
                                  rw [hr1, hr2]
                                  exact oRun.ret (r := some (.int 0)) dL_law_680
                              · replace h := oIn c33_12 h
                                by_cases c33_13 : v33 = 13
                                · replace h := oIp c33_13 h
                                  refine oRun.tsin 681 dL_law_33 (q := 13) (by rw [c33_13]; rfl) (by decide) (by decide) rfl rfl ?_
                                  refine oRun.aload_n 682 dL_law_681 1 rfl rfl (Nat.le_of_ble_eq_true rfl) rfl ?_
                                  refine oRun.aload_n 683 dL_law_682 0 rfl rfl (Nat.le_of_ble_eq_true rfl) rfl ?_
                                  refine oRun.iload_n 684 dL_law_683 3 rfl rfl rfl ?_
                                  refine oRun.iconst 685 dL_law_684 oc_i1 rfl ?_
                                  refine oRun.iadd 686 dL_law_685 rfl ?_
                                  obtain ⟨v686, hv686, h⟩ := oB1 h
                                  obtain ⟨hz686, hv686⟩ := oXA_ok hv686
                                  refine oRun.sload 687 dL_law_686 hz686 rfl ?_
                                  refine oRun.nameI hv686 ?_
                                  obtain ⟨r687, hr687, h⟩ := oB1 h
                                  refine oRun.callV (as := [.int v686]) 690 dL_law_687 lk_RL_70 (oFit_i (Nat.le_of_ble_eq_true rfl) (Nat.le_of_ble_eq_true rfl)) rfl rfl rfl rfl (Nat.le_of_ble_eq_true rfl) (Nat.le_of_ble_eq_true rfl) rfl (E_X8_train hr687) rfl ?_
                                  show oRun G _ 690 _ [.int r687.1] _ _ _
                                  refine oRun.aload_n 691 dL_law_690 2 rfl rfl (Nat.le_of_ble_eq_true rfl) rfl ?_
                                  refine oRun.aload_n 692 dL_law_691 0 rfl rfl (Nat.le_of_ble_eq_true rfl) rfl ?_
                                  refine oRun.iload_n 693 dL_law_692 3 rfl rfl rfl ?_
                                  refine oRun.iconst 694 dL_law_693 oc_i1 rfl ?_
                                  refine oRun.iadd 695 dL_law_694 rfl ?_
                                  obtain ⟨v695, hv695, h⟩ := oB1 h
                                  obtain ⟨hz695, hv695⟩ := oXA_ok hv695
                                  refine oRun.sload 696 dL_law_695 hz695 rfl ?_
                                  refine oRun.nameI hv695 ?_
                                  obtain ⟨r696, hr696, h⟩ := oB1 h
                                  refine oRun.callV (as := [.int v695]) 699 dL_law_696 lk_RL_73 (oFit_i (Nat.le_of_ble_eq_true rfl) (Nat.le_of_ble_eq_true rfl)) rfl rfl rfl rfl (Nat.le_of_ble_eq_true rfl) (Nat.le_of_ble_eq_true rfl) rfl (E_X9_train hr696) rfl ?_
                                  show oRun G _ 699 _ [.int r696.1, .int r687.1] _ _ _
                                  by_cases c699 : r687.1 = r696.1
                                  · replace h := oIp c699 h
                                    refine oRun.icmp_eq_t 1651 dL_law_699 c699 rfl ?_
                                    refine oRun.iinc 1654 dL_law_1651 3 rfl (oAddC oc_i6) (Nat.le_of_ble_eq_true rfl) rfl rfl ?_
                                    refine oRun.goto 18 dL_law_1654 rfl ?_
                                    cases h
                                    refine oRun.sub [1, 2, 3, 0] rfl ?_
                                    exact hc _ rfl
                                  · replace h := oIn c699 h
                                    refine oRun.icmp_eq_f 702 dL_law_699 rfl c699 rfl ?_
                                    refine oRun.iconst 703 dL_law_702 oc_i0 rfl ?_
                                    cases h
                                    obtain ⟨hr1, hr2⟩ := hx _ rfl
                                    rw [hr1, hr2]
                                    exact oRun.ret (r := some (.int 0)) dL_law_703
                                · replace h := oIn c33_13 h
                                  by_cases c33_14 : v33 = 14
                                  · replace h := oIp c33_14 h
                                    refine oRun.tsin 704 dL_law_33 (q := 14) (by rw [c33_14]; rfl) (by decide) (by decide) rfl rfl ?_
                                    refine oRun.aload_n 705 dL_law_704 1 rfl rfl (Nat.le_of_ble_eq_true rfl) rfl ?_
                                    refine oRun.aload_n 706 dL_law_705 0 rfl rfl (Nat.le_of_ble_eq_true rfl) rfl ?_
                                    refine oRun.iload_n 707 dL_law_706 3 rfl rfl rfl ?_
                                    refine oRun.iconst 708 dL_law_707 oc_i1 rfl ?_
                                    refine oRun.iadd 709 dL_law_708 rfl ?_
                                    obtain ⟨v709, hv709, h⟩ := oB1 h
                                    obtain ⟨hz709, hv709⟩ := oXA_ok hv709
                                    refine oRun.sload 710 dL_law_709 hz709 rfl ?_
                                    refine oRun.nameI hv709 ?_
                                    obtain ⟨r710, hr710, h⟩ := oB1 h
                                    refine oRun.callV (as := [.int v709]) 713 dL_law_710 lk_RL_74 (oFit_i (Nat.le_of_ble_eq_true rfl) (Nat.le_of_ble_eq_true rfl)) rfl rfl rfl rfl (Nat.le_of_ble_eq_true rfl) (Nat.le_of_ble_eq_true rfl) rfl (E_X8_drop hr710) rfl ?_
                                    show oRun G _ 713 _ [.int r710.1] _ _ _
                                    refine oRun.aload_n 714 dL_law_713 2 rfl rfl (Nat.le_of_ble_eq_true rfl) rfl ?_
                                    refine oRun.aload_n 715 dL_law_714 0 rfl rfl (Nat.le_of_ble_eq_true rfl) rfl ?_
                                    refine oRun.iload_n 716 dL_law_715 3 rfl rfl rfl ?_
                                    refine oRun.iconst 717 dL_law_716 oc_i1 rfl ?_
                                    refine oRun.iadd 718 dL_law_717 rfl ?_
                                    obtain ⟨v718, hv718, h⟩ := oB1 h
                                    obtain ⟨hz718, hv718⟩ := oXA_ok hv718
                                    refine oRun.sload 719 dL_law_718 hz718 rfl ?_
                                    refine oRun.nameI hv718 ?_
                                    obtain ⟨r719, hr719, h⟩ := oB1 h
                                    refine oRun.callV (as := [.int v718]) 722 dL_law_719 lk_RL_77 (oFit_i (Nat.le_of_ble_eq_true rfl) (Nat.le_of_ble_eq_true rfl)) rfl rfl rfl rfl (Nat.le_of_ble_eq_true rfl) (Nat.le_of_ble_eq_true rfl) rfl (E_X9_drop hr719) rfl ?_
                                    show oRun G _ 722 _ [.int r719.1, .int r710.1] _ _ _
                                    by_cases c722 : r710.1 = r719.1
                                    · replace h := oIp c722 h
                                      refine oRun.icmp_eq_t 1651 dL_law_722 c722 rfl ?_
                                      refine oRun.iinc 1654 dL_law_1651 3 rfl (oAddC oc_i6) (Nat.le_of_ble_eq_true rfl) rfl rfl ?_
                                      refine oRun.goto 18 dL_law_1654 rfl ?_
                                      cases h
                                      refine oRun.sub [1, 2, 3, 0] rfl ?_
                                      exact hc _ rfl
                                    · replace h := oIn c722 h
                                      refine oRun.icmp_eq_f 725 dL_law_722 rfl c722 rfl ?_
                                      refine oRun.iconst 726 dL_law_725 oc_i0 rfl ?_
                                      cases h
                                      obtain ⟨hr1, hr2⟩ := hx _ rfl
                                      rw [hr1, hr2]
                                      exact oRun.ret (r := some (.int 0)) dL_law_726
                                  · replace h := oIn c33_14 h
                                    by_cases c33_15 : v33 = 15
                                    · replace h := oIp c33_15 h
                                      refine oRun.tsin 727 dL_law_33 (q := 15) (by rw [c33_15]; rfl) (by decide) (by decide) rfl rfl ?_
                                      refine oRun.aload_n 728 dL_law_727 1 rfl rfl (Nat.le_of_ble_eq_true rfl) rfl ?_
                                      refine oRun.aload_n 729 dL_law_728 0 rfl rfl (Nat.le_of_ble_eq_true rfl) rfl ?_
                                      refine oRun.iload_n 730 dL_law_729 3 rfl rfl rfl ?_
                                      refine oRun.iconst 731 dL_law_730 oc_i1 rfl ?_
                                      refine oRun.iadd 732 dL_law_731 rfl ?_
                                      obtain ⟨v732, hv732, h⟩ := oB1 h
                                      obtain ⟨hz732, hv732⟩ := oXA_ok hv732
                                      refine oRun.sload 733 dL_law_732 hz732 rfl ?_
                                      refine oRun.nameI hv732 ?_
                                      refine oRun.aload_n 734 dL_law_733 0 rfl rfl (Nat.le_of_ble_eq_true rfl) rfl ?_
                                      refine oRun.iload_n 735 dL_law_734 3 rfl rfl rfl ?_
                                      refine oRun.iconst 736 dL_law_735 oc_i2 rfl ?_
                                      refine oRun.iadd 737 dL_law_736 rfl ?_
                                      obtain ⟨v737, hv737, h⟩ := oB1 h
                                      obtain ⟨hz737, hv737⟩ := oXA_ok hv737
                                      refine oRun.sload 738 dL_law_737 hz737 rfl ?_
                                      refine oRun.nameI hv737 ?_
                                      obtain ⟨r738, hr738, h⟩ := oB1 h
                                      refine oRun.callV (as := [.int v732, .int v737]) 741 dL_law_738 lk_RL_78 (oFit_i (Nat.le_of_ble_eq_true rfl) (Nat.le_of_ble_eq_true rfl)) rfl rfl rfl rfl (Nat.le_of_ble_eq_true rfl) (Nat.le_of_ble_eq_true rfl) rfl (E_X8_of hr738) rfl ?_
                                      show oRun G _ 741 _ [.int r738] _ _ _
                                      refine oRun.aload_n 742 dL_law_741 2 rfl rfl (Nat.le_of_ble_eq_true rfl) rfl ?_
                                      refine oRun.aload_n 743 dL_law_742 0 rfl rfl (Nat.le_of_ble_eq_true rfl) rfl ?_
                                      refine oRun.iload_n 744 dL_law_743 3 rfl rfl rfl ?_
                                      refine oRun.iconst 745 dL_law_744 oc_i1 rfl ?_
                                      refine oRun.iadd 746 dL_law_745 rfl ?_
                                      obtain ⟨v746, hv746, h⟩ := oB1 h
                                      obtain ⟨hz746, hv746⟩ := oXA_ok hv746
                                      refine oRun.sload 747 dL_law_746 hz746 rfl ?_
                                      refine oRun.nameI hv746 ?_
                                      refine oRun.aload_n 748 dL_law_747 0 rfl rfl (Nat.le_of_ble_eq_true rfl) rfl ?_
                                      refine oRun.iload_n 749 dL_law_748 3 rfl rfl rfl ?_
                                      refine oRun.iconst 750 dL_law_749 oc_i2 rfl ?_
                                      refine oRun.iadd 751 dL_law_750 rfl ?_
                                      obtain ⟨v751, hv751, h⟩ := oB1 h
                                      obtain ⟨hz751, hv751⟩ := oXA_ok hv751
                                      refine oRun.sload 752 dL_law_751 hz751 rfl ?_
                                      refine oRun.nameI hv751 ?_
                                      obtain ⟨r752, hr752, h⟩ := oB1 h
                                      refine oRun.callV (as := [.int v746, .int v751]) 755 dL_law_752 lk_RL_81 (oFit_i (Nat.le_of_ble_eq_true rfl) (Nat.le_of_ble_eq_true rfl)) rfl rfl rfl rfl (Nat.le_of_ble_eq_true rfl) (Nat.le_of_ble_eq_true rfl) rfl (E_X9_of hr752) rfl ?_
                                      show oRun G _ 755 _ [.int r752, .int r738] _ _ _
                                      by_cases c755 : r738 = r752
                                      · replace h := oIp c755 h
                                        refine oRun.icmp_eq_t 1651 dL_law_755 c755 rfl ?_
                                        refine oRun.iinc 1654 dL_law_1651 3 rfl (oAddC oc_i6) (Nat.le_of_ble_eq_true rfl) rfl rfl ?_
                                        refine oRun.goto 18 dL_law_1654 rfl ?_
                                        cases h
                                        refine oRun.sub [1, 2, 3, 0] rfl ?_
                                        exact hc _ rfl
                                      · replace h := oIn c755 h
                                        refine oRun.icmp_eq_f 758 dL_law_755 rfl c755 rfl ?_
                                        refine oRun.iconst 759 dL_law_758 oc_i0 rfl ?_
                                        cases h
                                        obtain ⟨hr1, hr2⟩ := hx _ rfl
                                        rw [hr1, hr2]
                                        exact oRun.ret (r := some (.int 0)) dL_law_759
                                    · replace h := oIn c33_15 h
                                      by_cases c33_16 : v33 = 16
                                      · replace h := oIp c33_16 h
                                        refine oRun.tsin 760 dL_law_33 (q := 16) (by rw [c33_16]; rfl) (by decide) (by decide) rfl rfl ?_
                                        refine oRun.aload_n 761 dL_law_760 1 rfl rfl (Nat.le_of_ble_eq_true rfl) rfl ?_
                                        refine oRun.aload_n 762 dL_law_761 0 rfl rfl (Nat.le_of_ble_eq_true rfl) rfl ?_
                                        refine oRun.iload_n 763 dL_law_762 3 rfl rfl rfl ?_
                                        refine oRun.iconst 764 dL_law_763 oc_i1 rfl ?_
                                        refine oRun.iadd 765 dL_law_764 rfl ?_
                                        obtain ⟨v765, hv765, h⟩ := oB1 h
                                        obtain ⟨hz765, hv765⟩ := oXA_ok hv765
                                        refine oRun.sload 766 dL_law_765 hz765 rfl ?_
                                        refine oRun.nameI hv765 ?_
                                        refine oRun.aload_n 767 dL_law_766 0 rfl rfl (Nat.le_of_ble_eq_true rfl) rfl ?_
                                        refine oRun.iload_n 768 dL_law_767 3 rfl rfl rfl ?_
                                        refine oRun.iconst 769 dL_law_768 oc_i2 rfl ?_
                                        refine oRun.iadd 770 dL_law_769 rfl ?_
                                        obtain ⟨v770, hv770, h⟩ := oB1 h
                                        obtain ⟨hz770, hv770⟩ := oXA_ok hv770
                                        refine oRun.sload 771 dL_law_770 hz770 rfl ?_
                                        refine oRun.nameI hv770 ?_
                                        obtain ⟨r771, hr771, h⟩ := oB1 h
                                        refine oRun.callV (as := [.int v765, .int v770]) 774 dL_law_771 lk_RL_82 (oFit_i (Nat.le_of_ble_eq_true rfl) (Nat.le_of_ble_eq_true rfl)) rfl rfl rfl rfl (Nat.le_of_ble_eq_true rfl) (Nat.le_of_ble_eq_true rfl) rfl (E_X8_turns hr771) rfl ?_
                                        show oRun G _ 774 _ [.long r771] _ _ _
                                        refine oRun.aload_n 775 dL_law_774 2 rfl rfl (Nat.le_of_ble_eq_true rfl) rfl ?_
                                        refine oRun.aload_n 776 dL_law_775 0 rfl rfl (Nat.le_of_ble_eq_true rfl) rfl ?_
                                        refine oRun.iload_n 777 dL_law_776 3 rfl rfl rfl ?_
                                        refine oRun.iconst 778 dL_law_777 oc_i1 rfl ?_
                                        refine oRun.iadd 779 dL_law_778 rfl ?_
                                        obtain ⟨v779, hv779, h⟩ := oB1 h
                                        obtain ⟨hz779, hv779⟩ := oXA_ok hv779
                                        refine oRun.sload 780 dL_law_779 hz779 rfl ?_
                                        refine oRun.nameI hv779 ?_
                                        refine oRun.aload_n 781 dL_law_780 0 rfl rfl (Nat.le_of_ble_eq_true rfl) rfl ?_
                                        refine oRun.iload_n 782 dL_law_781 3 rfl rfl rfl ?_
                                        refine oRun.iconst 783 dL_law_782 oc_i2 rfl ?_
                                        refine oRun.iadd 784 dL_law_783 rfl ?_
                                        obtain ⟨v784, hv784, h⟩ := oB1 h
                                        obtain ⟨hz784, hv784⟩ := oXA_ok hv784
                                        refine oRun.sload 785 dL_law_784 hz784 rfl ?_
                                        refine oRun.nameI hv784 ?_
                                        obtain ⟨r785, hr785, h⟩ := oB1 h
                                        refine oRun.callV (as := [.int v779, .int v784]) 788 dL_law_785 lk_RL_86 (oFit_i (Nat.le_of_ble_eq_true rfl) (Nat.le_of_ble_eq_true rfl)) rfl rfl rfl rfl (Nat.le_of_ble_eq_true rfl) (Nat.le_of_ble_eq_true rfl) rfl (E_X9_turns hr785) rfl ?_
                                        show oRun G _ 788 _ [.long r785, .long r771] _ _ _
                                        refine oRun.lcmp 789 dL_law_788 rfl ?_
                                        by_cases c789 : r771 = r785
                                        · replace h := oIp c789 h
                                          refine oRun.if_eq_t 1651 dL_law_789 ((oLc_eq _ _).mpr c789) rfl ?_
                                          refine oRun.iinc 1654 dL_law_1651 3 rfl (oAddC oc_i6) (Nat.le_of_ble_eq_true rfl) rfl rfl ?_
                                          refine oRun.goto 18 dL_law_1654 rfl ?_
                                          cases h
                                          refine oRun.sub [1, 2, 3, 0] rfl ?_
                                          exact hc _ rfl
                                        · replace h := oIn c789 h
                                          refine oRun.if_eq_f 792 dL_law_789 rfl (mt (oLc_eq _ _).mp c789) rfl ?_
                                          refine oRun.iconst 793 dL_law_792 oc_i0 rfl ?_
                                          cases h
                                          obtain ⟨hr1, hr2⟩ := hx _ rfl
                                          rw [hr1, hr2]
                                          exact oRun.ret (r := some (.int 0)) dL_law_793
                                      · replace h := oIn c33_16 h
                                        by_cases c33_17 : v33 = 17
                                        · replace h := oIp c33_17 h
                                          refine oRun.tsin 794 dL_law_33 (q := 17) (by rw [c33_17]; rfl) (by decide) (by decide) rfl rfl ?_
                                          refine oRun.aload_n 795 dL_law_794 1 rfl rfl (Nat.le_of_ble_eq_true rfl) rfl ?_
                                          refine oRun.aload_n 796 dL_law_795 0 rfl rfl (Nat.le_of_ble_eq_true rfl) rfl ?_
                                          refine oRun.iload_n 797 dL_law_796 3 rfl rfl rfl ?_
                                          refine oRun.iconst 798 dL_law_797 oc_i1 rfl ?_
                                          refine oRun.iadd 799 dL_law_798 rfl ?_
                                          obtain ⟨v799, hv799, h⟩ := oB1 h
                                          obtain ⟨hz799, hv799⟩ := oXA_ok hv799
                                          refine oRun.sload 800 dL_law_799 hz799 rfl ?_
                                          refine oRun.nameI hv799 ?_
                                          refine oRun.aload_n 801 dL_law_800 0 rfl rfl (Nat.le_of_ble_eq_true rfl) rfl ?_
                                          refine oRun.iload_n 802 dL_law_801 3 rfl rfl rfl ?_
                                          refine oRun.iconst 803 dL_law_802 oc_i2 rfl ?_
                                          refine oRun.iadd 804 dL_law_803 rfl ?_
                                          obtain ⟨v804, hv804, h⟩ := oB1 h
                                          obtain ⟨hz804, hv804⟩ := oXA_ok hv804
                                          refine oRun.sload 805 dL_law_804 hz804 rfl ?_
                                          refine oRun.nameI hv804 ?_
                                          obtain ⟨r805, hr805, h⟩ := oB1 h
                                          refine oRun.callV (as := [.int v799, .int v804]) 808 dL_law_805 lk_RL_87 (oFit_i (Nat.le_of_ble_eq_true rfl) (Nat.le_of_ble_eq_true rfl)) rfl rfl rfl rfl (Nat.le_of_ble_eq_true rfl) (Nat.le_of_ble_eq_true rfl) rfl (E_X8_wrong hr805) rfl ?_
                                          show oRun G _ 808 _ [.long r805] _ _ _
                                          refine oRun.aload_n 809 dL_law_808 2 rfl rfl (Nat.le_of_ble_eq_true rfl) rfl ?_
                                          refine oRun.aload_n 810 dL_law_809 0 rfl rfl (Nat.le_of_ble_eq_true rfl) rfl ?_
                                          refine oRun.iload_n 811 dL_law_810 3 rfl rfl rfl ?_
                                          refine oRun.iconst 812 dL_law_811 oc_i1 rfl ?_
                                          refine oRun.iadd 813 dL_law_812 rfl ?_
                                          obtain ⟨v813, hv813, h⟩ := oB1 h
                                          obtain ⟨hz813, hv813⟩ := oXA_ok hv813
                                          refine oRun.sload 814 dL_law_813 hz813 rfl ?_
                                          refine oRun.nameI hv813 ?_
                                          refine oRun.aload_n 815 dL_law_814 0 rfl rfl (Nat.le_of_ble_eq_true rfl) rfl ?_
                                          refine oRun.iload_n 816 dL_law_815 3 rfl rfl rfl ?_
                                          refine oRun.iconst 817 dL_law_816 oc_i2 rfl ?_
                                          refine oRun.iadd 818 dL_law_817 rfl ?_
                                          obtain ⟨v818, hv818, h⟩ := oB1 h
                                          obtain ⟨hz818, hv818⟩ := oXA_ok hv818
                                          refine oRun.sload 819 dL_law_818 hz818 rfl ?_
                                          refine oRun.nameI hv818 ?_
                                          obtain ⟨r819, hr819, h⟩ := oB1 h
                                          refine oRun.callV (as := [.int v813, .int v818]) 822 dL_law_819 lk_RL_90 (oFit_i (Nat.le_of_ble_eq_true rfl) (Nat.le_of_ble_eq_true rfl)) rfl rfl rfl rfl (Nat.le_of_ble_eq_true rfl) (Nat.le_of_ble_eq_true rfl) rfl (E_X9_wrong hr819) rfl ?_
                                          show oRun G _ 822 _ [.long r819, .long r805] _ _ _
                                          refine oRun.lcmp 823 dL_law_822 rfl ?_
                                          by_cases c823 : r805 = r819
                                          · replace h := oIp c823 h
                                            refine oRun.if_eq_t 1651 dL_law_823 ((oLc_eq _ _).mpr c823) rfl ?_
                                            refine oRun.iinc 1654 dL_law_1651 3 rfl (oAddC oc_i6) (Nat.le_of_ble_eq_true rfl) rfl rfl ?_
                                            refine oRun.goto 18 dL_law_1654 rfl ?_
                                            cases h
                                            refine oRun.sub [1, 2, 3, 0] rfl ?_
                                            exact hc _ rfl
                                          · replace h := oIn c823 h
                                            refine oRun.if_eq_f 826 dL_law_823 rfl (mt (oLc_eq _ _).mp c823) rfl ?_
                                            refine oRun.iconst 827 dL_law_826 oc_i0 rfl ?_
                                            cases h
                                            obtain ⟨hr1, hr2⟩ := hx _ rfl
                                            rw [hr1, hr2]
                                            exact oRun.ret (r := some (.int 0)) dL_law_827
                                        · replace h := oIn c33_17 h
                                          by_cases c33_18 : v33 = 18
                                          · replace h := oIp c33_18 h
                                            refine oRun.tsin 828 dL_law_33 (q := 18) (by rw [c33_18]; rfl) (by decide) (by decide) rfl rfl ?_
                                            refine oRun.aload_n 829 dL_law_828 1 rfl rfl (Nat.le_of_ble_eq_true rfl) rfl ?_
                                            refine oRun.aload_n 830 dL_law_829 0 rfl rfl (Nat.le_of_ble_eq_true rfl) rfl ?_
                                            refine oRun.iload_n 831 dL_law_830 3 rfl rfl rfl ?_
                                            refine oRun.iconst 832 dL_law_831 oc_i1 rfl ?_
                                            refine oRun.iadd 833 dL_law_832 rfl ?_
                                            obtain ⟨v833, hv833, h⟩ := oB1 h
                                            obtain ⟨hz833, hv833⟩ := oXA_ok hv833
                                            refine oRun.sload 834 dL_law_833 hz833 rfl ?_
                                            refine oRun.nameI hv833 ?_
                                            refine oRun.aload_n 835 dL_law_834 0 rfl rfl (Nat.le_of_ble_eq_true rfl) rfl ?_
                                            refine oRun.iload_n 836 dL_law_835 3 rfl rfl rfl ?_
                                            refine oRun.iconst 837 dL_law_836 oc_i2 rfl ?_
                                            refine oRun.iadd 838 dL_law_837 rfl ?_
                                            obtain ⟨v838, hv838, h⟩ := oB1 h
                                            obtain ⟨hz838, hv838⟩ := oXA_ok hv838
                                            refine oRun.sload 839 dL_law_838 hz838 rfl ?_
                                            refine oRun.nameI hv838 ?_
                                            obtain ⟨r839, hr839, h⟩ := oB1 h
                                            refine oRun.callV (as := [.int v833, .int v838]) 842 dL_law_839 lk_RL_91 (oFit_i (Nat.le_of_ble_eq_true rfl) (Nat.le_of_ble_eq_true rfl)) rfl rfl rfl rfl (Nat.le_of_ble_eq_true rfl) (Nat.le_of_ble_eq_true rfl) rfl (E_X8_backlash hr839) rfl ?_
                                            show oRun G _ 842 _ [.long r839] _ _ _
                                            refine oRun.aload_n 843 dL_law_842 2 rfl rfl (Nat.le_of_ble_eq_true rfl) rfl ?_
                                            refine oRun.aload_n 844 dL_law_843 0 rfl rfl (Nat.le_of_ble_eq_true rfl) rfl ?_
                                            refine oRun.iload_n 845 dL_law_844 3 rfl rfl rfl ?_
                                            refine oRun.iconst 846 dL_law_845 oc_i1 rfl ?_
                                            refine oRun.iadd 847 dL_law_846 rfl ?_
                                            obtain ⟨v847, hv847, h⟩ := oB1 h
                                            obtain ⟨hz847, hv847⟩ := oXA_ok hv847
                                            refine oRun.sload 848 dL_law_847 hz847 rfl ?_
                                            refine oRun.nameI hv847 ?_
                                            refine oRun.aload_n 849 dL_law_848 0 rfl rfl (Nat.le_of_ble_eq_true rfl) rfl ?_
                                            refine oRun.iload_n 850 dL_law_849 3 rfl rfl rfl ?_
                                            refine oRun.iconst 851 dL_law_850 oc_i2 rfl ?_
                                            refine oRun.iadd 852 dL_law_851 rfl ?_
                                            obtain ⟨v852, hv852, h⟩ := oB1 h
                                            obtain ⟨hz852, hv852⟩ := oXA_ok hv852
                                            refine oRun.sload 853 dL_law_852 hz852 rfl ?_
                                            refine oRun.nameI hv852 ?_
                                            obtain ⟨r853, hr853, h⟩ := oB1 h
                                            refine oRun.callV (as := [.int v847, .int v852]) 856 dL_law_853 lk_RL_94 (oFit_i (Nat.le_of_ble_eq_true rfl) (Nat.le_of_ble_eq_true rfl)) rfl rfl rfl rfl (Nat.le_of_ble_eq_true rfl) (Nat.le_of_ble_eq_true rfl) rfl (E_X9_backlash hr853) rfl ?_
                                            show oRun G _ 856 _ [.long r853, .long r839] _ _ _
                                            refine oRun.lcmp 857 dL_law_856 rfl ?_
                                            by_cases c857 : r839 = r853
                                            · replace h := oIp c857 h
                                              refine oRun.if_eq_t 1651 dL_law_857 ((oLc_eq _ _).mpr c857) rfl ?_
                                              refine oRun.iinc 1654 dL_law_1651 3 rfl (oAddC oc_i6) (Nat.le_of_ble_eq_true rfl) rfl rfl ?_
                                              refine oRun.goto 18 dL_law_1654 rfl ?_
                                              cases h
                                              refine oRun.sub [1, 2, 3, 0] rfl ?_
                                              exact hc _ rfl
                                            · replace h := oIn c857 h
                                              refine oRun.if_eq_f 860 dL_law_857 rfl (mt (oLc_eq _ _).mp c857) rfl ?_
                                              refine oRun.iconst 861 dL_law_860 oc_i0 rfl ?_
                                              cases h
                                              obtain ⟨hr1, hr2⟩ := hx _ rfl
                                              rw [hr1, hr2]
                                              exact oRun.ret (r := some (.int 0)) dL_law_861
                                          · replace h := oIn c33_18 h
                                            by_cases c33_19 : v33 = 19
                                            · replace h := oIp c33_19 h
                                              refine oRun.tsin 862 dL_law_33 (q := 19) (by rw [c33_19]; rfl) (by decide) (by decide) rfl rfl ?_
                                              refine oRun.aload_n 863 dL_law_862 1 rfl rfl (Nat.le_of_ble_eq_true rfl) rfl ?_
                                              refine oRun.aload_n 864 dL_law_863 0 rfl rfl (Nat.le_of_ble_eq_true rfl) rfl ?_
                                              refine oRun.iload_n 865 dL_law_864 3 rfl rfl rfl ?_
                                              refine oRun.iconst 866 dL_law_865 oc_i1 rfl ?_
                                              refine oRun.iadd 867 dL_law_866 rfl ?_
                                              obtain ⟨v867, hv867, h⟩ := oB1 h
                                              obtain ⟨hz867, hv867⟩ := oXA_ok hv867
                                              refine oRun.sload 868 dL_law_867 hz867 rfl ?_
                                              refine oRun.nameI hv867 ?_
                                              refine oRun.aload_n 869 dL_law_868 0 rfl rfl (Nat.le_of_ble_eq_true rfl) rfl ?_
                                              refine oRun.iload_n 870 dL_law_869 3 rfl rfl rfl ?_
                                              refine oRun.iconst 871 dL_law_870 oc_i2 rfl ?_
                                              refine oRun.iadd 872 dL_law_871 rfl ?_
                                              obtain ⟨v872, hv872, h⟩ := oB1 h
                                              obtain ⟨hz872, hv872⟩ := oXA_ok hv872
                                              refine oRun.sload 873 dL_law_872 hz872 rfl ?_
                                              refine oRun.nameI hv872 ?_
                                              obtain ⟨r873, hr873, h⟩ := oB1 h
                                              refine oRun.callV (as := [.int v867, .int v872]) 876 dL_law_873 lk_RL_95 (oFit_i (Nat.le_of_ble_eq_true rfl) (Nat.le_of_ble_eq_true rfl)) rfl rfl rfl rfl (Nat.le_of_ble_eq_true rfl) (Nat.le_of_ble_eq_true rfl) rfl (E_X8_share hr873) rfl ?_
                                              show oRun G _ 876 _ [.int r873] _ _ _
                                              refine oRun.aload_n 877 dL_law_876 2 rfl rfl (Nat.le_of_ble_eq_true rfl) rfl ?_
                                              refine oRun.aload_n 878 dL_law_877 0 rfl rfl (Nat.le_of_ble_eq_true rfl) rfl ?_
                                              refine oRun.iload_n 879 dL_law_878 3 rfl rfl rfl ?_
                                              refine oRun.iconst 880 dL_law_879 oc_i1 rfl ?_
                                              refine oRun.iadd 881 dL_law_880 rfl ?_
                                              obtain ⟨v881, hv881, h⟩ := oB1 h
                                              obtain ⟨hz881, hv881⟩ := oXA_ok hv881
                                              refine oRun.sload 882 dL_law_881 hz881 rfl ?_
                                              refine oRun.nameI hv881 ?_
                                              refine oRun.aload_n 883 dL_law_882 0 rfl rfl (Nat.le_of_ble_eq_true rfl) rfl ?_
                                              refine oRun.iload_n 884 dL_law_883 3 rfl rfl rfl ?_
                                              refine oRun.iconst 885 dL_law_884 oc_i2 rfl ?_
                                              refine oRun.iadd 886 dL_law_885 rfl ?_
                                              obtain ⟨v886, hv886, h⟩ := oB1 h
                                              obtain ⟨hz886, hv886⟩ := oXA_ok hv886
                                              refine oRun.sload 887 dL_law_886 hz886 rfl ?_
                                              refine oRun.nameI hv886 ?_
                                              obtain ⟨r887, hr887, h⟩ := oB1 h
                                              refine oRun.callV (as := [.int v881, .int v886]) 890 dL_law_887 lk_RL_98 (oFit_i (Nat.le_of_ble_eq_true rfl) (Nat.le_of_ble_eq_true rfl)) rfl rfl rfl rfl (Nat.le_of_ble_eq_true rfl) (Nat.le_of_ble_eq_true rfl) rfl (E_X9_share hr887) rfl ?_
                                              show oRun G _ 890 _ [.int r887, .int r873] _ _ _
                                              by_cases c890 : r873 = r887
                                              · replace h := oIp c890 h
                                                refine oRun.icmp_eq_t 1651 dL_law_890 c890 rfl ?_
                                                refine oRun.iinc 1654 dL_law_1651 3 rfl (oAddC oc_i6) (Nat.le_of_ble_eq_true rfl) rfl rfl ?_
                                                refine oRun.goto 18 dL_law_1654 rfl ?_
                                                cases h
                                                refine oRun.sub [1, 2, 3, 0] rfl ?_
                                                exact hc _ rfl
                                              · replace h := oIn c890 h
                                                refine oRun.icmp_eq_f 893 dL_law_890 rfl c890 rfl ?_
                                                refine oRun.iconst 894 dL_law_893 oc_i0 rfl ?_
                                                cases h
                                                obtain ⟨hr1, hr2⟩ := hx _ rfl
                                                rw [hr1, hr2]
                                                exact oRun.ret (r := some (.int 0)) dL_law_894
                                            · replace h := oIn c33_19 h
                                              by_cases c33_20 : v33 = 20
                                              · replace h := oIp c33_20 h
                                                refine oRun.tsin 895 dL_law_33 (q := 20) (by rw [c33_20]; rfl) (by decide) (by decide) rfl rfl ?_
                                                refine oRun.aload_n 896 dL_law_895 1 rfl rfl (Nat.le_of_ble_eq_true rfl) rfl ?_
                                                refine oRun.aload_n 897 dL_law_896 0 rfl rfl (Nat.le_of_ble_eq_true rfl) rfl ?_
                                                refine oRun.iload_n 898 dL_law_897 3 rfl rfl rfl ?_
                                                refine oRun.iconst 899 dL_law_898 oc_i1 rfl ?_
                                                refine oRun.iadd 900 dL_law_899 rfl ?_
                                                obtain ⟨v900, hv900, h⟩ := oB1 h
                                                obtain ⟨hz900, hv900⟩ := oXA_ok hv900
                                                refine oRun.sload 901 dL_law_900 hz900 rfl ?_
                                                refine oRun.nameI hv900 ?_
                                                refine oRun.aload_n 902 dL_law_901 0 rfl rfl (Nat.le_of_ble_eq_true rfl) rfl ?_
                                                refine oRun.iload_n 903 dL_law_902 3 rfl rfl rfl ?_
                                                refine oRun.iconst 904 dL_law_903 oc_i2 rfl ?_
                                                refine oRun.iadd 905 dL_law_904 rfl ?_
                                                obtain ⟨v905, hv905, h⟩ := oB1 h
                                                obtain ⟨hz905, hv905⟩ := oXA_ok hv905
                                                refine oRun.sload 906 dL_law_905 hz905 rfl ?_
                                                refine oRun.nameI hv905 ?_
                                                obtain ⟨r906, hr906, h⟩ := oB1 h
                                                refine oRun.callV (as := [.int v900, .int v905]) 909 dL_law_906 lk_RL_99 (oFit_i (Nat.le_of_ble_eq_true rfl) (Nat.le_of_ble_eq_true rfl)) rfl rfl rfl rfl (Nat.le_of_ble_eq_true rfl) (Nat.le_of_ble_eq_true rfl) rfl (E_X8_order hr906) rfl ?_
                                                show oRun G _ 909 _ [.int r906.1] _ _ _
                                                refine oRun.aload_n 910 dL_law_909 2 rfl rfl (Nat.le_of_ble_eq_true rfl) rfl ?_
                                                refine oRun.aload_n 911 dL_law_910 0 rfl rfl (Nat.le_of_ble_eq_true rfl) rfl ?_
                                                refine oRun.iload_n 912 dL_law_911 3 rfl rfl rfl ?_
                                                refine oRun.iconst 913 dL_law_912 oc_i1 rfl ?_
                                                refine oRun.iadd 914 dL_law_913 rfl ?_
                                                obtain ⟨v914, hv914, h⟩ := oB1 h
                                                obtain ⟨hz914, hv914⟩ := oXA_ok hv914
                                                refine oRun.sload 915 dL_law_914 hz914 rfl ?_
                                                refine oRun.nameI hv914 ?_
                                                refine oRun.aload_n 916 dL_law_915 0 rfl rfl (Nat.le_of_ble_eq_true rfl) rfl ?_
                                                refine oRun.iload_n 917 dL_law_916 3 rfl rfl rfl ?_
                                                refine oRun.iconst 918 dL_law_917 oc_i2 rfl ?_
                                                refine oRun.iadd 919 dL_law_918 rfl ?_
                                                obtain ⟨v919, hv919, h⟩ := oB1 h
                                                obtain ⟨hz919, hv919⟩ := oXA_ok hv919
                                                refine oRun.sload 920 dL_law_919 hz919 rfl ?_
                                                refine oRun.nameI hv919 ?_
                                                obtain ⟨r920, hr920, h⟩ := oB1 h
                                                refine oRun.callV (as := [.int v914, .int v919]) 923 dL_law_920 lk_RL_102 (oFit_i (Nat.le_of_ble_eq_true rfl) (Nat.le_of_ble_eq_true rfl)) rfl rfl rfl rfl (Nat.le_of_ble_eq_true rfl) (Nat.le_of_ble_eq_true rfl) rfl (E_X9_order hr920) rfl ?_
                                                show oRun G _ 923 _ [.int r920.1, .int r906.1] _ _ _
                                                by_cases c923 : r906.1 = r920.1
                                                · replace h := oIp c923 h
                                                  refine oRun.icmp_eq_t 1651 dL_law_923 c923 rfl ?_
                                                  refine oRun.iinc 1654 dL_law_1651 3 rfl (oAddC oc_i6) (Nat.le_of_ble_eq_true rfl) rfl rfl ?_
                                                  refine oRun.goto 18 dL_law_1654 rfl ?_
                                                  cases h
                                                  refine oRun.sub [1, 2, 3, 0] rfl ?_
                                                  exact hc _ rfl
                                                · replace h := oIn c923 h
                                                  refine oRun.icmp_eq_f 926 dL_law_923 rfl c923 rfl ?_
                                                  refine oRun.iconst 927 dL_law_926 oc_i0 rfl ?_
                                                  cases h
                                                  obtain ⟨hr1, hr2⟩ := hx _ rfl
                                                  rw [hr1, hr2]
                                                  exact oRun.ret (r := some (.int 0)) dL_law_927
                                              · replace h := oIn c33_20 h
                                                by_cases c33_21 : v33 = 21
                                                · replace h := oIp c33_21 h
                                                  refine oRun.tsin 928 dL_law_33 (q := 21) (by rw [c33_21]; rfl) (by decide) (by decide) rfl rfl ?_
                                                  refine oRun.aload_n 929 dL_law_928 1 rfl rfl (Nat.le_of_ble_eq_true rfl) rfl ?_
                                                  refine oRun.aload_n 930 dL_law_929 0 rfl rfl (Nat.le_of_ble_eq_true rfl) rfl ?_
                                                  refine oRun.iload_n 931 dL_law_930 3 rfl rfl rfl ?_
                                                  refine oRun.iconst 932 dL_law_931 oc_i1 rfl ?_
                                                  refine oRun.iadd 933 dL_law_932 rfl ?_
                                                  obtain ⟨v933, hv933, h⟩ := oB1 h
                                                  obtain ⟨hz933, hv933⟩ := oXA_ok hv933
                                                  refine oRun.sload 934 dL_law_933 hz933 rfl ?_
                                                  refine oRun.nameI hv933 ?_
                                                  refine oRun.aload_n 935 dL_law_934 0 rfl rfl (Nat.le_of_ble_eq_true rfl) rfl ?_
                                                  refine oRun.iload_n 936 dL_law_935 3 rfl rfl rfl ?_
                                                  refine oRun.iconst 937 dL_law_936 oc_i2 rfl ?_
                                                  refine oRun.iadd 938 dL_law_937 rfl ?_
                                                  obtain ⟨v938, hv938, h⟩ := oB1 h
                                                  obtain ⟨hz938, hv938⟩ := oXA_ok hv938
                                                  refine oRun.sload 939 dL_law_938 hz938 rfl ?_
                                                  refine oRun.nameI hv938 ?_
                                                  obtain ⟨r939, hr939, h⟩ := oB1 h
                                                  refine oRun.callV (as := [.int v933, .int v938]) 942 dL_law_939 lk_RL_103 (oFit_i (Nat.le_of_ble_eq_true rfl) (Nat.le_of_ble_eq_true rfl)) rfl rfl rfl rfl (Nat.le_of_ble_eq_true rfl) (Nat.le_of_ble_eq_true rfl) rfl (E_X8_found hr939) rfl ?_
                                                  show oRun G _ 942 _ [.int r939.1] _ _ _
                                                  refine oRun.aload_n 943 dL_law_942 2 rfl rfl (Nat.le_of_ble_eq_true rfl) rfl ?_
                                                  refine oRun.aload_n 944 dL_law_943 0 rfl rfl (Nat.le_of_ble_eq_true rfl) rfl ?_
                                                  refine oRun.iload_n 945 dL_law_944 3 rfl rfl rfl ?_
                                                  refine oRun.iconst 946 dL_law_945 oc_i1 rfl ?_
                                                  refine oRun.iadd 947 dL_law_946 rfl ?_
                                                  obtain ⟨v947, hv947, h⟩ := oB1 h
                                                  obtain ⟨hz947, hv947⟩ := oXA_ok hv947
                                                  refine oRun.sload 948 dL_law_947 hz947 rfl ?_
                                                  refine oRun.nameI hv947 ?_
                                                  refine oRun.aload_n 949 dL_law_948 0 rfl rfl (Nat.le_of_ble_eq_true rfl) rfl ?_
                                                  refine oRun.iload_n 950 dL_law_949 3 rfl rfl rfl ?_
                                                  refine oRun.iconst 951 dL_law_950 oc_i2 rfl ?_
                                                  refine oRun.iadd 952 dL_law_951 rfl ?_
                                                  obtain ⟨v952, hv952, h⟩ := oB1 h
                                                  obtain ⟨hz952, hv952⟩ := oXA_ok hv952
                                                  refine oRun.sload 953 dL_law_952 hz952 rfl ?_
                                                  refine oRun.nameI hv952 ?_
                                                  obtain ⟨r953, hr953, h⟩ := oB1 h
                                                  refine oRun.callV (as := [.int v947, .int v952]) 956 dL_law_953 lk_RL_106 (oFit_i (Nat.le_of_ble_eq_true rfl) (Nat.le_of_ble_eq_true rfl)) rfl rfl rfl rfl (Nat.le_of_ble_eq_true rfl) (Nat.le_of_ble_eq_true rfl) rfl (E_X9_found hr953) rfl ?_
                                                  show oRun G _ 956 _ [.int r953.1, .int r939.1] _ _ _
                                                  by_cases c956 : r939.1 = r953.1
                                                  · replace h := oIp c956 h
                                                    refine oRun.icmp_eq_t 1651 dL_law_956 c956 rfl ?_
                                                    refine oRun.iinc 1654 dL_law_1651 3 rfl (oAddC oc_i6) (Nat.le_of_ble_eq_true rfl) rfl rfl ?_
                                                    refine oRun.goto 18 dL_law_1654 rfl ?_
                                                    cases h
                                                    refine oRun.sub [1, 2, 3, 0] rfl ?_
                                                    exact hc _ rfl
                                                  · replace h := oIn c956 h
                                                    refine oRun.icmp_eq_f 959 dL_law_956 rfl c956 rfl ?_
                                                    refine oRun.iconst 960 dL_law_959 oc_i0 rfl ?_
                                                    cases h
                                                    obtain ⟨hr1, hr2⟩ := hx _ rfl
                                                    rw [hr1, hr2]
                                                    exact oRun.ret (r := some (.int 0)) dL_law_960
                                                · replace h := oIn c33_21 h
                                                  by_cases c33_22 : v33 = 22
                                                  · replace h := oIp c33_22 h
                                                    refine oRun.tsin 961 dL_law_33 (q := 22) (by rw [c33_22]; rfl) (by decide) (by decide) rfl rfl ?_
                                                    refine oRun.aload_n 962 dL_law_961 1 rfl rfl (Nat.le_of_ble_eq_true rfl) rfl ?_
                                                    refine oRun.aload_n 963 dL_law_962 0 rfl rfl (Nat.le_of_ble_eq_true rfl) rfl ?_
                                                    refine oRun.iload_n 964 dL_law_963 3 rfl rfl rfl ?_
                                                    refine oRun.iconst 965 dL_law_964 oc_i1 rfl ?_
                                                    refine oRun.iadd 966 dL_law_965 rfl ?_
                                                    obtain ⟨v966, hv966, h⟩ := oB1 h
                                                    obtain ⟨hz966, hv966⟩ := oXA_ok hv966
                                                    refine oRun.sload 967 dL_law_966 hz966 rfl ?_
                                                    refine oRun.nameI hv966 ?_
                                                    refine oRun.aload_n 968 dL_law_967 0 rfl rfl (Nat.le_of_ble_eq_true rfl) rfl ?_
                                                    refine oRun.iload_n 969 dL_law_968 3 rfl rfl rfl ?_
                                                    refine oRun.iconst 970 dL_law_969 oc_i2 rfl ?_
                                                    refine oRun.iadd 971 dL_law_970 rfl ?_
                                                    obtain ⟨v971, hv971, h⟩ := oB1 h
                                                    obtain ⟨hz971, hv971⟩ := oXA_ok hv971
                                                    refine oRun.sload 972 dL_law_971 hz971 rfl ?_
                                                    refine oRun.nameI hv971 ?_
                                                    obtain ⟨r972, hr972, h⟩ := oB1 h
                                                    refine oRun.callV (as := [.int v966, .int v971]) 975 dL_law_972 lk_RL_107 (oFit_i (Nat.le_of_ble_eq_true rfl) (Nat.le_of_ble_eq_true rfl)) rfl rfl rfl rfl (Nat.le_of_ble_eq_true rfl) (Nat.le_of_ble_eq_true rfl) rfl (E_X8_foundWrong hr972) rfl ?_
                                                    show oRun G _ 975 _ [.long r972.1] _ _ _
                                                    refine oRun.aload_n 976 dL_law_975 2 rfl rfl (Nat.le_of_ble_eq_true rfl) rfl ?_
                                                    refine oRun.aload_n 977 dL_law_976 0 rfl rfl (Nat.le_of_ble_eq_true rfl) rfl ?_
                                                    refine oRun.iload_n 978 dL_law_977 3 rfl rfl rfl ?_
                                                    refine oRun.iconst 979 dL_law_978 oc_i1 rfl ?_
                                                    refine oRun.iadd 980 dL_law_979 rfl ?_
                                                    obtain ⟨v980, hv980, h⟩ := oB1 h
                                                    obtain ⟨hz980, hv980⟩ := oXA_ok hv980
                                                    refine oRun.sload 981 dL_law_980 hz980 rfl ?_
                                                    refine oRun.nameI hv980 ?_
                                                    refine oRun.aload_n 982 dL_law_981 0 rfl rfl (Nat.le_of_ble_eq_true rfl) rfl ?_
                                                    refine oRun.iload_n 983 dL_law_982 3 rfl rfl rfl ?_
                                                    refine oRun.iconst 984 dL_law_983 oc_i2 rfl ?_
                                                    refine oRun.iadd 985 dL_law_984 rfl ?_
                                                    obtain ⟨v985, hv985, h⟩ := oB1 h
                                                    obtain ⟨hz985, hv985⟩ := oXA_ok hv985
                                                    refine oRun.sload 986 dL_law_985 hz985 rfl ?_
                                                    refine oRun.nameI hv985 ?_
                                                    obtain ⟨r986, hr986, h⟩ := oB1 h
                                                    refine oRun.callV (as := [.int v980, .int v985]) 989 dL_law_986 lk_RL_110 (oFit_i (Nat.le_of_ble_eq_true rfl) (Nat.le_of_ble_eq_true rfl)) rfl rfl rfl rfl (Nat.le_of_ble_eq_true rfl) (Nat.le_of_ble_eq_true rfl) rfl (E_X9_foundWrong hr986) rfl ?_
                                                    show oRun G _ 989 _ [.long r986.1, .long r972.1] _ _ _
                                                    refine oRun.lcmp 990 dL_law_989 rfl ?_
                                                    by_cases c990 : r972.1 = r986.1
                                                    · replace h := oIp c990 h
                                                      refine oRun.if_eq_t 1651 dL_law_990 ((oLc_eq _ _).mpr c990) rfl ?_
                                                      refine oRun.iinc 1654 dL_law_1651 3 rfl (oAddC oc_i6) (Nat.le_of_ble_eq_true rfl) rfl rfl ?_
                                                      refine oRun.goto 18 dL_law_1654 rfl ?_
                                                      cases h
                                                      refine oRun.sub [1, 2, 3, 0] rfl ?_
                                                      exact hc _ rfl
                                                    · replace h := oIn c990 h
                                                      refine oRun.if_eq_f 993 dL_law_990 rfl (mt (oLc_eq _ _).mp c990) rfl ?_
                                                      refine oRun.iconst 994 dL_law_993 oc_i0 rfl ?_
                                                      cases h
                                                      obtain ⟨hr1, hr2⟩ := hx _ rfl
                                                      rw [hr1, hr2]
                                                      exact oRun.ret (r := some (.int 0)) dL_law_994
                                                  · replace h := oIn c33_22 h
                                                    by_cases c33_23 : v33 = 23
                                                    · replace h := oIp c33_23 h
                                                      refine oRun.tsin 995 dL_law_33 (q := 23) (by rw [c33_23]; rfl) (by decide) (by decide) rfl rfl ?_
                                                      refine oRun.aload_n 996 dL_law_995 1 rfl rfl (Nat.le_of_ble_eq_true rfl) rfl ?_
                                                      refine oRun.aload_n 997 dL_law_996 0 rfl rfl (Nat.le_of_ble_eq_true rfl) rfl ?_
                                                      refine oRun.iload_n 998 dL_law_997 3 rfl rfl rfl ?_
                                                      refine oRun.iconst 999 dL_law_998 oc_i1 rfl ?_
                                                      refine oRun.iadd 1000 dL_law_999 rfl ?_
                                                      obtain ⟨v1000, hv1000, h⟩ := oB1 h
                                                      obtain ⟨hz1000, hv1000⟩ := oXA_ok hv1000
                                                      refine oRun.sload 1001 dL_law_1000 hz1000 rfl ?_
                                                      refine oRun.nameI hv1000 ?_
                                                      obtain ⟨r1001, hr1001, h⟩ := oB1 h
                                                      refine oRun.callV (as := [.int v1000]) 1004 dL_law_1001 lk_RL_111 (oFit_i (Nat.le_of_ble_eq_true rfl) (Nat.le_of_ble_eq_true rfl)) rfl rfl rfl rfl (Nat.le_of_ble_eq_true rfl) (Nat.le_of_ble_eq_true rfl) rfl (E_X8_turn hr1001) rfl ?_
                                                      show oRun G _ 1004 _ [.int r1001.1] _ _ _
                                                      refine oRun.aload_n 1005 dL_law_1004 2 rfl rfl (Nat.le_of_ble_eq_true rfl) rfl ?_
                                                      refine oRun.aload_n 1006 dL_law_1005 0 rfl rfl (Nat.le_of_ble_eq_true rfl) rfl ?_
                                                      refine oRun.iload_n 1007 dL_law_1006 3 rfl rfl rfl ?_
                                                      refine oRun.iconst 1008 dL_law_1007 oc_i1 rfl ?_
                                                      refine oRun.iadd 1009 dL_law_1008 rfl ?_
                                                      obtain ⟨v1009, hv1009, h⟩ := oB1 h
                                                      obtain ⟨hz1009, hv1009⟩ := oXA_ok hv1009
                                                      refine oRun.sload 1010 dL_law_1009 hz1009 rfl ?_
                                                      refine oRun.nameI hv1009 ?_
                                                      obtain ⟨r1010, hr1010, h⟩ := oB1 h
                                                      refine oRun.callV (as := [.int v1009]) 1013 dL_law_1010 lk_RL_114 (oFit_i (Nat.le_of_ble_eq_true rfl) (Nat.le_of_ble_eq_true rfl)) rfl rfl rfl rfl (Nat.le_of_ble_eq_true rfl) (Nat.le_of_ble_eq_true rfl) rfl (E_X9_turn hr1010) rfl ?_
                                                      show oRun G _ 1013 _ [.int r1010.1, .int r1001.1] _ _ _
                                                      by_cases c1013 : r1001.1 = r1010.1
                                                      · replace h := oIp c1013 h
                                                        refine oRun.icmp_eq_t 1651 dL_law_1013 c1013 rfl ?_
                                                        refine oRun.iinc 1654 dL_law_1651 3 rfl (oAddC oc_i6) (Nat.le_of_ble_eq_true rfl) rfl rfl ?_
                                                        refine oRun.goto 18 dL_law_1654 rfl ?_
                                                        cases h
                                                        refine oRun.sub [1, 2, 3, 0] rfl ?_
                                                        exact hc _ rfl
                                                      · replace h := oIn c1013 h
                                                        refine oRun.icmp_eq_f 1016 dL_law_1013 rfl c1013 rfl ?_
                                                        refine oRun.iconst 1017 dL_law_1016 oc_i0 rfl ?_
                                                        cases h
                                                        obtain ⟨hr1, hr2⟩ := hx _ rfl
                                                        rw [hr1, hr2]
                                                        exact oRun.ret (r := some (.int 0)) dL_law_1017
                                                    · replace h := oIn c33_23 h
                                                      by_cases c33_24 : v33 = 24
                                                      · replace h := oIp c33_24 h
                                                        refine oRun.tsin 1018 dL_law_33 (q := 24) (by rw [c33_24]; rfl) (by decide) (by decide) rfl rfl ?_
                                                        refine oRun.aload_n 1019 dL_law_1018 1 rfl rfl (Nat.le_of_ble_eq_true rfl) rfl ?_
                                                        refine oRun.aload_n 1020 dL_law_1019 0 rfl rfl (Nat.le_of_ble_eq_true rfl) rfl ?_
                                                        refine oRun.iload_n 1021 dL_law_1020 3 rfl rfl rfl ?_
                                                        refine oRun.iconst 1022 dL_law_1021 oc_i1 rfl ?_
                                                        refine oRun.iadd 1023 dL_law_1022 rfl ?_
                                                        obtain ⟨v1023, hv1023, h⟩ := oB1 h
                                                        obtain ⟨hz1023, hv1023⟩ := oXA_ok hv1023
                                                        refine oRun.sload 1024 dL_law_1023 hz1023 rfl ?_
                                                        refine oRun.nameI hv1023 ?_
                                                        obtain ⟨r1024, hr1024, h⟩ := oB1 h
                                                        refine oRun.callV (as := [.int v1023]) 1027 dL_law_1024 lk_RL_115 (oFit_i (Nat.le_of_ble_eq_true rfl) (Nat.le_of_ble_eq_true rfl)) rfl rfl rfl rfl (Nat.le_of_ble_eq_true rfl) (Nat.le_of_ble_eq_true rfl) rfl (E_X8_crank hr1024) rfl ?_
                                                        show oRun G _ 1027 _ [.int r1024] _ _ _
                                                        refine oRun.aload_n 1028 dL_law_1027 2 rfl rfl (Nat.le_of_ble_eq_true rfl) rfl ?_
                                                        refine oRun.aload_n 1029 dL_law_1028 0 rfl rfl (Nat.le_of_ble_eq_true rfl) rfl ?_
                                                        refine oRun.iload_n 1030 dL_law_1029 3 rfl rfl rfl ?_
                                                        refine oRun.iconst 1031 dL_law_1030 oc_i1 rfl ?_
                                                        refine oRun.iadd 1032 dL_law_1031 rfl ?_
                                                        obtain ⟨v1032, hv1032, h⟩ := oB1 h
                                                        obtain ⟨hz1032, hv1032⟩ := oXA_ok hv1032
                                                        refine oRun.sload 1033 dL_law_1032 hz1032 rfl ?_
                                                        refine oRun.nameI hv1032 ?_
                                                        obtain ⟨r1033, hr1033, h⟩ := oB1 h
                                                        refine oRun.callV (as := [.int v1032]) 1036 dL_law_1033 lk_RL_118 (oFit_i (Nat.le_of_ble_eq_true rfl) (Nat.le_of_ble_eq_true rfl)) rfl rfl rfl rfl (Nat.le_of_ble_eq_true rfl) (Nat.le_of_ble_eq_true rfl) rfl (E_X9_crank hr1033) rfl ?_
                                                        show oRun G _ 1036 _ [.int r1033, .int r1024] _ _ _
                                                        by_cases c1036 : r1024 = r1033
                                                        · replace h := oIp c1036 h
                                                          refine oRun.icmp_eq_t 1651 dL_law_1036 c1036 rfl ?_
                                                          refine oRun.iinc 1654 dL_law_1651 3 rfl (oAddC oc_i6) (Nat.le_of_ble_eq_true rfl) rfl rfl ?_
                                                          refine oRun.goto 18 dL_law_1654 rfl ?_
                                                          cases h
                                                          refine oRun.sub [1, 2, 3, 0] rfl ?_
                                                          exact hc _ rfl
                                                        · replace h := oIn c1036 h
                                                          refine oRun.icmp_eq_f 1039 dL_law_1036 rfl c1036 rfl ?_
                                                          refine oRun.iconst 1040 dL_law_1039 oc_i0 rfl ?_
                                                          cases h
                                                          obtain ⟨hr1, hr2⟩ := hx _ rfl
                                                          rw [hr1, hr2]
                                                          exact oRun.ret (r := some (.int 0)) dL_law_1040
                                                      · replace h := oIn c33_24 h
                                                        by_cases c33_25 : v33 = 25
                                                        · replace h := oIp c33_25 h
                                                          refine oRun.tsin 1041 dL_law_33 (q := 25) (by rw [c33_25]; rfl) (by decide) (by decide) rfl rfl ?_
                                                          refine oRun.aload_n 1042 dL_law_1041 1 rfl rfl (Nat.le_of_ble_eq_true rfl) rfl ?_
                                                          refine oRun.aload_n 1043 dL_law_1042 0 rfl rfl (Nat.le_of_ble_eq_true rfl) rfl ?_
                                                          refine oRun.iload_n 1044 dL_law_1043 3 rfl rfl rfl ?_
                                                          refine oRun.iconst 1045 dL_law_1044 oc_i1 rfl ?_
                                                          refine oRun.iadd 1046 dL_law_1045 rfl ?_
                                                          obtain ⟨v1046, hv1046, h⟩ := oB1 h
                                                          obtain ⟨hz1046, hv1046⟩ := oXA_ok hv1046
                                                          refine oRun.sload 1047 dL_law_1046 hz1046 rfl ?_
                                                          refine oRun.nameI hv1046 ?_
                                                          obtain ⟨r1047, hr1047, h⟩ := oB1 h
                                                          refine oRun.callV (as := [.int v1046]) 1050 dL_law_1047 lk_RL_119 (oFit_i (Nat.le_of_ble_eq_true rfl) (Nat.le_of_ble_eq_true rfl)) rfl rfl rfl rfl (Nat.le_of_ble_eq_true rfl) (Nat.le_of_ble_eq_true rfl) rfl (E_X8_stands hr1047) rfl ?_
                                                          show oRun G _ 1050 _ [.long r1047] _ _ _
                                                          refine oRun.aload_n 1051 dL_law_1050 2 rfl rfl (Nat.le_of_ble_eq_true rfl) rfl ?_
                                                          refine oRun.aload_n 1052 dL_law_1051 0 rfl rfl (Nat.le_of_ble_eq_true rfl) rfl ?_
                                                          refine oRun.iload_n 1053 dL_law_1052 3 rfl rfl rfl ?_
                                                          refine oRun.iconst 1054 dL_law_1053 oc_i1 rfl ?_
                                                          refine oRun.iadd 1055 dL_law_1054 rfl ?_
                                                          obtain ⟨v1055, hv1055, h⟩ := oB1 h
                                                          obtain ⟨hz1055, hv1055⟩ := oXA_ok hv1055
                                                          refine oRun.sload 1056 dL_law_1055 hz1055 rfl ?_
                                                          refine oRun.nameI hv1055 ?_
                                                          obtain ⟨r1056, hr1056, h⟩ := oB1 h
                                                          refine oRun.callV (as := [.int v1055]) 1059 dL_law_1056 lk_RL_123 (oFit_i (Nat.le_of_ble_eq_true rfl) (Nat.le_of_ble_eq_true rfl)) rfl rfl rfl rfl (Nat.le_of_ble_eq_true rfl) (Nat.le_of_ble_eq_true rfl) rfl (E_X9_stands hr1056) rfl ?_
                                                          show oRun G _ 1059 _ [.long r1056, .long r1047] _ _ _
                                                          refine oRun.lcmp 1060 dL_law_1059 rfl ?_
                                                          by_cases c1060 : r1047 = r1056
                                                          · replace h := oIp c1060 h
                                                            refine oRun.if_eq_t 1651 dL_law_1060 ((oLc_eq _ _).mpr c1060) rfl ?_
                                                            refine oRun.iinc 1654 dL_law_1651 3 rfl (oAddC oc_i6) (Nat.le_of_ble_eq_true rfl) rfl rfl ?_
                                                            refine oRun.goto 18 dL_law_1654 rfl ?_
                                                            cases h
                                                            refine oRun.sub [1, 2, 3, 0] rfl ?_
                                                            exact hc _ rfl
                                                          · replace h := oIn c1060 h
                                                            refine oRun.if_eq_f 1063 dL_law_1060 rfl (mt (oLc_eq _ _).mp c1060) rfl ?_
                                                            refine oRun.iconst 1064 dL_law_1063 oc_i0 rfl ?_
                                                            cases h
                                                            obtain ⟨hr1, hr2⟩ := hx _ rfl
                                                            rw [hr1, hr2]
                                                            exact oRun.ret (r := some (.int 0)) dL_law_1064
                                                        · replace h := oIn c33_25 h
                                                          by_cases c33_26 : v33 = 26
                                                          · replace h := oIp c33_26 h
                                                            refine oRun.tsin 1065 dL_law_33 (q := 26) (by rw [c33_26]; rfl) (by decide) (by decide) rfl rfl ?_
                                                            refine oRun.aload_n 1066 dL_law_1065 1 rfl rfl (Nat.le_of_ble_eq_true rfl) rfl ?_
                                                            refine oRun.aload_n 1067 dL_law_1066 0 rfl rfl (Nat.le_of_ble_eq_true rfl) rfl ?_
                                                            refine oRun.iload_n 1068 dL_law_1067 3 rfl rfl rfl ?_
                                                            refine oRun.iconst 1069 dL_law_1068 oc_i1 rfl ?_
                                                            refine oRun.iadd 1070 dL_law_1069 rfl ?_
                                                            obtain ⟨v1070, hv1070, h⟩ := oB1 h
                                                            obtain ⟨hz1070, hv1070⟩ := oXA_ok hv1070
                                                            refine oRun.sload 1071 dL_law_1070 hz1070 rfl ?_
                                                            refine oRun.nameI hv1070 ?_
                                                            refine oRun.aload_n 1072 dL_law_1071 0 rfl rfl (Nat.le_of_ble_eq_true rfl) rfl ?_
                                                            refine oRun.iload_n 1073 dL_law_1072 3 rfl rfl rfl ?_
                                                            refine oRun.iconst 1074 dL_law_1073 oc_i2 rfl ?_
                                                            refine oRun.iadd 1075 dL_law_1074 rfl ?_
                                                            obtain ⟨v1075, hv1075, h⟩ := oB1 h
                                                            obtain ⟨hz1075, hv1075⟩ := oXA_ok hv1075
                                                            refine oRun.sload 1076 dL_law_1075 hz1075 rfl ?_
                                                            refine oRun.nameI hv1075 ?_
                                                            obtain ⟨r1076, hr1076, h⟩ := oB1 h
                                                            refine oRun.callV (as := [.int v1070, .int v1075]) 1079 dL_law_1076 lk_RL_124 (oFit_i (Nat.le_of_ble_eq_true rfl) (Nat.le_of_ble_eq_true rfl)) rfl rfl rfl rfl (Nat.le_of_ble_eq_true rfl) (Nat.le_of_ble_eq_true rfl) rfl (E_X8_meet hr1076) rfl ?_
                                                            show oRun G _ 1079 _ [.long r1076] _ _ _
                                                            refine oRun.aload_n 1080 dL_law_1079 2 rfl rfl (Nat.le_of_ble_eq_true rfl) rfl ?_
                                                            refine oRun.aload_n 1081 dL_law_1080 0 rfl rfl (Nat.le_of_ble_eq_true rfl) rfl ?_
                                                            refine oRun.iload_n 1082 dL_law_1081 3 rfl rfl rfl ?_
                                                            refine oRun.iconst 1083 dL_law_1082 oc_i1 rfl ?_
                                                            refine oRun.iadd 1084 dL_law_1083 rfl ?_
                                                            obtain ⟨v1084, hv1084, h⟩ := oB1 h
                                                            obtain ⟨hz1084, hv1084⟩ := oXA_ok hv1084
                                                            refine oRun.sload 1085 dL_law_1084 hz1084 rfl ?_
                                                            refine oRun.nameI hv1084 ?_
                                                            refine oRun.aload_n 1086 dL_law_1085 0 rfl rfl (Nat.le_of_ble_eq_true rfl) rfl ?_
                                                            refine oRun.iload_n 1087 dL_law_1086 3 rfl rfl rfl ?_
                                                            refine oRun.iconst 1088 dL_law_1087 oc_i2 rfl ?_
                                                            refine oRun.iadd 1089 dL_law_1088 rfl ?_
                                                            obtain ⟨v1089, hv1089, h⟩ := oB1 h
                                                            obtain ⟨hz1089, hv1089⟩ := oXA_ok hv1089
                                                            refine oRun.sload 1090 dL_law_1089 hz1089 rfl ?_
                                                            refine oRun.nameI hv1089 ?_
                                                            obtain ⟨r1090, hr1090, h⟩ := oB1 h
                                                            refine oRun.callV (as := [.int v1084, .int v1089]) 1093 dL_law_1090 lk_RL_127 (oFit_i (Nat.le_of_ble_eq_true rfl) (Nat.le_of_ble_eq_true rfl)) rfl rfl rfl rfl (Nat.le_of_ble_eq_true rfl) (Nat.le_of_ble_eq_true rfl) rfl (E_X9_meet hr1090) rfl ?_
                                                            show oRun G _ 1093 _ [.long r1090, .long r1076] _ _ _
                                                            refine oRun.lcmp 1094 dL_law_1093 rfl ?_
                                                            by_cases c1094 : r1076 = r1090
                                                            · replace h := oIp c1094 h
                                                              refine oRun.if_eq_t 1651 dL_law_1094 ((oLc_eq _ _).mpr c1094) rfl ?_
                                                              refine oRun.iinc 1654 dL_law_1651 3 rfl (oAddC oc_i6) (Nat.le_of_ble_eq_true rfl) rfl rfl ?_
                                                              refine oRun.goto 18 dL_law_1654 rfl ?_
                                                              cases h
                                                              refine oRun.sub [1, 2, 3, 0] rfl ?_
                                                              exact hc _ rfl
                                                            · replace h := oIn c1094 h
                                                              refine oRun.if_eq_f 1097 dL_law_1094 rfl (mt (oLc_eq _ _).mp c1094) rfl ?_
                                                              refine oRun.iconst 1098 dL_law_1097 oc_i0 rfl ?_
                                                              cases h
                                                              obtain ⟨hr1, hr2⟩ := hx _ rfl
                                                              rw [hr1, hr2]
                                                              exact oRun.ret (r := some (.int 0)) dL_law_1098
                                                          · replace h := oIn c33_26 h
                                                            by_cases c33_27 : v33 = 27
                                                            · replace h := oIp c33_27 h
                                                              refine oRun.tsin 1099 dL_law_33 (q := 27) (by rw [c33_27]; rfl) (by decide) (by decide) rfl rfl ?_
                                                              refine oRun.aload_n 1100 dL_law_1099 1 rfl rfl (Nat.le_of_ble_eq_true rfl) rfl ?_
                                                              refine oRun.aload_n 1101 dL_law_1100 0 rfl rfl (Nat.le_of_ble_eq_true rfl) rfl ?_
                                                              refine oRun.iload_n 1102 dL_law_1101 3 rfl rfl rfl ?_
                                                              refine oRun.iconst 1103 dL_law_1102 oc_i1 rfl ?_
                                                              refine oRun.iadd 1104 dL_law_1103 rfl ?_
                                                              obtain ⟨v1104, hv1104, h⟩ := oB1 h
                                                              obtain ⟨hz1104, hv1104⟩ := oXA_ok hv1104
                                                              refine oRun.sload 1105 dL_law_1104 hz1104 rfl ?_
                                                              refine oRun.nameI hv1104 ?_
                                                              refine oRun.aload_n 1106 dL_law_1105 0 rfl rfl (Nat.le_of_ble_eq_true rfl) rfl ?_
                                                              refine oRun.iload_n 1107 dL_law_1106 3 rfl rfl rfl ?_
                                                              refine oRun.iconst 1108 dL_law_1107 oc_i2 rfl ?_
                                                              refine oRun.iadd 1109 dL_law_1108 rfl ?_
                                                              obtain ⟨v1109, hv1109, h⟩ := oB1 h
                                                              obtain ⟨hz1109, hv1109⟩ := oXA_ok hv1109
                                                              refine oRun.sload 1110 dL_law_1109 hz1109 rfl ?_
                                                              refine oRun.nameI hv1109 ?_
                                                              refine oRun.aload_n 1111 dL_law_1110 0 rfl rfl (Nat.le_of_ble_eq_true rfl) rfl ?_
                                                              refine oRun.iload_n 1112 dL_law_1111 3 rfl rfl rfl ?_
                                                              refine oRun.iconst 1113 dL_law_1112 oc_i3 rfl ?_
                                                              refine oRun.iadd 1114 dL_law_1113 rfl ?_
                                                              obtain ⟨v1114, hv1114, h⟩ := oB1 h
                                                              obtain ⟨hz1114, hv1114⟩ := oXA_ok hv1114
                                                              refine oRun.sload 1115 dL_law_1114 hz1114 rfl ?_
                                                              refine oRun.nameI hv1114 ?_
                                                              obtain ⟨r1115, hr1115, h⟩ := oB1 h
                                                              refine oRun.callV (as := [.int v1104, .int v1109, .int v1114]) 1118 dL_law_1115 lk_RL_128 (oFit_i (Nat.le_of_ble_eq_true rfl) (Nat.le_of_ble_eq_true rfl)) rfl rfl rfl rfl (Nat.le_of_ble_eq_true rfl) (Nat.le_of_ble_eq_true rfl) rfl (E_X8_join hr1115) rfl ?_
                                                              show oRun G _ 1118 _ [.int r1115] _ _ _
                                                              refine oRun.aload_n 1119 dL_law_1118 2 rfl rfl (Nat.le_of_ble_eq_true rfl) rfl ?_
                                                              refine oRun.aload_n 1120 dL_law_1119 0 rfl rfl (Nat.le_of_ble_eq_true rfl) rfl ?_
                                                              refine oRun.iload_n 1121 dL_law_1120 3 rfl rfl rfl ?_
                                                              refine oRun.iconst 1122 dL_law_1121 oc_i1 rfl ?_
                                                              refine oRun.iadd 1123 dL_law_1122 rfl ?_
                                                              obtain ⟨v1123, hv1123, h⟩ := oB1 h
                                                              obtain ⟨hz1123, hv1123⟩ := oXA_ok hv1123
                                                              refine oRun.sload 1124 dL_law_1123 hz1123 rfl ?_
                                                              refine oRun.nameI hv1123 ?_
                                                              refine oRun.aload_n 1125 dL_law_1124 0 rfl rfl (Nat.le_of_ble_eq_true rfl) rfl ?_
                                                              refine oRun.iload_n 1126 dL_law_1125 3 rfl rfl rfl ?_
                                                              refine oRun.iconst 1127 dL_law_1126 oc_i2 rfl ?_
                                                              refine oRun.iadd 1128 dL_law_1127 rfl ?_
                                                              obtain ⟨v1128, hv1128, h⟩ := oB1 h
                                                              obtain ⟨hz1128, hv1128⟩ := oXA_ok hv1128
                                                              refine oRun.sload 1129 dL_law_1128 hz1128 rfl ?_
                                                              refine oRun.nameI hv1128 ?_
                                                              refine oRun.aload_n 1130 dL_law_1129 0 rfl rfl (Nat.le_of_ble_eq_true rfl) rfl ?_
                                                              refine oRun.iload_n 1131 dL_law_1130 3 rfl rfl rfl ?_
                                                              refine oRun.iconst 1132 dL_law_1131 oc_i3 rfl ?_
                                                              refine oRun.iadd 1133 dL_law_1132 rfl ?_
                                                              obtain ⟨v1133, hv1133, h⟩ := oB1 h
                                                              obtain ⟨hz1133, hv1133⟩ := oXA_ok hv1133
                                                              refine oRun.sload 1134 dL_law_1133 hz1133 rfl ?_
                                                              refine oRun.nameI hv1133 ?_
                                                              obtain ⟨r1134, hr1134, h⟩ := oB1 h
                                                              refine oRun.callV (as := [.int v1123, .int v1128, .int v1133]) 1137 dL_law_1134 lk_RL_131 (oFit_i (Nat.le_of_ble_eq_true rfl) (Nat.le_of_ble_eq_true rfl)) rfl rfl rfl rfl (Nat.le_of_ble_eq_true rfl) (Nat.le_of_ble_eq_true rfl) rfl (E_X9_join hr1134) rfl ?_
                                                              show oRun G _ 1137 _ [.int r1134, .int r1115] _ _ _
                                                              by_cases c1137 : r1115 = r1134
                                                              · replace h := oIp c1137 h
                                                                refine oRun.icmp_eq_t 1651 dL_law_1137 c1137 rfl ?_
                                                                refine oRun.iinc 1654 dL_law_1651 3 rfl (oAddC oc_i6) (Nat.le_of_ble_eq_true rfl) rfl rfl ?_
                                                                refine oRun.goto 18 dL_law_1654 rfl ?_
                                                                cases h
                                                                refine oRun.sub [1, 2, 3, 0] rfl ?_
                                                                exact hc _ rfl
                                                              · replace h := oIn c1137 h
                                                                refine oRun.icmp_eq_f 1140 dL_law_1137 rfl c1137 rfl ?_
                                                                refine oRun.iconst 1141 dL_law_1140 oc_i0 rfl ?_
                                                                cases h
                                                                obtain ⟨hr1, hr2⟩ := hx _ rfl
                                                                rw [hr1, hr2]
                                                                exact oRun.ret (r := some (.int 0)) dL_law_1141
                                                            · replace h := oIn c33_27 h
                                                              by_cases c33_28 : v33 = 28
                                                              · replace h := oIp c33_28 h
                                                                refine oRun.tsin 1142 dL_law_33 (q := 28) (by rw [c33_28]; rfl) (by decide) (by decide) rfl rfl ?_
                                                                refine oRun.aload_n 1143 dL_law_1142 1 rfl rfl (Nat.le_of_ble_eq_true rfl) rfl ?_
                                                                refine oRun.aload_n 1144 dL_law_1143 0 rfl rfl (Nat.le_of_ble_eq_true rfl) rfl ?_
                                                                refine oRun.iload_n 1145 dL_law_1144 3 rfl rfl rfl ?_
                                                                refine oRun.iconst 1146 dL_law_1145 oc_i1 rfl ?_
                                                                refine oRun.iadd 1147 dL_law_1146 rfl ?_
                                                                obtain ⟨v1147, hv1147, h⟩ := oB1 h
                                                                obtain ⟨hz1147, hv1147⟩ := oXA_ok hv1147
                                                                refine oRun.sload 1148 dL_law_1147 hz1147 rfl ?_
                                                                refine oRun.nameI hv1147 ?_
                                                                refine oRun.aload_n 1149 dL_law_1148 0 rfl rfl (Nat.le_of_ble_eq_true rfl) rfl ?_
                                                                refine oRun.iload_n 1150 dL_law_1149 3 rfl rfl rfl ?_
                                                                refine oRun.iconst 1151 dL_law_1150 oc_i2 rfl ?_
                                                                refine oRun.iadd 1152 dL_law_1151 rfl ?_
                                                                obtain ⟨v1152, hv1152, h⟩ := oB1 h
                                                                obtain ⟨hz1152, hv1152⟩ := oXA_ok hv1152
                                                                refine oRun.sload 1153 dL_law_1152 hz1152 rfl ?_
                                                                refine oRun.nameI hv1152 ?_
                                                                obtain ⟨r1153, hr1153, h⟩ := oB1 h
                                                                refine oRun.callV (as := [.int v1147, .int v1152]) 1156 dL_law_1153 lk_RL_132 (oFit_i (Nat.le_of_ble_eq_true rfl) (Nat.le_of_ble_eq_true rfl)) rfl rfl rfl rfl (Nat.le_of_ble_eq_true rfl) (Nat.le_of_ble_eq_true rfl) rfl (E_X8_drift hr1153) rfl ?_
                                                                show oRun G _ 1156 _ [.long r1153] _ _ _
                                                                refine oRun.aload_n 1157 dL_law_1156 2 rfl rfl (Nat.le_of_ble_eq_true rfl) rfl ?_
                                                                refine oRun.aload_n 1158 dL_law_1157 0 rfl rfl (Nat.le_of_ble_eq_true rfl) rfl ?_
                                                                refine oRun.iload_n 1159 dL_law_1158 3 rfl rfl rfl ?_
                                                                refine oRun.iconst 1160 dL_law_1159 oc_i1 rfl ?_
                                                                refine oRun.iadd 1161 dL_law_1160 rfl ?_
                                                                obtain ⟨v1161, hv1161, h⟩ := oB1 h
                                                                obtain ⟨hz1161, hv1161⟩ := oXA_ok hv1161
                                                                refine oRun.sload 1162 dL_law_1161 hz1161 rfl ?_
                                                                refine oRun.nameI hv1161 ?_
                                                                refine oRun.aload_n 1163 dL_law_1162 0 rfl rfl (Nat.le_of_ble_eq_true rfl) rfl ?_
                                                                refine oRun.iload_n 1164 dL_law_1163 3 rfl rfl rfl ?_
                                                                refine oRun.iconst 1165 dL_law_1164 oc_i2 rfl ?_
                                                                refine oRun.iadd 1166 dL_law_1165 rfl ?_
                                                                obtain ⟨v1166, hv1166, h⟩ := oB1 h
                                                                obtain ⟨hz1166, hv1166⟩ := oXA_ok hv1166
                                                                refine oRun.sload 1167 dL_law_1166 hz1166 rfl ?_
                                                                refine oRun.nameI hv1166 ?_
                                                                obtain ⟨r1167, hr1167, h⟩ := oB1 h
                                                                refine oRun.callV (as := [.int v1161, .int v1166]) 1170 dL_law_1167 lk_RL_135 (oFit_i (Nat.le_of_ble_eq_true rfl) (Nat.le_of_ble_eq_true rfl)) rfl rfl rfl rfl (Nat.le_of_ble_eq_true rfl) (Nat.le_of_ble_eq_true rfl) rfl (E_X9_drift hr1167) rfl ?_
                                                                show oRun G _ 1170 _ [.long r1167, .long r1153] _ _ _
                                                                refine oRun.lcmp 1171 dL_law_1170 rfl ?_
                                                                by_cases c1171 : r1153 = r1167
                                                                · replace h := oIp c1171 h
                                                                  refine oRun.if_eq_t 1651 dL_law_1171 ((oLc_eq _ _).mpr c1171) rfl ?_
                                                                  refine oRun.iinc 1654 dL_law_1651 3 rfl (oAddC oc_i6) (Nat.le_of_ble_eq_true rfl) rfl rfl ?_
                                                                  refine oRun.goto 18 dL_law_1654 rfl ?_
                                                                  cases h
                                                                  refine oRun.sub [1, 2, 3, 0] rfl ?_
                                                                  exact hc _ rfl
                                                                · replace h := oIn c1171 h
                                                                  refine oRun.if_eq_f 1174 dL_law_1171 rfl (mt (oLc_eq _ _).mp c1171) rfl ?_
                                                                  refine oRun.iconst 1175 dL_law_1174 oc_i0 rfl ?_
                                                                  cases h
                                                                  obtain ⟨hr1, hr2⟩ := hx _ rfl
                                                                  rw [hr1, hr2]
                                                                  exact oRun.ret (r := some (.int 0)) dL_law_1175
                                                              · replace h := oIn c33_28 h
                                                                by_cases c33_29 : v33 = 29
                                                                · replace h := oIp c33_29 h
                                                                  refine oRun.tsin 1176 dL_law_33 (q := 29) (by rw [c33_29]; rfl) (by decide) (by decide) rfl rfl ?_
                                                                  refine oRun.aload_n 1177 dL_law_1176 1 rfl rfl (Nat.le_of_ble_eq_true rfl) rfl ?_
                                                                  refine oRun.aload_n 1178 dL_law_1177 0 rfl rfl (Nat.le_of_ble_eq_true rfl) rfl ?_
                                                                  refine oRun.iload_n 1179 dL_law_1178 3 rfl rfl rfl ?_
                                                                  refine oRun.iconst 1180 dL_law_1179 oc_i1 rfl ?_
                                                                  refine oRun.iadd 1181 dL_law_1180 rfl ?_
                                                                  obtain ⟨v1181, hv1181, h⟩ := oB1 h
                                                                  obtain ⟨hz1181, hv1181⟩ := oXA_ok hv1181
                                                                  refine oRun.sload 1182 dL_law_1181 hz1181 rfl ?_
                                                                  refine oRun.nameI hv1181 ?_
                                                                  refine oRun.aload_n 1183 dL_law_1182 0 rfl rfl (Nat.le_of_ble_eq_true rfl) rfl ?_
                                                                  refine oRun.iload_n 1184 dL_law_1183 3 rfl rfl rfl ?_
                                                                  refine oRun.iconst 1185 dL_law_1184 oc_i2 rfl ?_
                                                                  refine oRun.iadd 1186 dL_law_1185 rfl ?_
                                                                  obtain ⟨v1186, hv1186, h⟩ := oB1 h
                                                                  obtain ⟨hz1186, hv1186⟩ := oXA_ok hv1186
                                                                  refine oRun.sload 1187 dL_law_1186 hz1186 rfl ?_
                                                                  refine oRun.nameI hv1186 ?_
                                                                  refine oRun.aload_n 1188 dL_law_1187 0 rfl rfl (Nat.le_of_ble_eq_true rfl) rfl ?_
                                                                  refine oRun.iload_n 1189 dL_law_1188 3 rfl rfl rfl ?_
                                                                  refine oRun.iconst 1190 dL_law_1189 oc_i3 rfl ?_
                                                                  refine oRun.iadd 1191 dL_law_1190 rfl ?_
                                                                  obtain ⟨v1191, hv1191, h⟩ := oB1 h
                                                                  obtain ⟨hz1191, hv1191⟩ := oXA_ok hv1191
                                                                  refine oRun.sload 1192 dL_law_1191 hz1191 rfl ?_
                                                                  refine oRun.nameI hv1191 ?_
                                                                  refine oRun.i2l 1193 dL_law_1192 rfl ?_
                                                                  refine oRun.bipush 1195 dL_law_1193 oc_b32 rfl ?_
                                                                  refine oRun.lshl 1196 dL_law_1195 rfl ?_
                                                                  refine oRun.aload_n 1197 dL_law_1196 0 rfl rfl (Nat.le_of_ble_eq_true rfl) rfl ?_
                                                                  refine oRun.iload_n 1198 dL_law_1197 3 rfl rfl rfl ?_
                                                                  refine oRun.iconst 1199 dL_law_1198 oc_i4 rfl ?_
                                                                  refine oRun.iadd 1200 dL_law_1199 rfl ?_
                                                                  obtain ⟨v1200, hv1200, h⟩ := oB1 h
                                                                  obtain ⟨hz1200, hv1200⟩ := oXA_ok hv1200
                                                                  refine oRun.sload 1201 dL_law_1200 hz1200 rfl ?_
                                                                  refine oRun.nameI hv1200 ?_
                                                                  refine oRun.i2l 1202 dL_law_1201 rfl ?_
                                                                  refine oRun.ldc2 1205 dL_law_1202 wd_6_67 rfl ?_
                                                                  refine oRun.land 1206 dL_law_1205 rfl ?_
                                                                  refine oRun.lor 1207 dL_law_1206 rfl ?_
                                                                  refine oRun.aload_n 1208 dL_law_1207 0 rfl rfl (Nat.le_of_ble_eq_true rfl) rfl ?_
                                                                  refine oRun.iload_n 1209 dL_law_1208 3 rfl rfl rfl ?_
                                                                  refine oRun.iconst 1210 dL_law_1209 oc_i5 rfl ?_
                                                                  refine oRun.iadd 1211 dL_law_1210 rfl ?_
                                                                  obtain ⟨v1211, hv1211, h⟩ := oB1 h
                                                                  obtain ⟨hz1211, hv1211⟩ := oXA_ok hv1211
                                                                  refine oRun.sload 1212 dL_law_1211 hz1211 rfl ?_
                                                                  refine oRun.nameI hv1211 ?_
                                                                  obtain ⟨r1212, hr1212, h⟩ := oB1 h
                                                                  refine oRun.callV (as := [.int v1181, .int v1186, .long ((oLS (v1191.toInt64) 32) ||| (v1200.toInt64 &&& 4294967295)), .int v1211]) 1215 dL_law_1212 lk_RL_138 (oFit_i (Nat.le_of_ble_eq_true rfl) (Nat.le_of_ble_eq_true rfl)) rfl rfl rfl rfl (Nat.le_of_ble_eq_true rfl) (Nat.le_of_ble_eq_true rfl) rfl (E_X8_were hr1212) rfl ?_
                                                                  show oRun G _ 1215 _ [.int r1212.1] _ _ _
                                                                  refine oRun.aload_n 1216 dL_law_1215 2 rfl rfl (Nat.le_of_ble_eq_true rfl) rfl ?_
                                                                  refine oRun.aload_n 1217 dL_law_1216 0 rfl rfl (Nat.le_of_ble_eq_true rfl) rfl ?_
                                                                  refine oRun.iload_n 1218 dL_law_1217 3 rfl rfl rfl ?_
                                                                  refine oRun.iconst 1219 dL_law_1218 oc_i1 rfl ?_
                                                                  refine oRun.iadd 1220 dL_law_1219 rfl ?_
                                                                  obtain ⟨v1220, hv1220, h⟩ := oB1 h
                                                                  obtain ⟨hz1220, hv1220⟩ := oXA_ok hv1220
                                                                  refine oRun.sload 1221 dL_law_1220 hz1220 rfl ?_
                                                                  refine oRun.nameI hv1220 ?_
                                                                  refine oRun.aload_n 1222 dL_law_1221 0 rfl rfl (Nat.le_of_ble_eq_true rfl) rfl ?_
                                                                  refine oRun.iload_n 1223 dL_law_1222 3 rfl rfl rfl ?_
                                                                  refine oRun.iconst 1224 dL_law_1223 oc_i2 rfl ?_
                                                                  refine oRun.iadd 1225 dL_law_1224 rfl ?_
                                                                  obtain ⟨v1225, hv1225, h⟩ := oB1 h
                                                                  obtain ⟨hz1225, hv1225⟩ := oXA_ok hv1225
                                                                  refine oRun.sload 1226 dL_law_1225 hz1225 rfl ?_
                                                                  refine oRun.nameI hv1225 ?_
                                                                  refine oRun.aload_n 1227 dL_law_1226 0 rfl rfl (Nat.le_of_ble_eq_true rfl) rfl ?_
                                                                  refine oRun.iload_n 1228 dL_law_1227 3 rfl rfl rfl ?_
                                                                  refine oRun.iconst 1229 dL_law_1228 oc_i3 rfl ?_
                                                                  refine oRun.iadd 1230 dL_law_1229 rfl ?_
                                                                  obtain ⟨v1230, hv1230, h⟩ := oB1 h
                                                                  obtain ⟨hz1230, hv1230⟩ := oXA_ok hv1230
                                                                  refine oRun.sload 1231 dL_law_1230 hz1230 rfl ?_
                                                                  refine oRun.nameI hv1230 ?_
                                                                  refine oRun.i2l 1232 dL_law_1231 rfl ?_
                                                                  refine oRun.bipush 1234 dL_law_1232 oc_b32 rfl ?_
                                                                  refine oRun.lshl 1235 dL_law_1234 rfl ?_
                                                                  refine oRun.aload_n 1236 dL_law_1235 0 rfl rfl (Nat.le_of_ble_eq_true rfl) rfl ?_
                                                                  refine oRun.iload_n 1237 dL_law_1236 3 rfl rfl rfl ?_
                                                                  refine oRun.iconst 1238 dL_law_1237 oc_i4 rfl ?_
                                                                  refine oRun.iadd 1239 dL_law_1238 rfl ?_
                                                                  obtain ⟨v1239, hv1239, h⟩ := oB1 h
                                                                  obtain ⟨hz1239, hv1239⟩ := oXA_ok hv1239
                                                                  refine oRun.sload 1240 dL_law_1239 hz1239 rfl ?_
                                                                  refine oRun.nameI hv1239 ?_
                                                                  refine oRun.i2l 1241 dL_law_1240 rfl ?_
                                                                  refine oRun.ldc2 1244 dL_law_1241 wd_6_67 rfl ?_
                                                                  refine oRun.land 1245 dL_law_1244 rfl ?_
                                                                  refine oRun.lor 1246 dL_law_1245 rfl ?_
                                                                  refine oRun.aload_n 1247 dL_law_1246 0 rfl rfl (Nat.le_of_ble_eq_true rfl) rfl ?_
                                                                  refine oRun.iload_n 1248 dL_law_1247 3 rfl rfl rfl ?_
                                                                  refine oRun.iconst 1249 dL_law_1248 oc_i5 rfl ?_
                                                                  refine oRun.iadd 1250 dL_law_1249 rfl ?_
                                                                  obtain ⟨v1250, hv1250, h⟩ := oB1 h
                                                                  obtain ⟨hz1250, hv1250⟩ := oXA_ok hv1250
                                                                  refine oRun.sload 1251 dL_law_1250 hz1250 rfl ?_
                                                                  refine oRun.nameI hv1250 ?_
                                                                  obtain ⟨r1251, hr1251, h⟩ := oB1 h
                                                                  refine oRun.callV (as := [.int v1220, .int v1225, .long ((oLS (v1230.toInt64) 32) ||| (v1239.toInt64 &&& 4294967295)), .int v1250]) 1254 dL_law_1251 lk_RL_142 (oFit_i (Nat.le_of_ble_eq_true rfl) (Nat.le_of_ble_eq_true rfl)) rfl rfl rfl rfl (Nat.le_of_ble_eq_true rfl) (Nat.le_of_ble_eq_true rfl) rfl (E_X9_were hr1251) rfl ?_
                                                                  show oRun G _ 1254 _ [.int r1251.1, .int r1212.1] _ _ _
                                                                  by_cases c1254 : r1212.1 = r1251.1
                                                                  · replace h := oIp c1254 h
                                                                    refine oRun.icmp_eq_t 1651 dL_law_1254 c1254 rfl ?_
                                                                    refine oRun.iinc 1654 dL_law_1651 3 rfl (oAddC oc_i6) (Nat.le_of_ble_eq_true rfl) rfl rfl ?_
                                                                    refine oRun.goto 18 dL_law_1654 rfl ?_
                                                                    cases h
                                                                    refine oRun.sub [1, 2, 3, 0] rfl ?_
                                                                    exact hc _ rfl
                                                                  · replace h := oIn c1254 h
                                                                    refine oRun.icmp_eq_f 1257 dL_law_1254 rfl c1254 rfl ?_
                                                                    refine oRun.iconst 1258 dL_law_1257 oc_i0 rfl ?_
                                                                    cases h
                                                                    obtain ⟨hr1, hr2⟩ := hx _ rfl
                                                                    rw [hr1, hr2]
                                                                    exact oRun.ret (r := some (.int 0)) dL_law_1258
                                                                · replace h := oIn c33_29 h
                                                                  by_cases c33_30 : v33 = 30
                                                                  · replace h := oIp c33_30 h
                                                                    refine oRun.tsin 1259 dL_law_33 (q := 30) (by rw [c33_30]; rfl) (by decide) (by decide) rfl rfl ?_
                                                                    refine oRun.aload_n 1260 dL_law_1259 1 rfl rfl (Nat.le_of_ble_eq_true rfl) rfl ?_
                                                                    refine oRun.aload_n 1261 dL_law_1260 0 rfl rfl (Nat.le_of_ble_eq_true rfl) rfl ?_
                                                                    refine oRun.iload_n 1262 dL_law_1261 3 rfl rfl rfl ?_
                                                                    refine oRun.iconst 1263 dL_law_1262 oc_i1 rfl ?_
                                                                    refine oRun.iadd 1264 dL_law_1263 rfl ?_
                                                                    obtain ⟨v1264, hv1264, h⟩ := oB1 h
                                                                    obtain ⟨hz1264, hv1264⟩ := oXA_ok hv1264
                                                                    refine oRun.sload 1265 dL_law_1264 hz1264 rfl ?_
                                                                    refine oRun.nameI hv1264 ?_
                                                                    refine oRun.aload_n 1266 dL_law_1265 0 rfl rfl (Nat.le_of_ble_eq_true rfl) rfl ?_
                                                                    refine oRun.iload_n 1267 dL_law_1266 3 rfl rfl rfl ?_
                                                                    refine oRun.iconst 1268 dL_law_1267 oc_i2 rfl ?_
                                                                    refine oRun.iadd 1269 dL_law_1268 rfl ?_
                                                                    obtain ⟨v1269, hv1269, h⟩ := oB1 h
                                                                    obtain ⟨hz1269, hv1269⟩ := oXA_ok hv1269
                                                                    refine oRun.sload 1270 dL_law_1269 hz1269 rfl ?_
                                                                    refine oRun.nameI hv1269 ?_
                                                                    refine oRun.aload_n 1271 dL_law_1270 0 rfl rfl (Nat.le_of_ble_eq_true rfl) rfl ?_
                                                                    refine oRun.iload_n 1272 dL_law_1271 3 rfl rfl rfl ?_
                                                                    refine oRun.iconst 1273 dL_law_1272 oc_i3 rfl ?_
                                                                    refine oRun.iadd 1274 dL_law_1273 rfl ?_
                                                                    obtain ⟨v1274, hv1274, h⟩ := oB1 h
                                                                    obtain ⟨hz1274, hv1274⟩ := oXA_ok hv1274
                                                                    refine oRun.sload 1275 dL_law_1274 hz1274 rfl ?_
                                                                    refine oRun.nameI hv1274 ?_
                                                                    refine oRun.aload_n 1276 dL_law_1275 0 rfl rfl (Nat.le_of_ble_eq_true rfl) rfl ?_
                                                                    refine oRun.iload_n 1277 dL_law_1276 3 rfl rfl rfl ?_
                                                                    refine oRun.iconst 1278 dL_law_1277 oc_i4 rfl ?_
                                                                    refine oRun.iadd 1279 dL_law_1278 rfl ?_
                                                                    obtain ⟨v1279, hv1279, h⟩ := oB1 h
                                                                    obtain ⟨hz1279, hv1279⟩ := oXA_ok hv1279
                                                                    refine oRun.sload 1280 dL_law_1279 hz1279 rfl ?_
                                                                    refine oRun.nameI hv1279 ?_
                                                                    obtain ⟨r1280, hr1280, h⟩ := oB1 h
                                                                    refine oRun.callV (as := [.int v1264, .int v1269, .int v1274, .int v1279]) 1283 dL_law_1280 lk_RL_143 (oFit_i (Nat.le_of_ble_eq_true rfl) (Nat.le_of_ble_eq_true rfl)) rfl rfl rfl rfl (Nat.le_of_ble_eq_true rfl) (Nat.le_of_ble_eq_true rfl) rfl (E_X8_odds hr1280) rfl ?_
                                                                    show oRun G _ 1283 _ [.long r1280] _ _ _
                                                                    refine oRun.aload_n 1284 dL_law_1283 2 rfl rfl (Nat.le_of_ble_eq_true rfl) rfl ?_
                                                                    refine oRun.aload_n 1285 dL_law_1284 0 rfl rfl (Nat.le_of_ble_eq_true rfl) rfl ?_
                                                                    refine oRun.iload_n 1286 dL_law_1285 3 rfl rfl rfl ?_
                                                                    refine oRun.iconst 1287 dL_law_1286 oc_i1 rfl ?_
                                                                    refine oRun.iadd 1288 dL_law_1287 rfl ?_
                                                                    obtain ⟨v1288, hv1288, h⟩ := oB1 h
                                                                    obtain ⟨hz1288, hv1288⟩ := oXA_ok hv1288
                                                                    refine oRun.sload 1289 dL_law_1288 hz1288 rfl ?_
                                                                    refine oRun.nameI hv1288 ?_
                                                                    refine oRun.aload_n 1290 dL_law_1289 0 rfl rfl (Nat.le_of_ble_eq_true rfl) rfl ?_
                                                                    refine oRun.iload_n 1291 dL_law_1290 3 rfl rfl rfl ?_
                                                                    refine oRun.iconst 1292 dL_law_1291 oc_i2 rfl ?_
                                                                    refine oRun.iadd 1293 dL_law_1292 rfl ?_
                                                                    obtain ⟨v1293, hv1293, h⟩ := oB1 h
                                                                    obtain ⟨hz1293, hv1293⟩ := oXA_ok hv1293
                                                                    refine oRun.sload 1294 dL_law_1293 hz1293 rfl ?_
                                                                    refine oRun.nameI hv1293 ?_
                                                                    refine oRun.aload_n 1295 dL_law_1294 0 rfl rfl (Nat.le_of_ble_eq_true rfl) rfl ?_
                                                                    refine oRun.iload_n 1296 dL_law_1295 3 rfl rfl rfl ?_
                                                                    refine oRun.iconst 1297 dL_law_1296 oc_i3 rfl ?_
                                                                    refine oRun.iadd 1298 dL_law_1297 rfl ?_
                                                                    obtain ⟨v1298, hv1298, h⟩ := oB1 h
                                                                    obtain ⟨hz1298, hv1298⟩ := oXA_ok hv1298
                                                                    refine oRun.sload 1299 dL_law_1298 hz1298 rfl ?_
                                                                    refine oRun.nameI hv1298 ?_
                                                                    refine oRun.aload_n 1300 dL_law_1299 0 rfl rfl (Nat.le_of_ble_eq_true rfl) rfl ?_
                                                                    refine oRun.iload_n 1301 dL_law_1300 3 rfl rfl rfl ?_
                                                                    refine oRun.iconst 1302 dL_law_1301 oc_i4 rfl ?_
                                                                    refine oRun.iadd 1303 dL_law_1302 rfl ?_
                                                                    obtain ⟨v1303, hv1303, h⟩ := oB1 h
                                                                    obtain ⟨hz1303, hv1303⟩ := oXA_ok hv1303
                                                                    refine oRun.sload 1304 dL_law_1303 hz1303 rfl ?_
                                                                    refine oRun.nameI hv1303 ?_
                                                                    obtain ⟨r1304, hr1304, h⟩ := oB1 h
                                                                    refine oRun.callV (as := [.int v1288, .int v1293, .int v1298, .int v1303]) 1307 dL_law_1304 lk_RL_147 (oFit_i (Nat.le_of_ble_eq_true rfl) (Nat.le_of_ble_eq_true rfl)) rfl rfl rfl rfl (Nat.le_of_ble_eq_true rfl) (Nat.le_of_ble_eq_true rfl) rfl (E_X9_odds hr1304) rfl ?_
                                                                    show oRun G _ 1307 _ [.long r1304, .long r1280] _ _ _
                                                                    refine oRun.lcmp 1308 dL_law_1307 rfl ?_
                                                                    by_cases c1308 : r1280 = r1304
                                                                    · replace h := oIp c1308 h
                                                                      refine oRun.if_eq_t 1651 dL_law_1308 ((oLc_eq _ _).mpr c1308) rfl ?_
                                                                      refine oRun.iinc 1654 dL_law_1651 3 rfl (oAddC oc_i6) (Nat.le_of_ble_eq_true rfl) rfl rfl ?_
                                                                      refine oRun.goto 18 dL_law_1654 rfl ?_
                                                                      cases h
                                                                      refine oRun.sub [1, 2, 3, 0] rfl ?_
                                                                      exact hc _ rfl
                                                                    · replace h := oIn c1308 h
                                                                      refine oRun.if_eq_f 1311 dL_law_1308 rfl (mt (oLc_eq _ _).mp c1308) rfl ?_
                                                                      refine oRun.iconst 1312 dL_law_1311 oc_i0 rfl ?_
                                                                      cases h
                                                                      obtain ⟨hr1, hr2⟩ := hx _ rfl
                                                                      rw [hr1, hr2]
                                                                      exact oRun.ret (r := some (.int 0)) dL_law_1312
                                                                  · replace h := oIn c33_30 h
                                                                    by_cases c33_31 : v33 = 31
                                                                    · replace h := oIp c33_31 h
                                                                      refine oRun.tsin 1313 dL_law_33 (q := 31) (by rw [c33_31]; rfl) (by decide) (by decide) rfl rfl ?_
                                                                      refine oRun.aload_n 1314 dL_law_1313 1 rfl rfl (Nat.le_of_ble_eq_true rfl) rfl ?_
                                                                      refine oRun.aload_n 1315 dL_law_1314 0 rfl rfl (Nat.le_of_ble_eq_true rfl) rfl ?_
                                                                      refine oRun.iload_n 1316 dL_law_1315 3 rfl rfl rfl ?_
                                                                      refine oRun.iconst 1317 dL_law_1316 oc_i1 rfl ?_
                                                                      refine oRun.iadd 1318 dL_law_1317 rfl ?_
                                                                      obtain ⟨v1318, hv1318, h⟩ := oB1 h
                                                                      obtain ⟨hz1318, hv1318⟩ := oXA_ok hv1318
                                                                      refine oRun.sload 1319 dL_law_1318 hz1318 rfl ?_
                                                                      refine oRun.nameI hv1318 ?_
                                                                      refine oRun.aload_n 1320 dL_law_1319 0 rfl rfl (Nat.le_of_ble_eq_true rfl) rfl ?_
                                                                      refine oRun.iload_n 1321 dL_law_1320 3 rfl rfl rfl ?_
                                                                      refine oRun.iconst 1322 dL_law_1321 oc_i2 rfl ?_
                                                                      refine oRun.iadd 1323 dL_law_1322 rfl ?_
                                                                      obtain ⟨v1323, hv1323, h⟩ := oB1 h
                                                                      obtain ⟨hz1323, hv1323⟩ := oXA_ok hv1323
                                                                      refine oRun.sload 1324 dL_law_1323 hz1323 rfl ?_
                                                                      refine oRun.nameI hv1323 ?_
                                                                      obtain ⟨r1324, hr1324, h⟩ := oB1 h
                                                                      refine oRun.callV (as := [.int v1318, .int v1323]) 1327 dL_law_1324 lk_RL_148 (oFit_i (Nat.le_of_ble_eq_true rfl) (Nat.le_of_ble_eq_true rfl)) rfl rfl rfl rfl (Nat.le_of_ble_eq_true rfl) (Nat.le_of_ble_eq_true rfl) rfl (E_X8_plan hr1324) rfl ?_
                                                                      show oRun G _ 1327 _ [.int r1324.1] _ _ _
                                                                      refine oRun.aload_n 1328 dL_law_1327 2 rfl rfl (Nat.le_of_ble_eq_true rfl) rfl ?_
                                                                      refine oRun.aload_n 1329 dL_law_1328 0 rfl rfl (Nat.le_of_ble_eq_true rfl) rfl ?_
                                                                      refine oRun.iload_n 1330 dL_law_1329 3 rfl rfl rfl ?_
                                                                      refine oRun.iconst 1331 dL_law_1330 oc_i1 rfl ?_
                                                                      refine oRun.iadd 1332 dL_law_1331 rfl ?_
                                                                      obtain ⟨v1332, hv1332, h⟩ := oB1 h
                                                                      obtain ⟨hz1332, hv1332⟩ := oXA_ok hv1332
                                                                      refine oRun.sload 1333 dL_law_1332 hz1332 rfl ?_
                                                                      refine oRun.nameI hv1332 ?_
                                                                      refine oRun.aload_n 1334 dL_law_1333 0 rfl rfl (Nat.le_of_ble_eq_true rfl) rfl ?_
                                                                      refine oRun.iload_n 1335 dL_law_1334 3 rfl rfl rfl ?_
                                                                      refine oRun.iconst 1336 dL_law_1335 oc_i2 rfl ?_
                                                                      refine oRun.iadd 1337 dL_law_1336 rfl ?_
                                                                      obtain ⟨v1337, hv1337, h⟩ := oB1 h
                                                                      obtain ⟨hz1337, hv1337⟩ := oXA_ok hv1337
                                                                      refine oRun.sload 1338 dL_law_1337 hz1337 rfl ?_
                                                                      refine oRun.nameI hv1337 ?_
                                                                      obtain ⟨r1338, hr1338, h⟩ := oB1 h
                                                                      refine oRun.callV (as := [.int v1332, .int v1337]) 1341 dL_law_1338 lk_RL_151 (oFit_i (Nat.le_of_ble_eq_true rfl) (Nat.le_of_ble_eq_true rfl)) rfl rfl rfl rfl (Nat.le_of_ble_eq_true rfl) (Nat.le_of_ble_eq_true rfl) rfl (E_X9_plan hr1338) rfl ?_
                                                                      show oRun G _ 1341 _ [.int r1338.1, .int r1324.1] _ _ _
                                                                      by_cases c1341 : r1324.1 = r1338.1
                                                                      · replace h := oIp c1341 h
                                                                        refine oRun.icmp_eq_t 1651 dL_law_1341 c1341 rfl ?_
                                                                        refine oRun.iinc 1654 dL_law_1651 3 rfl (oAddC oc_i6) (Nat.le_of_ble_eq_true rfl) rfl rfl ?_
                                                                        refine oRun.goto 18 dL_law_1654 rfl ?_
                                                                        cases h
                                                                        refine oRun.sub [1, 2, 3, 0] rfl ?_
                                                                        exact hc _ rfl
                                                                      · replace h := oIn c1341 h
                                                                        refine oRun.icmp_eq_f 1344 dL_law_1341 rfl c1341 rfl ?_
                                                                        refine oRun.iconst 1345 dL_law_1344 oc_i0 rfl ?_
                                                                        cases h
                                                                        obtain ⟨hr1, hr2⟩ := hx _ rfl
                                                                        rw [hr1, hr2]
                                                                        exact oRun.ret (r := some (.int 0)) dL_law_1345
                                                                    · replace h := oIn c33_31 h
                                                                      by_cases c33_32 : v33 = 32
                                                                      · replace h := oIp c33_32 h
                                                                        refine oRun.tsin 1346 dL_law_33 (q := 32) (by rw [c33_32]; rfl) (by decide) (by decide) rfl rfl ?_
                                                                        refine oRun.aload_n 1347 dL_law_1346 1 rfl rfl (Nat.le_of_ble_eq_true rfl) rfl ?_
                                                                        refine oRun.aload_n 1348 dL_law_1347 0 rfl rfl (Nat.le_of_ble_eq_true rfl) rfl ?_
                                                                        refine oRun.iload_n 1349 dL_law_1348 3 rfl rfl rfl ?_
                                                                        refine oRun.iconst 1350 dL_law_1349 oc_i1 rfl ?_
                                                                        refine oRun.iadd 1351 dL_law_1350 rfl ?_
                                                                        obtain ⟨v1351, hv1351, h⟩ := oB1 h
                                                                        obtain ⟨hz1351, hv1351⟩ := oXA_ok hv1351
                                                                        refine oRun.sload 1352 dL_law_1351 hz1351 rfl ?_
                                                                        refine oRun.nameI hv1351 ?_
                                                                        obtain ⟨r1352, hr1352, h⟩ := oB1 h
                                                                        refine oRun.callV (as := [.int v1351]) 1355 dL_law_1352 lk_RL_152 (oFit_i (Nat.le_of_ble_eq_true rfl) (Nat.le_of_ble_eq_true rfl)) rfl rfl rfl rfl (Nat.le_of_ble_eq_true rfl) (Nat.le_of_ble_eq_true rfl) rfl (E_X8_ends hr1352) rfl ?_
                                                                        show oRun G _ 1355 _ [.long r1352.1] _ _ _
                                                                        refine oRun.aload_n 1356 dL_law_1355 2 rfl rfl (Nat.le_of_ble_eq_true rfl) rfl ?_
                                                                        refine oRun.aload_n 1357 dL_law_1356 0 rfl rfl (Nat.le_of_ble_eq_true rfl) rfl ?_
                                                                        refine oRun.iload_n 1358 dL_law_1357 3 rfl rfl rfl ?_
                                                                        refine oRun.iconst 1359 dL_law_1358 oc_i1 rfl ?_
                                                                        refine oRun.iadd 1360 dL_law_1359 rfl ?_
                                                                        obtain ⟨v1360, hv1360, h⟩ := oB1 h
                                                                        obtain ⟨hz1360, hv1360⟩ := oXA_ok hv1360
                                                                        refine oRun.sload 1361 dL_law_1360 hz1360 rfl ?_
                                                                        refine oRun.nameI hv1360 ?_
                                                                        obtain ⟨r1361, hr1361, h⟩ := oB1 h
                                                                        refine oRun.callV (as := [.int v1360]) 1364 dL_law_1361 lk_RL_155 (oFit_i (Nat.le_of_ble_eq_true rfl) (Nat.le_of_ble_eq_true rfl)) rfl rfl rfl rfl (Nat.le_of_ble_eq_true rfl) (Nat.le_of_ble_eq_true rfl) rfl (E_X9_ends hr1361) rfl ?_
                                                                        show oRun G _ 1364 _ [.long r1361.1, .long r1352.1] _ _ _
                                                                        refine oRun.lcmp 1365 dL_law_1364 rfl ?_
                                                                        by_cases c1365 : r1352.1 = r1361.1
                                                                        · replace h := oIp c1365 h
                                                                          refine oRun.if_eq_t 1651 dL_law_1365 ((oLc_eq _ _).mpr c1365) rfl ?_
                                                                          refine oRun.iinc 1654 dL_law_1651 3 rfl (oAddC oc_i6) (Nat.le_of_ble_eq_true rfl) rfl rfl ?_
                                                                          refine oRun.goto 18 dL_law_1654 rfl ?_
                                                                          cases h
                                                                          refine oRun.sub [1, 2, 3, 0] rfl ?_
                                                                          exact hc _ rfl
                                                                        · replace h := oIn c1365 h
                                                                          refine oRun.if_eq_f 1368 dL_law_1365 rfl (mt (oLc_eq _ _).mp c1365) rfl ?_
                                                                          refine oRun.iconst 1369 dL_law_1368 oc_i0 rfl ?_
                                                                          cases h
                                                                          obtain ⟨hr1, hr2⟩ := hx _ rfl
                                                                          rw [hr1, hr2]
                                                                          exact oRun.ret (r := some (.int 0)) dL_law_1369
                                                                      · replace h := oIn c33_32 h
                                                                        by_cases c33_33 : v33 = 33
                                                                        · replace h := oIp c33_33 h
                                                                          refine oRun.tsin 1370 dL_law_33 (q := 33) (by rw [c33_33]; rfl) (by decide) (by decide) rfl rfl ?_
                                                                          refine oRun.aload_n 1371 dL_law_1370 1 rfl rfl (Nat.le_of_ble_eq_true rfl) rfl ?_
                                                                          refine oRun.aload_n 1372 dL_law_1371 0 rfl rfl (Nat.le_of_ble_eq_true rfl) rfl ?_
                                                                          refine oRun.iload_n 1373 dL_law_1372 3 rfl rfl rfl ?_
                                                                          refine oRun.iconst 1374 dL_law_1373 oc_i1 rfl ?_
                                                                          refine oRun.iadd 1375 dL_law_1374 rfl ?_
                                                                          obtain ⟨v1375, hv1375, h⟩ := oB1 h
                                                                          obtain ⟨hz1375, hv1375⟩ := oXA_ok hv1375
                                                                          refine oRun.sload 1376 dL_law_1375 hz1375 rfl ?_
                                                                          refine oRun.nameI hv1375 ?_
                                                                          obtain ⟨r1376, hr1376, h⟩ := oB1 h
                                                                          refine oRun.callV (as := [.int v1375]) 1379 dL_law_1376 lk_RL_156 (oFit_i (Nat.le_of_ble_eq_true rfl) (Nat.le_of_ble_eq_true rfl)) rfl rfl rfl rfl (Nat.le_of_ble_eq_true rfl) (Nat.le_of_ble_eq_true rfl) rfl (E_X8_writePair hr1376) rfl ?_
                                                                          show oRun G _ 1379 _ [.int r1376.1] _ _ _
                                                                          refine oRun.aload_n 1380 dL_law_1379 2 rfl rfl (Nat.le_of_ble_eq_true rfl) rfl ?_
                                                                          refine oRun.aload_n 1381 dL_law_1380 0 rfl rfl (Nat.le_of_ble_eq_true rfl) rfl ?_
                                                                          refine oRun.iload_n 1382 dL_law_1381 3 rfl rfl rfl ?_
                                                                          refine oRun.iconst 1383 dL_law_1382 oc_i1 rfl ?_
                                                                          refine oRun.iadd 1384 dL_law_1383 rfl ?_
                                                                          obtain ⟨v1384, hv1384, h⟩ := oB1 h
                                                                          obtain ⟨hz1384, hv1384⟩ := oXA_ok hv1384
                                                                          refine oRun.sload 1385 dL_law_1384 hz1384 rfl ?_
                                                                          refine oRun.nameI hv1384 ?_
                                                                          obtain ⟨r1385, hr1385, h⟩ := oB1 h
                                                                          refine oRun.callV (as := [.int v1384]) 1388 dL_law_1385 lk_RL_159 (oFit_i (Nat.le_of_ble_eq_true rfl) (Nat.le_of_ble_eq_true rfl)) rfl rfl rfl rfl (Nat.le_of_ble_eq_true rfl) (Nat.le_of_ble_eq_true rfl) rfl (E_X9_writePair hr1385) rfl ?_
                                                                          show oRun G _ 1388 _ [.int r1385.1, .int r1376.1] _ _ _
                                                                          by_cases c1388 : r1376.1 = r1385.1
                                                                          · replace h := oIp c1388 h
                                                                            refine oRun.icmp_eq_t 1651 dL_law_1388 c1388 rfl ?_
                                                                            refine oRun.iinc 1654 dL_law_1651 3 rfl (oAddC oc_i6) (Nat.le_of_ble_eq_true rfl) rfl rfl ?_
                                                                            refine oRun.goto 18 dL_law_1654 rfl ?_
                                                                            cases h
                                                                            refine oRun.sub [1, 2, 3, 0] rfl ?_
                                                                            exact hc _ rfl
                                                                          · replace h := oIn c1388 h
                                                                            refine oRun.icmp_eq_f 1391 dL_law_1388 rfl c1388 rfl ?_
                                                                            refine oRun.iconst 1392 dL_law_1391 oc_i0 rfl ?_
                                                                            cases h
                                                                            obtain ⟨hr1, hr2⟩ := hx _ rfl
                                                                            rw [hr1, hr2]
                                                                            exact oRun.ret (r := some (.int 0)) dL_law_1392
                                                                        · replace h := oIn c33_33 h
                                                                          by_cases c33_34 : v33 = 34
                                                                          · replace h := oIp c33_34 h
                                                                            refine oRun.tsin 1393 dL_law_33 (q := 34) (by rw [c33_34]; rfl) (by decide) (by decide) rfl rfl ?_
                                                                            refine oRun.aload_n 1394 dL_law_1393 1 rfl rfl (Nat.le_of_ble_eq_true rfl) rfl ?_
                                                                            refine oRun.aload_n 1395 dL_law_1394 0 rfl rfl (Nat.le_of_ble_eq_true rfl) rfl ?_
                                                                            refine oRun.iload_n 1396 dL_law_1395 3 rfl rfl rfl ?_
                                                                            refine oRun.iconst 1397 dL_law_1396 oc_i1 rfl ?_
                                                                            refine oRun.iadd 1398 dL_law_1397 rfl ?_
                                                                            obtain ⟨v1398, hv1398, h⟩ := oB1 h
                                                                            obtain ⟨hz1398, hv1398⟩ := oXA_ok hv1398
                                                                            refine oRun.sload 1399 dL_law_1398 hz1398 rfl ?_
                                                                            refine oRun.nameI hv1398 ?_
                                                                            obtain ⟨r1399, hr1399, h⟩ := oB1 h
                                                                            refine oRun.callV (as := [.int v1398]) 1402 dL_law_1399 lk_RL_160 (oFit_i (Nat.le_of_ble_eq_true rfl) (Nat.le_of_ble_eq_true rfl)) rfl rfl rfl rfl (Nat.le_of_ble_eq_true rfl) (Nat.le_of_ble_eq_true rfl) rfl (E_X8_writeTrain hr1399) rfl ?_
                                                                            show oRun G _ 1402 _ [.int r1399.1] _ _ _
                                                                            refine oRun.aload_n 1403 dL_law_1402 2 rfl rfl (Nat.le_of_ble_eq_true rfl) rfl ?_
                                                                            refine oRun.aload_n 1404 dL_law_1403 0 rfl rfl (Nat.le_of_ble_eq_true rfl) rfl ?_
                                                                            refine oRun.iload_n 1405 dL_law_1404 3 rfl rfl rfl ?_
                                                                            refine oRun.iconst 1406 dL_law_1405 oc_i1 rfl ?_
                                                                            refine oRun.iadd 1407 dL_law_1406 rfl ?_
                                                                            obtain ⟨v1407, hv1407, h⟩ := oB1 h
                                                                            obtain ⟨hz1407, hv1407⟩ := oXA_ok hv1407
                                                                            refine oRun.sload 1408 dL_law_1407 hz1407 rfl ?_
                                                                            refine oRun.nameI hv1407 ?_
                                                                            obtain ⟨r1408, hr1408, h⟩ := oB1 h
                                                                            refine oRun.callV (as := [.int v1407]) 1411 dL_law_1408 lk_RL_163 (oFit_i (Nat.le_of_ble_eq_true rfl) (Nat.le_of_ble_eq_true rfl)) rfl rfl rfl rfl (Nat.le_of_ble_eq_true rfl) (Nat.le_of_ble_eq_true rfl) rfl (E_X9_writeTrain hr1408) rfl ?_
                                                                            show oRun G _ 1411 _ [.int r1408.1, .int r1399.1] _ _ _
                                                                            by_cases c1411 : r1399.1 = r1408.1
                                                                            · replace h := oIp c1411 h
                                                                              refine oRun.icmp_eq_t 1651 dL_law_1411 c1411 rfl ?_
                                                                              refine oRun.iinc 1654 dL_law_1651 3 rfl (oAddC oc_i6) (Nat.le_of_ble_eq_true rfl) rfl rfl ?_
                                                                              refine oRun.goto 18 dL_law_1654 rfl ?_
                                                                              cases h
                                                                              refine oRun.sub [1, 2, 3, 0] rfl ?_
                                                                              exact hc _ rfl
                                                                            · replace h := oIn c1411 h
                                                                              refine oRun.icmp_eq_f 1414 dL_law_1411 rfl c1411 rfl ?_
                                                                              refine oRun.iconst 1415 dL_law_1414 oc_i0 rfl ?_
                                                                              cases h
                                                                              obtain ⟨hr1, hr2⟩ := hx _ rfl
                                                                              rw [hr1, hr2]
                                                                              exact oRun.ret (r := some (.int 0)) dL_law_1415
                                                                          · replace h := oIn c33_34 h
                                                                            by_cases c33_35 : v33 = 35
                                                                            · replace h := oIp c33_35 h
                                                                              refine oRun.tsin 1416 dL_law_33 (q := 35) (by rw [c33_35]; rfl) (by decide) (by decide) rfl rfl ?_
                                                                              refine oRun.aload_n 1417 dL_law_1416 1 rfl rfl (Nat.le_of_ble_eq_true rfl) rfl ?_
                                                                              refine oRun.aload_n 1418 dL_law_1417 0 rfl rfl (Nat.le_of_ble_eq_true rfl) rfl ?_
                                                                              refine oRun.iload_n 1419 dL_law_1418 3 rfl rfl rfl ?_
                                                                              refine oRun.iconst 1420 dL_law_1419 oc_i1 rfl ?_
                                                                              refine oRun.iadd 1421 dL_law_1420 rfl ?_
                                                                              obtain ⟨v1421, hv1421, h⟩ := oB1 h
                                                                              obtain ⟨hz1421, hv1421⟩ := oXA_ok hv1421
                                                                              refine oRun.sload 1422 dL_law_1421 hz1421 rfl ?_
                                                                              refine oRun.nameI hv1421 ?_
                                                                              obtain ⟨r1422, hr1422, h⟩ := oB1 h
                                                                              refine oRun.callV (as := [.int v1421]) 1425 dL_law_1422 lk_RL_164 (oFit_i (Nat.le_of_ble_eq_true rfl) (Nat.le_of_ble_eq_true rfl)) rfl rfl rfl rfl (Nat.le_of_ble_eq_true rfl) (Nat.le_of_ble_eq_true rfl) rfl (E_X8_paper hr1422) rfl ?_
                                                                              show oRun G _ 1425 _ [.int r1422] _ _ _
                                                                              refine oRun.aload_n 1426 dL_law_1425 2 rfl rfl (Nat.le_of_ble_eq_true rfl) rfl ?_
                                                                              refine oRun.aload_n 1427 dL_law_1426 0 rfl rfl (Nat.le_of_ble_eq_true rfl) rfl ?_
                                                                              refine oRun.iload_n 1428 dL_law_1427 3 rfl rfl rfl ?_
                                                                              refine oRun.iconst 1429 dL_law_1428 oc_i1 rfl ?_
                                                                              refine oRun.iadd 1430 dL_law_1429 rfl ?_
                                                                              obtain ⟨v1430, hv1430, h⟩ := oB1 h
                                                                              obtain ⟨hz1430, hv1430⟩ := oXA_ok hv1430
                                                                              refine oRun.sload 1431 dL_law_1430 hz1430 rfl ?_
                                                                              refine oRun.nameI hv1430 ?_
                                                                              obtain ⟨r1431, hr1431, h⟩ := oB1 h
                                                                              refine oRun.callV (as := [.int v1430]) 1434 dL_law_1431 lk_RL_167 (oFit_i (Nat.le_of_ble_eq_true rfl) (Nat.le_of_ble_eq_true rfl)) rfl rfl rfl rfl (Nat.le_of_ble_eq_true rfl) (Nat.le_of_ble_eq_true rfl) rfl (E_X9_paper hr1431) rfl ?_
                                                                              show oRun G _ 1434 _ [.int r1431, .int r1422] _ _ _
                                                                              by_cases c1434 : r1422 = r1431
                                                                              · replace h := oIp c1434 h
                                                                                refine oRun.icmp_eq_t 1651 dL_law_1434 c1434 rfl ?_
                                                                                refine oRun.iinc 1654 dL_law_1651 3 rfl (oAddC oc_i6) (Nat.le_of_ble_eq_true rfl) rfl rfl ?_
                                                                                refine oRun.goto 18 dL_law_1654 rfl ?_
                                                                                cases h
                                                                                refine oRun.sub [1, 2, 3, 0] rfl ?_
                                                                                exact hc _ rfl
                                                                              · replace h := oIn c1434 h
                                                                                refine oRun.icmp_eq_f 1437 dL_law_1434 rfl c1434 rfl ?_
                                                                                refine oRun.iconst 1438 dL_law_1437 oc_i0 rfl ?_
                                                                                cases h
                                                                                obtain ⟨hr1, hr2⟩ := hx _ rfl
                                                                                rw [hr1, hr2]
                                                                                exact oRun.ret (r := some (.int 0)) dL_law_1438
                                                                            · replace h := oIn c33_35 h
                                                                              by_cases c33_36 : v33 = 36
                                                                              · replace h := oIp c33_36 h
                                                                                refine oRun.tsin 1439 dL_law_33 (q := 36) (by rw [c33_36]; rfl) (by decide) (by decide) rfl rfl ?_
                                                                                refine oRun.aload_n 1440 dL_law_1439 1 rfl rfl (Nat.le_of_ble_eq_true rfl) rfl ?_
                                                                                refine oRun.aload_n 1441 dL_law_1440 0 rfl rfl (Nat.le_of_ble_eq_true rfl) rfl ?_
                                                                                refine oRun.iload_n 1442 dL_law_1441 3 rfl rfl rfl ?_
                                                                                refine oRun.iconst 1443 dL_law_1442 oc_i1 rfl ?_
                                                                                refine oRun.iadd 1444 dL_law_1443 rfl ?_
                                                                                obtain ⟨v1444, hv1444, h⟩ := oB1 h
                                                                                obtain ⟨hz1444, hv1444⟩ := oXA_ok hv1444
                                                                                refine oRun.sload 1445 dL_law_1444 hz1444 rfl ?_
                                                                                refine oRun.nameI hv1444 ?_
                                                                                obtain ⟨r1445, hr1445, h⟩ := oB1 h
                                                                                refine oRun.callV (as := [.int v1444]) 1448 dL_law_1445 lk_RL_168 (oFit_i (Nat.le_of_ble_eq_true rfl) (Nat.le_of_ble_eq_true rfl)) rfl rfl rfl rfl (Nat.le_of_ble_eq_true rfl) (Nat.le_of_ble_eq_true rfl) rfl (E_X8_judge hr1445) rfl ?_
                                                                                show oRun G _ 1448 _ [.int r1445] _ _ _
                                                                                refine oRun.aload_n 1449 dL_law_1448 2 rfl rfl (Nat.le_of_ble_eq_true rfl) rfl ?_
                                                                                refine oRun.aload_n 1450 dL_law_1449 0 rfl rfl (Nat.le_of_ble_eq_true rfl) rfl ?_
                                                                                refine oRun.iload_n 1451 dL_law_1450 3 rfl rfl rfl ?_
                                                                                refine oRun.iconst 1452 dL_law_1451 oc_i1 rfl ?_
                                                                                refine oRun.iadd 1453 dL_law_1452 rfl ?_
                                                                                obtain ⟨v1453, hv1453, h⟩ := oB1 h
                                                                                obtain ⟨hz1453, hv1453⟩ := oXA_ok hv1453
                                                                                refine oRun.sload 1454 dL_law_1453 hz1453 rfl ?_
                                                                                refine oRun.nameI hv1453 ?_
                                                                                obtain ⟨r1454, hr1454, h⟩ := oB1 h
                                                                                refine oRun.callV (as := [.int v1453]) 1457 dL_law_1454 lk_RL_171 (oFit_i (Nat.le_of_ble_eq_true rfl) (Nat.le_of_ble_eq_true rfl)) rfl rfl rfl rfl (Nat.le_of_ble_eq_true rfl) (Nat.le_of_ble_eq_true rfl) rfl (E_X9_judge hr1454) rfl ?_
                                                                                show oRun G _ 1457 _ [.int r1454, .int r1445] _ _ _
                                                                                by_cases c1457 : r1445 = r1454
                                                                                · replace h := oIp c1457 h
                                                                                  refine oRun.icmp_eq_t 1651 dL_law_1457 c1457 rfl ?_
                                                                                  refine oRun.iinc 1654 dL_law_1651 3 rfl (oAddC oc_i6) (Nat.le_of_ble_eq_true rfl) rfl rfl ?_
                                                                                  refine oRun.goto 18 dL_law_1654 rfl ?_
                                                                                  cases h
                                                                                  refine oRun.sub [1, 2, 3, 0] rfl ?_
                                                                                  exact hc _ rfl
                                                                                · replace h := oIn c1457 h
                                                                                  refine oRun.icmp_eq_f 1460 dL_law_1457 rfl c1457 rfl ?_
                                                                                  refine oRun.iconst 1461 dL_law_1460 oc_i0 rfl ?_
                                                                                  cases h
                                                                                  obtain ⟨hr1, hr2⟩ := hx _ rfl
                                                                                  rw [hr1, hr2]
                                                                                  exact oRun.ret (r := some (.int 0)) dL_law_1461
                                                                              · replace h := oIn c33_36 h
                                                                                by_cases c33_37 : v33 = 37
                                                                                · replace h := oIp c33_37 h
                                                                                  refine oRun.tsin 1462 dL_law_33 (q := 37) (by rw [c33_37]; rfl) (by decide) (by decide) rfl rfl ?_
                                                                                  refine oRun.aload_n 1463 dL_law_1462 1 rfl rfl (Nat.le_of_ble_eq_true rfl) rfl ?_
                                                                                  refine oRun.aload_n 1464 dL_law_1463 0 rfl rfl (Nat.le_of_ble_eq_true rfl) rfl ?_
                                                                                  refine oRun.iload_n 1465 dL_law_1464 3 rfl rfl rfl ?_
                                                                                  refine oRun.iconst 1466 dL_law_1465 oc_i1 rfl ?_
                                                                                  refine oRun.iadd 1467 dL_law_1466 rfl ?_
                                                                                  obtain ⟨v1467, hv1467, h⟩ := oB1 h
                                                                                  obtain ⟨hz1467, hv1467⟩ := oXA_ok hv1467
                                                                                  refine oRun.sload 1468 dL_law_1467 hz1467 rfl ?_
                                                                                  refine oRun.nameI hv1467 ?_
                                                                                  refine oRun.aload_n 1469 dL_law_1468 0 rfl rfl (Nat.le_of_ble_eq_true rfl) rfl ?_
                                                                                  refine oRun.iload_n 1470 dL_law_1469 3 rfl rfl rfl ?_
                                                                                  refine oRun.iconst 1471 dL_law_1470 oc_i2 rfl ?_
                                                                                  refine oRun.iadd 1472 dL_law_1471 rfl ?_
                                                                                  obtain ⟨v1472, hv1472, h⟩ := oB1 h
                                                                                  obtain ⟨hz1472, hv1472⟩ := oXA_ok hv1472
                                                                                  refine oRun.sload 1473 dL_law_1472 hz1472 rfl ?_
                                                                                  refine oRun.nameI hv1472 ?_
                                                                                  obtain ⟨r1473, hr1473, h⟩ := oB1 h
                                                                                  refine oRun.callV (as := [.int v1467, .int v1472]) 1476 dL_law_1473 lk_RL_172 (oFit_i (Nat.le_of_ble_eq_true rfl) (Nat.le_of_ble_eq_true rfl)) rfl rfl rfl rfl (Nat.le_of_ble_eq_true rfl) (Nat.le_of_ble_eq_true rfl) rfl (E_X8_list hr1473) rfl ?_
                                                                                  show oRun G _ 1476 _ [.int r1473.1] _ _ _
                                                                                  refine oRun.aload_n 1477 dL_law_1476 2 rfl rfl (Nat.le_of_ble_eq_true rfl) rfl ?_
                                                                                  refine oRun.aload_n 1478 dL_law_1477 0 rfl rfl (Nat.le_of_ble_eq_true rfl) rfl ?_
                                                                                  refine oRun.iload_n 1479 dL_law_1478 3 rfl rfl rfl ?_
                                                                                  refine oRun.iconst 1480 dL_law_1479 oc_i1 rfl ?_
                                                                                  refine oRun.iadd 1481 dL_law_1480 rfl ?_
                                                                                  obtain ⟨v1481, hv1481, h⟩ := oB1 h
                                                                                  obtain ⟨hz1481, hv1481⟩ := oXA_ok hv1481
                                                                                  refine oRun.sload 1482 dL_law_1481 hz1481 rfl ?_
                                                                                  refine oRun.nameI hv1481 ?_
                                                                                  refine oRun.aload_n 1483 dL_law_1482 0 rfl rfl (Nat.le_of_ble_eq_true rfl) rfl ?_
                                                                                  refine oRun.iload_n 1484 dL_law_1483 3 rfl rfl rfl ?_
                                                                                  refine oRun.iconst 1485 dL_law_1484 oc_i2 rfl ?_
                                                                                  refine oRun.iadd 1486 dL_law_1485 rfl ?_
                                                                                  obtain ⟨v1486, hv1486, h⟩ := oB1 h
                                                                                  obtain ⟨hz1486, hv1486⟩ := oXA_ok hv1486
                                                                                  refine oRun.sload 1487 dL_law_1486 hz1486 rfl ?_
                                                                                  refine oRun.nameI hv1486 ?_
                                                                                  obtain ⟨r1487, hr1487, h⟩ := oB1 h
                                                                                  refine oRun.callV (as := [.int v1481, .int v1486]) 1490 dL_law_1487 lk_RL_175 (oFit_i (Nat.le_of_ble_eq_true rfl) (Nat.le_of_ble_eq_true rfl)) rfl rfl rfl rfl (Nat.le_of_ble_eq_true rfl) (Nat.le_of_ble_eq_true rfl) rfl (E_X9_list hr1487) rfl ?_
                                                                                  show oRun G _ 1490 _ [.int r1487.1, .int r1473.1] _ _ _
                                                                                  by_cases c1490 : r1473.1 = r1487.1
                                                                                  · replace h := oIp c1490 h
                                                                                    refine oRun.icmp_eq_t 1651 dL_law_1490 c1490 rfl ?_
                                                                                    refine oRun.iinc 1654 dL_law_1651 3 rfl (oAddC oc_i6) (Nat.le_of_ble_eq_true rfl) rfl rfl ?_
                                                                                    refine oRun.goto 18 dL_law_1654 rfl ?_
                                                                                    cases h
                                                                                    refine oRun.sub [1, 2, 3, 0] rfl ?_
                                                                                    exact hc _ rfl
                                                                                  · replace h := oIn c1490 h
                                                                                    refine oRun.icmp_eq_f 1493 dL_law_1490 rfl c1490 rfl ?_
                                                                                    refine oRun.iconst 1494 dL_law_1493 oc_i0 rfl ?_
                                                                                    cases h
                                                                                    obtain ⟨hr1, hr2⟩ := hx _ rfl
                                                                                    rw [hr1, hr2]
                                                                                    exact oRun.ret (r := some (.int 0)) dL_law_1494
                                                                                · replace h := oIn c33_37 h
                                                                                  by_cases c33_38 : v33 = 38
                                                                                  · replace h := oIp c33_38 h
                                                                                    refine oRun.tsin 1495 dL_law_33 (q := 38) (by rw [c33_38]; rfl) (by decide) (by decide) rfl rfl ?_
                                                                                    refine oRun.aload_n 1496 dL_law_1495 1 rfl rfl (Nat.le_of_ble_eq_true rfl) rfl ?_
                                                                                    refine oRun.aload_n 1497 dL_law_1496 0 rfl rfl (Nat.le_of_ble_eq_true rfl) rfl ?_
                                                                                    refine oRun.iload_n 1498 dL_law_1497 3 rfl rfl rfl ?_
                                                                                    refine oRun.iconst 1499 dL_law_1498 oc_i1 rfl ?_
                                                                                    refine oRun.iadd 1500 dL_law_1499 rfl ?_
                                                                                    obtain ⟨v1500, hv1500, h⟩ := oB1 h
                                                                                    obtain ⟨hz1500, hv1500⟩ := oXA_ok hv1500
                                                                                    refine oRun.sload 1501 dL_law_1500 hz1500 rfl ?_
                                                                                    refine oRun.nameI hv1500 ?_
                                                                                    refine oRun.aload_n 1502 dL_law_1501 0 rfl rfl (Nat.le_of_ble_eq_true rfl) rfl ?_
                                                                                    refine oRun.iload_n 1503 dL_law_1502 3 rfl rfl rfl ?_
                                                                                    refine oRun.iconst 1504 dL_law_1503 oc_i2 rfl ?_
                                                                                    refine oRun.iadd 1505 dL_law_1504 rfl ?_
                                                                                    obtain ⟨v1505, hv1505, h⟩ := oB1 h
                                                                                    obtain ⟨hz1505, hv1505⟩ := oXA_ok hv1505
                                                                                    refine oRun.sload 1506 dL_law_1505 hz1505 rfl ?_
                                                                                    refine oRun.nameI hv1505 ?_
                                                                                    refine oRun.aload_n 1507 dL_law_1506 0 rfl rfl (Nat.le_of_ble_eq_true rfl) rfl ?_
                                                                                    refine oRun.iload_n 1508 dL_law_1507 3 rfl rfl rfl ?_
                                                                                    refine oRun.iconst 1509 dL_law_1508 oc_i3 rfl ?_
                                                                                    refine oRun.iadd 1510 dL_law_1509 rfl ?_
                                                                                    obtain ⟨v1510, hv1510, h⟩ := oB1 h
                                                                                    obtain ⟨hz1510, hv1510⟩ := oXA_ok hv1510
                                                                                    refine oRun.sload 1511 dL_law_1510 hz1510 rfl ?_
                                                                                    refine oRun.nameI hv1510 ?_
                                                                                    refine oRun.i2l 1512 dL_law_1511 rfl ?_
                                                                                    refine oRun.bipush 1514 dL_law_1512 oc_b32 rfl ?_
                                                                                    refine oRun.lshl 1515 dL_law_1514 rfl ?_
                                                                                    refine oRun.aload_n 1516 dL_law_1515 0 rfl rfl (Nat.le_of_ble_eq_true rfl) rfl ?_
                                                                                    refine oRun.iload_n 1517 dL_law_1516 3 rfl rfl rfl ?_
                                                                                    refine oRun.iconst 1518 dL_law_1517 oc_i4 rfl ?_
                                                                                    refine oRun.iadd 1519 dL_law_1518 rfl ?_
                                                                                    obtain ⟨v1519, hv1519, h⟩ := oB1 h
                                                                                    obtain ⟨hz1519, hv1519⟩ := oXA_ok hv1519
                                                                                    refine oRun.sload 1520 dL_law_1519 hz1519 rfl ?_
                                                                                    refine oRun.nameI hv1519 ?_
                                                                                    refine oRun.i2l 1521 dL_law_1520 rfl ?_
                                                                                    refine oRun.ldc2 1524 dL_law_1521 wd_6_67 rfl ?_
                                                                                    refine oRun.land 1525 dL_law_1524 rfl ?_
                                                                                    refine oRun.lor 1526 dL_law_1525 rfl ?_
                                                                                    obtain ⟨r1526, hr1526, h⟩ := oB1 h
                                                                                    refine oRun.callV (as := [.int v1500, .int v1505, .long ((oLS (v1510.toInt64) 32) ||| (v1519.toInt64 &&& 4294967295))]) 1529 dL_law_1526 lk_RL_176 (oFit_i (Nat.le_of_ble_eq_true rfl) (Nat.le_of_ble_eq_true rfl)) rfl rfl rfl rfl (Nat.le_of_ble_eq_true rfl) (Nat.le_of_ble_eq_true rfl) rfl (E_X8_put hr1526) rfl ?_
                                                                                    show oRun G _ 1529 _ [.int r1526.1] _ _ _
                                                                                    refine oRun.aload_n 1530 dL_law_1529 2 rfl rfl (Nat.le_of_ble_eq_true rfl) rfl ?_
                                                                                    refine oRun.aload_n 1531 dL_law_1530 0 rfl rfl (Nat.le_of_ble_eq_true rfl) rfl ?_
                                                                                    refine oRun.iload_n 1532 dL_law_1531 3 rfl rfl rfl ?_
                                                                                    refine oRun.iconst 1533 dL_law_1532 oc_i1 rfl ?_
                                                                                    refine oRun.iadd 1534 dL_law_1533 rfl ?_
                                                                                    obtain ⟨v1534, hv1534, h⟩ := oB1 h
                                                                                    obtain ⟨hz1534, hv1534⟩ := oXA_ok hv1534
                                                                                    refine oRun.sload 1535 dL_law_1534 hz1534 rfl ?_
                                                                                    refine oRun.nameI hv1534 ?_
                                                                                    refine oRun.aload_n 1536 dL_law_1535 0 rfl rfl (Nat.le_of_ble_eq_true rfl) rfl ?_
                                                                                    refine oRun.iload_n 1537 dL_law_1536 3 rfl rfl rfl ?_
                                                                                    refine oRun.iconst 1538 dL_law_1537 oc_i2 rfl ?_
                                                                                    refine oRun.iadd 1539 dL_law_1538 rfl ?_
                                                                                    obtain ⟨v1539, hv1539, h⟩ := oB1 h
                                                                                    obtain ⟨hz1539, hv1539⟩ := oXA_ok hv1539
                                                                                    refine oRun.sload 1540 dL_law_1539 hz1539 rfl ?_
                                                                                    refine oRun.nameI hv1539 ?_
                                                                                    refine oRun.aload_n 1541 dL_law_1540 0 rfl rfl (Nat.le_of_ble_eq_true rfl) rfl ?_
                                                                                    refine oRun.iload_n 1542 dL_law_1541 3 rfl rfl rfl ?_
                                                                                    refine oRun.iconst 1543 dL_law_1542 oc_i3 rfl ?_
                                                                                    refine oRun.iadd 1544 dL_law_1543 rfl ?_
                                                                                    obtain ⟨v1544, hv1544, h⟩ := oB1 h
                                                                                    obtain ⟨hz1544, hv1544⟩ := oXA_ok hv1544
                                                                                    refine oRun.sload 1545 dL_law_1544 hz1544 rfl ?_
                                                                                    refine oRun.nameI hv1544 ?_
                                                                                    refine oRun.i2l 1546 dL_law_1545 rfl ?_
                                                                                    refine oRun.bipush 1548 dL_law_1546 oc_b32 rfl ?_
                                                                                    refine oRun.lshl 1549 dL_law_1548 rfl ?_
                                                                                    refine oRun.aload_n 1550 dL_law_1549 0 rfl rfl (Nat.le_of_ble_eq_true rfl) rfl ?_
                                                                                    refine oRun.iload_n 1551 dL_law_1550 3 rfl rfl rfl ?_
                                                                                    refine oRun.iconst 1552 dL_law_1551 oc_i4 rfl ?_
                                                                                    refine oRun.iadd 1553 dL_law_1552 rfl ?_
                                                                                    obtain ⟨v1553, hv1553, h⟩ := oB1 h
                                                                                    obtain ⟨hz1553, hv1553⟩ := oXA_ok hv1553
                                                                                    refine oRun.sload 1554 dL_law_1553 hz1553 rfl ?_
                                                                                    refine oRun.nameI hv1553 ?_
                                                                                    refine oRun.i2l 1555 dL_law_1554 rfl ?_
                                                                                    refine oRun.ldc2 1558 dL_law_1555 wd_6_67 rfl ?_
                                                                                    refine oRun.land 1559 dL_law_1558 rfl ?_
                                                                                    refine oRun.lor 1560 dL_law_1559 rfl ?_
                                                                                    obtain ⟨r1560, hr1560, h⟩ := oB1 h
                                                                                    refine oRun.callV (as := [.int v1534, .int v1539, .long ((oLS (v1544.toInt64) 32) ||| (v1553.toInt64 &&& 4294967295))]) 1563 dL_law_1560 lk_RL_180 (oFit_i (Nat.le_of_ble_eq_true rfl) (Nat.le_of_ble_eq_true rfl)) rfl rfl rfl rfl (Nat.le_of_ble_eq_true rfl) (Nat.le_of_ble_eq_true rfl) rfl (E_X9_put hr1560) rfl ?_
                                                                                    show oRun G _ 1563 _ [.int r1560.1, .int r1526.1] _ _ _
                                                                                    by_cases c1563 : r1526.1 = r1560.1
                                                                                    · replace h := oIp c1563 h
                                                                                      refine oRun.icmp_eq_t 1651 dL_law_1563 c1563 rfl ?_
                                                                                      refine oRun.iinc 1654 dL_law_1651 3 rfl (oAddC oc_i6) (Nat.le_of_ble_eq_true rfl) rfl rfl ?_
                                                                                      refine oRun.goto 18 dL_law_1654 rfl ?_
                                                                                      cases h
                                                                                      refine oRun.sub [1, 2, 3, 0] rfl ?_
                                                                                      exact hc _ rfl
                                                                                    · replace h := oIn c1563 h
                                                                                      refine oRun.icmp_eq_f 1566 dL_law_1563 rfl c1563 rfl ?_
                                                                                      refine oRun.iconst 1567 dL_law_1566 oc_i0 rfl ?_
                                                                                      cases h
                                                                                      obtain ⟨hr1, hr2⟩ := hx _ rfl
                                                                                      rw [hr1, hr2]
                                                                                      exact oRun.ret (r := some (.int 0)) dL_law_1567
                                                                                  · replace h := oIn c33_38 h
                                                                                    by_cases c33_39 : v33 = 39
                                                                                    · replace h := oIp c33_39 h
                                                                                      refine oRun.tsin 1568 dL_law_33 (q := 39) (by rw [c33_39]; rfl) (by decide) (by decide) rfl rfl ?_
                                                                                      refine oRun.aload_n 1569 dL_law_1568 1 rfl rfl (Nat.le_of_ble_eq_true rfl) rfl ?_
                                                                                      refine oRun.aload_n 1570 dL_law_1569 0 rfl rfl (Nat.le_of_ble_eq_true rfl) rfl ?_
                                                                                      refine oRun.iload_n 1571 dL_law_1570 3 rfl rfl rfl ?_
                                                                                      refine oRun.iconst 1572 dL_law_1571 oc_i1 rfl ?_
                                                                                      refine oRun.iadd 1573 dL_law_1572 rfl ?_
                                                                                      obtain ⟨v1573, hv1573, h⟩ := oB1 h
                                                                                      obtain ⟨hz1573, hv1573⟩ := oXA_ok hv1573
                                                                                      refine oRun.sload 1574 dL_law_1573 hz1573 rfl ?_
                                                                                      refine oRun.nameI hv1573 ?_
                                                                                      refine oRun.aload_n 1575 dL_law_1574 0 rfl rfl (Nat.le_of_ble_eq_true rfl) rfl ?_
                                                                                      refine oRun.iload_n 1576 dL_law_1575 3 rfl rfl rfl ?_
                                                                                      refine oRun.iconst 1577 dL_law_1576 oc_i2 rfl ?_
                                                                                      refine oRun.iadd 1578 dL_law_1577 rfl ?_
                                                                                      obtain ⟨v1578, hv1578, h⟩ := oB1 h
                                                                                      obtain ⟨hz1578, hv1578⟩ := oXA_ok hv1578
                                                                                      refine oRun.sload 1579 dL_law_1578 hz1578 rfl ?_
                                                                                      refine oRun.nameI hv1578 ?_
                                                                                      obtain ⟨r1579, hr1579, h⟩ := oB1 h
                                                                                      refine oRun.callV (as := [.int v1573, .int v1578]) 1582 dL_law_1579 lk_RL_181 (oFit_i (Nat.le_of_ble_eq_true rfl) (Nat.le_of_ble_eq_true rfl)) rfl rfl rfl rfl (Nat.le_of_ble_eq_true rfl) (Nat.le_of_ble_eq_true rfl) rfl (E_X8_get hr1579) rfl ?_
                                                                                      show oRun G _ 1582 _ [.long r1579] _ _ _
                                                                                      refine oRun.aload_n 1583 dL_law_1582 2 rfl rfl (Nat.le_of_ble_eq_true rfl) rfl ?_
                                                                                      refine oRun.aload_n 1584 dL_law_1583 0 rfl rfl (Nat.le_of_ble_eq_true rfl) rfl ?_
                                                                                      refine oRun.iload_n 1585 dL_law_1584 3 rfl rfl rfl ?_
                                                                                      refine oRun.iconst 1586 dL_law_1585 oc_i1 rfl ?_
                                                                                      refine oRun.iadd 1587 dL_law_1586 rfl ?_
                                                                                      obtain ⟨v1587, hv1587, h⟩ := oB1 h
                                                                                      obtain ⟨hz1587, hv1587⟩ := oXA_ok hv1587
                                                                                      refine oRun.sload 1588 dL_law_1587 hz1587 rfl ?_
                                                                                      refine oRun.nameI hv1587 ?_
                                                                                      refine oRun.aload_n 1589 dL_law_1588 0 rfl rfl (Nat.le_of_ble_eq_true rfl) rfl ?_
                                                                                      refine oRun.iload_n 1590 dL_law_1589 3 rfl rfl rfl ?_
                                                                                      refine oRun.iconst 1591 dL_law_1590 oc_i2 rfl ?_
                                                                                      refine oRun.iadd 1592 dL_law_1591 rfl ?_
                                                                                      obtain ⟨v1592, hv1592, h⟩ := oB1 h
                                                                                      obtain ⟨hz1592, hv1592⟩ := oXA_ok hv1592
                                                                                      refine oRun.sload 1593 dL_law_1592 hz1592 rfl ?_
                                                                                      refine oRun.nameI hv1592 ?_
                                                                                      obtain ⟨r1593, hr1593, h⟩ := oB1 h
                                                                                      refine oRun.callV (as := [.int v1587, .int v1592]) 1596 dL_law_1593 lk_RL_184 (oFit_i (Nat.le_of_ble_eq_true rfl) (Nat.le_of_ble_eq_true rfl)) rfl rfl rfl rfl (Nat.le_of_ble_eq_true rfl) (Nat.le_of_ble_eq_true rfl) rfl (E_X9_get hr1593) rfl ?_
                                                                                      show oRun G _ 1596 _ [.long r1593, .long r1579] _ _ _
                                                                                      refine oRun.lcmp 1597 dL_law_1596 rfl ?_
                                                                                      by_cases c1597 : r1579 = r1593
                                                                                      · replace h := oIp c1597 h
                                                                                        refine oRun.if_eq_t 1651 dL_law_1597 ((oLc_eq _ _).mpr c1597) rfl ?_
                                                                                        refine oRun.iinc 1654 dL_law_1651 3 rfl (oAddC oc_i6) (Nat.le_of_ble_eq_true rfl) rfl rfl ?_
                                                                                        refine oRun.goto 18 dL_law_1654 rfl ?_
                                                                                        cases h
                                                                                        refine oRun.sub [1, 2, 3, 0] rfl ?_
                                                                                        exact hc _ rfl
                                                                                      · replace h := oIn c1597 h
                                                                                        refine oRun.if_eq_f 1600 dL_law_1597 rfl (mt (oLc_eq _ _).mp c1597) rfl ?_
                                                                                        refine oRun.iconst 1601 dL_law_1600 oc_i0 rfl ?_
                                                                                        cases h
                                                                                        obtain ⟨hr1, hr2⟩ := hx _ rfl
                                                                                        rw [hr1, hr2]
                                                                                        exact oRun.ret (r := some (.int 0)) dL_law_1601
                                                                                    · replace h := oIn c33_39 h
                                                                                      by_cases c33_40 : v33 = 40
                                                                                      · replace h := oIp c33_40 h
                                                                                        refine oRun.tsin 1602 dL_law_33 (q := 40) (by rw [c33_40]; rfl) (by decide) (by decide) rfl rfl ?_
                                                                                        refine oRun.aload_n 1603 dL_law_1602 1 rfl rfl (Nat.le_of_ble_eq_true rfl) rfl ?_
                                                                                        obtain ⟨r1603, hr1603, h⟩ := oB1 h
                                                                                        refine oRun.callV (as := []) 1606 dL_law_1603 lk_RL_185 (oFit_i (Nat.le_of_ble_eq_true rfl) (Nat.le_of_ble_eq_true rfl)) rfl rfl rfl rfl (Nat.le_of_ble_eq_true rfl) (Nat.le_of_ble_eq_true rfl) rfl (E_X8_image hr1603) rfl ?_
                                                                                        show oRun G _ 1606 _ [.int r1603.1] _ _ _
                                                                                        refine oRun.aload_n 1607 dL_law_1606 2 rfl rfl (Nat.le_of_ble_eq_true rfl) rfl ?_
                                                                                        obtain ⟨r1607, hr1607, h⟩ := oB1 h
                                                                                        refine oRun.callV (as := []) 1610 dL_law_1607 lk_RL_188 (oFit_i (Nat.le_of_ble_eq_true rfl) (Nat.le_of_ble_eq_true rfl)) rfl rfl rfl rfl (Nat.le_of_ble_eq_true rfl) (Nat.le_of_ble_eq_true rfl) rfl (E_X9_image hr1607) rfl ?_
                                                                                        show oRun G _ 1610 _ [.int r1607.1, .int r1603.1] _ _ _
                                                                                        by_cases c1610 : r1603.1 = r1607.1
                                                                                        · replace h := oIp c1610 h
                                                                                          refine oRun.icmp_eq_t 1651 dL_law_1610 c1610 rfl ?_
                                                                                          refine oRun.iinc 1654 dL_law_1651 3 rfl (oAddC oc_i6) (Nat.le_of_ble_eq_true rfl) rfl rfl ?_
                                                                                          refine oRun.goto 18 dL_law_1654 rfl ?_
                                                                                          cases h
                                                                                          refine oRun.sub [1, 2, 3, 0] rfl ?_
                                                                                          exact hc _ rfl
                                                                                        · replace h := oIn c1610 h
                                                                                          refine oRun.icmp_eq_f 1613 dL_law_1610 rfl c1610 rfl ?_
                                                                                          refine oRun.iconst 1614 dL_law_1613 oc_i0 rfl ?_
                                                                                          cases h
                                                                                          obtain ⟨hr1, hr2⟩ := hx _ rfl
                                                                                          rw [hr1, hr2]
                                                                                          exact oRun.ret (r := some (.int 0)) dL_law_1614
                                                                                      · replace h := oIn c33_40 h
                                                                                        by_cases c33_41 : v33 = 41
                                                                                        · replace h := oIp c33_41 h
                                                                                          refine oRun.tsin 1615 dL_law_33 (q := 41) (by rw [c33_41]; rfl) (by decide) (by decide) rfl rfl ?_
                                                                                          refine oRun.aload_n 1616 dL_law_1615 1 rfl rfl (Nat.le_of_ble_eq_true rfl) rfl ?_
                                                                                          obtain ⟨r1616, hr1616, h⟩ := oB1 h
                                                                                          refine oRun.callV (as := []) 1619 dL_law_1616 lk_RL_189 (oFit_i (Nat.le_of_ble_eq_true rfl) (Nat.le_of_ble_eq_true rfl)) rfl rfl rfl rfl (Nat.le_of_ble_eq_true rfl) (Nat.le_of_ble_eq_true rfl) rfl (E_X8_undo hr1616) rfl ?_
                                                                                          show oRun G _ 1619 _ [.int r1616.1] _ _ _
                                                                                          refine oRun.aload_n 1620 dL_law_1619 2 rfl rfl (Nat.le_of_ble_eq_true rfl) rfl ?_
                                                                                          obtain ⟨r1620, hr1620, h⟩ := oB1 h
                                                                                          refine oRun.callV (as := []) 1623 dL_law_1620 lk_RL_192 (oFit_i (Nat.le_of_ble_eq_true rfl) (Nat.le_of_ble_eq_true rfl)) rfl rfl rfl rfl (Nat.le_of_ble_eq_true rfl) (Nat.le_of_ble_eq_true rfl) rfl (E_X9_undo hr1620) rfl ?_
                                                                                          show oRun G _ 1623 _ [.int r1620.1, .int r1616.1] _ _ _
                                                                                          by_cases c1623 : r1616.1 = r1620.1
                                                                                          · replace h := oIp c1623 h
                                                                                            refine oRun.icmp_eq_t 1651 dL_law_1623 c1623 rfl ?_
                                                                                            refine oRun.iinc 1654 dL_law_1651 3 rfl (oAddC oc_i6) (Nat.le_of_ble_eq_true rfl) rfl rfl ?_
                                                                                            refine oRun.goto 18 dL_law_1654 rfl ?_
                                                                                            cases h
                                                                                            refine oRun.sub [1, 2, 3, 0] rfl ?_
                                                                                            exact hc _ rfl
                                                                                          · replace h := oIn c1623 h
                                                                                            refine oRun.icmp_eq_f 1626 dL_law_1623 rfl c1623 rfl ?_
                                                                                            refine oRun.iconst 1627 dL_law_1626 oc_i0 rfl ?_
                                                                                            cases h
                                                                                            obtain ⟨hr1, hr2⟩ := hx _ rfl
                                                                                            rw [hr1, hr2]
                                                                                            exact oRun.ret (r := some (.int 0)) dL_law_1627
                                                                                        · replace h := oIn c33_41 h
                                                                                          by_cases c33_42 : v33 = 42
                                                                                          · replace h := oIp c33_42 h
                                                                                            refine oRun.tsin 1628 dL_law_33 (q := 42) (by rw [c33_42]; rfl) (by decide) (by decide) rfl rfl ?_
                                                                                            refine oRun.aload_n 1629 dL_law_1628 1 rfl rfl (Nat.le_of_ble_eq_true rfl) rfl ?_
                                                                                            refine oRun.aload_n 1630 dL_law_1629 0 rfl rfl (Nat.le_of_ble_eq_true rfl) rfl ?_
                                                                                            refine oRun.iload_n 1631 dL_law_1630 3 rfl rfl rfl ?_
                                                                                            refine oRun.iconst 1632 dL_law_1631 oc_i1 rfl ?_
                                                                                            refine oRun.iadd 1633 dL_law_1632 rfl ?_
                                                                                            obtain ⟨v1633, hv1633, h⟩ := oB1 h
                                                                                            obtain ⟨hz1633, hv1633⟩ := oXA_ok hv1633
                                                                                            refine oRun.sload 1634 dL_law_1633 hz1633 rfl ?_
                                                                                            refine oRun.nameI hv1633 ?_
                                                                                            obtain ⟨r1634, hr1634, h⟩ := oB1 h
                                                                                            refine oRun.callV (as := [.int v1633]) 1637 dL_law_1634 lk_RL_193 (oFit_i (Nat.le_of_ble_eq_true rfl) (Nat.le_of_ble_eq_true rfl)) rfl rfl rfl rfl (Nat.le_of_ble_eq_true rfl) (Nat.le_of_ble_eq_true rfl) rfl (E_X8_count hr1634) rfl ?_
                                                                                            show oRun G _ 1637 _ [.int r1634] _ _ _
                                                                                            refine oRun.aload_n 1638 dL_law_1637 2 rfl rfl (Nat.le_of_ble_eq_true rfl) rfl ?_
                                                                                            refine oRun.aload_n 1639 dL_law_1638 0 rfl rfl (Nat.le_of_ble_eq_true rfl) rfl ?_
                                                                                            refine oRun.iload_n 1640 dL_law_1639 3 rfl rfl rfl ?_
                                                                                            refine oRun.iconst 1641 dL_law_1640 oc_i1 rfl ?_
                                                                                            refine oRun.iadd 1642 dL_law_1641 rfl ?_
                                                                                            obtain ⟨v1642, hv1642, h⟩ := oB1 h
                                                                                            obtain ⟨hz1642, hv1642⟩ := oXA_ok hv1642
                                                                                            refine oRun.sload 1643 dL_law_1642 hz1642 rfl ?_
                                                                                            refine oRun.nameI hv1642 ?_
                                                                                            obtain ⟨r1643, hr1643, h⟩ := oB1 h
                                                                                            refine oRun.callV (as := [.int v1642]) 1646 dL_law_1643 lk_RL_196 (oFit_i (Nat.le_of_ble_eq_true rfl) (Nat.le_of_ble_eq_true rfl)) rfl rfl rfl rfl (Nat.le_of_ble_eq_true rfl) (Nat.le_of_ble_eq_true rfl) rfl (E_X9_count hr1643) rfl ?_
                                                                                            show oRun G _ 1646 _ [.int r1643, .int r1634] _ _ _
                                                                                            by_cases c1646 : r1634 = r1643
                                                                                            · replace h := oIp c1646 h
                                                                                              refine oRun.icmp_eq_t 1651 dL_law_1646 c1646 rfl ?_
                                                                                              refine oRun.iinc 1654 dL_law_1651 3 rfl (oAddC oc_i6) (Nat.le_of_ble_eq_true rfl) rfl rfl ?_
                                                                                              refine oRun.goto 18 dL_law_1654 rfl ?_
                                                                                              cases h
                                                                                              refine oRun.sub [1, 2, 3, 0] rfl ?_
                                                                                              exact hc _ rfl
                                                                                            · replace h := oIn c1646 h
                                                                                              refine oRun.icmp_eq_f 1649 dL_law_1646 rfl c1646 rfl ?_
                                                                                              refine oRun.iconst 1650 dL_law_1649 oc_i0 rfl ?_
                                                                                              cases h
                                                                                              obtain ⟨hr1, hr2⟩ := hx _ rfl
                                                                                              rw [hr1, hr2]
                                                                                              exact oRun.ret (r := some (.int 0)) dL_law_1650
                                                                                          · replace h := oIn c33_42 h
                                                                                            have dk : oRun G M_L_law 1651 [(0, .ref 64), (1, .ref 0), (2, .ref 51), (3, .int x3)] [] m r m' := by
                                                                                              refine oRun.iinc 1654 dL_law_1651 3 rfl (oAddC oc_i6) (Nat.le_of_ble_eq_true rfl) rfl rfl ?_
                                                                                              refine oRun.goto 18 dL_law_1654 rfl ?_
                                                                                              cases h
                                                                                              refine oRun.sub [1, 2, 3, 0] rfl ?_
                                                                                              exact hc _ rfl
                                                                                            by_cases hl33 : v33.toInt < 0 ∨ 42 < v33.toInt
                                                                                            · exact oRun.tsout 1651 dL_law_33 hl33 rfl dk
                                                                                            · have hq : v33.toInt = 0 ∨ v33.toInt = 1 ∨ v33.toInt = 2 ∨ v33.toInt = 3 ∨ v33.toInt = 4 ∨ v33.toInt = 5 ∨ v33.toInt = 6 ∨ v33.toInt = 7 ∨ v33.toInt = 8 ∨ v33.toInt = 9 ∨ v33.toInt = 10 ∨ v33.toInt = 11 ∨ v33.toInt = 12 ∨ v33.toInt = 13 ∨ v33.toInt = 14 ∨ v33.toInt = 15 ∨ v33.toInt = 16 ∨ v33.toInt = 17 ∨ v33.toInt = 18 ∨ v33.toInt = 19 ∨ v33.toInt = 20 ∨ v33.toInt = 21 ∨ v33.toInt = 22 ∨ v33.toInt = 23 ∨ v33.toInt = 24 ∨ v33.toInt = 25 ∨ v33.toInt = 26 ∨ v33.toInt = 27 ∨ v33.toInt = 28 ∨ v33.toInt = 29 ∨ v33.toInt = 30 ∨ v33.toInt = 31 ∨ v33.toInt = 32 ∨ v33.toInt = 33 ∨ v33.toInt = 34 ∨ v33.toInt = 35 ∨ v33.toInt = 36 ∨ v33.toInt = 37 ∨ v33.toInt = 38 ∨ v33.toInt = 39 ∨ v33.toInt = 40 ∨ v33.toInt = 41 ∨ v33.toInt = 42 := by omega
                                                                                              rcases hq with hq | hq | hq | hq | hq | hq | hq | hq | hq | hq | hq | hq | hq | hq | hq | hq | hq | hq | hq | hq | hq | hq | hq | hq | hq | hq | hq | hq | hq | hq | hq | hq | hq | hq | hq | hq | hq | hq | hq | hq | hq | hq | hq
                                                                                              · exact absurd (oTs (k := 0) rfl hq) c33_0
                                                                                              · exact absurd (oTs (k := 1) rfl hq) c33_1
                                                                                              · exact absurd (oTs (k := 2) rfl hq) c33_2
                                                                                              · exact absurd (oTs (k := 3) rfl hq) c33_3
                                                                                              · exact absurd (oTs (k := 4) rfl hq) c33_4
                                                                                              · exact absurd (oTs (k := 5) rfl hq) c33_5
                                                                                              · exact absurd (oTs (k := 6) rfl hq) c33_6
                                                                                              · exact absurd (oTs (k := 7) rfl hq) c33_7
                                                                                              · exact absurd (oTs (k := 8) rfl hq) c33_8
                                                                                              · exact absurd (oTs (k := 9) rfl hq) c33_9
                                                                                              · exact absurd (oTs (k := 10) rfl hq) c33_10
                                                                                              · exact absurd (oTs (k := 11) rfl hq) c33_11
                                                                                              · exact absurd (oTs (k := 12) rfl hq) c33_12
                                                                                              · exact absurd (oTs (k := 13) rfl hq) c33_13
                                                                                              · exact absurd (oTs (k := 14) rfl hq) c33_14
                                                                                              · exact absurd (oTs (k := 15) rfl hq) c33_15
                                                                                              · exact absurd (oTs (k := 16) rfl hq) c33_16
                                                                                              · exact absurd (oTs (k := 17) rfl hq) c33_17
                                                                                              · exact absurd (oTs (k := 18) rfl hq) c33_18
                                                                                              · exact absurd (oTs (k := 19) rfl hq) c33_19
                                                                                              · exact absurd (oTs (k := 20) rfl hq) c33_20
                                                                                              · exact absurd (oTs (k := 21) rfl hq) c33_21
                                                                                              · exact absurd (oTs (k := 22) rfl hq) c33_22
                                                                                              · exact absurd (oTs (k := 23) rfl hq) c33_23
                                                                                              · exact absurd (oTs (k := 24) rfl hq) c33_24
                                                                                              · exact absurd (oTs (k := 25) rfl hq) c33_25
                                                                                              · exact absurd (oTs (k := 26) rfl hq) c33_26
                                                                                              · exact absurd (oTs (k := 27) rfl hq) c33_27
                                                                                              · exact absurd (oTs (k := 28) rfl hq) c33_28
                                                                                              · exact absurd (oTs (k := 29) rfl hq) c33_29
                                                                                              · exact absurd (oTs (k := 30) rfl hq) c33_30
                                                                                              · exact absurd (oTs (k := 31) rfl hq) c33_31
                                                                                              · exact absurd (oTs (k := 32) rfl hq) c33_32
                                                                                              · exact absurd (oTs (k := 33) rfl hq) c33_33
                                                                                              · exact absurd (oTs (k := 34) rfl hq) c33_34
                                                                                              · exact absurd (oTs (k := 35) rfl hq) c33_35
                                                                                              · exact absurd (oTs (k := 36) rfl hq) c33_36
                                                                                              · exact absurd (oTs (k := 37) rfl hq) c33_37
                                                                                              · exact absurd (oTs (k := 38) rfl hq) c33_38
                                                                                              · exact absurd (oTs (k := 39) rfl hq) c33_39
                                                                                              · exact absurd (oTs (k := 40) rfl hq) c33_40
                                                                                              · exact absurd (oTs (k := 41) rfl hq) c33_41
                                                                                              · exact absurd (oTs (k := 42) rfl hq) c33_42
set_option maxRecDepth 100000 in
set_option maxHeartbeats 4000000 in
theorem E_L_law {G : oG} {m : oM} {w : Int32 × oM} (h : F_L_law (oXL G) (oXs G) m = some w) : oRun G M_L_law 16 [(0, .ref 64), (1, .ref 0), (2, .ref 51)] [] m (some (.int w.1)) w.2 := by
  unfold F_L_law at h
  refine oRun.iconst 17 dL_law_16 oc_i0 rfl ?_
  refine oRun.istore_n 18 dL_law_17 rfl (Nat.le_of_ble_eq_true rfl) rfl rfl ?_
  obtain ⟨b18, hb18, h⟩ := oB1 h
  refine oRun.sub [1, 2, 3, 0] rfl ?_
  refine E_L_law_L18 _ _ _ _ hb18 ?_
  rcases b18 with y18 | z18
  · replace h := oSl h
    show oRun G _ _ _ _ _ _ _
    refine oRun.iconst 1658 dL_law_1657 oc_i1 rfl ?_
    rw [← Option.some.inj h]
    exact oRun.ret (r := some (.int 1)) dL_law_1658
  · replace h := oSr h
    cases h
    exact ⟨rfl, rfl⟩

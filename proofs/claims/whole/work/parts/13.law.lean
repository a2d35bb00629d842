set_option maxHeartbeats 8000000 in
set_option maxRecDepth 100000 in
theorem lc_c0 {K : kEnv} {l : Launch} {D : va_G} {cy : Nat → ClassId} {A : Nat → Prop} {a b : Nat → Nat} {o0 o1 sb L : Nat} {xs : Nat → Int32} {sa : Nat → Nat} {Q : State → Prop} (C : kC K D cy A 9 cL_law RL wsL_law ret) (CX : kCX K l A sa) (hlt : l.stackTraces = false) (CS : kScr K A sb L xs) {S T : kSt} {g : Nat → Int64} {d : Nat → UInt64} {x5 : Int32} {cells slots : Nat} {q : kLw} (hcl : cells ≤ 15000) (hsl : slots ≤ 150000) (h : f_L_c0 L xs S T g d x5 = some (some q)) (kk : ∀ (cells2 slots2 : Nat), cells2 ≤ cells + 20 → slots2 ≤ slots + 200 → kG K l D A room_1 9 Q (lwx a b cy o0 o1 q.1 q.2.1 q.2.2.1 q.2.2.2) cells2 slots2 1847 [(0, .ref sb), (1, .ref (a 0)), (2, .ref (b 0)), (3, .ref o0), (4, .ref o1), (5, .int x5)] []) : kG K l D A room_1 9 Q (lwx a b cy o0 o1 S T g d) cells slots 172 [(0, .ref sb), (1, .ref (a 0)), (2, .ref (b 0)), (3, .ref o0), (4, .ref o1), (5, .int x5)] [] := by
  rw [f_L_c0] at h
  refine kr_aload_n C 1 dL_law_172 rfl rfl ?_
  refine kr_aload_n C 3 dL_law_173 rfl rfl ?_
  obtain ⟨v1, hv1, h⟩ := kob h
  refine kr_xT1 C CX (k := 2) (As := [.ref (a 0), .ref (o0)]) (rest := []) (c_L_addAccount hlt hv1) gL_law_L_addAccount rfl rfl rfl (by decide +kernel) ⟨(Nat.le_of_ble_eq_true rfl), (Nat.le_of_ble_eq_true rfl)⟩ ⟨by show _ ≤ 619962; omega, by show _ ≤ 7168635; omega⟩ rfl rfl (Nat.le_of_ble_eq_true rfl) dL_law_174 ?_
  refine kr_istore C [1, 2, 3, 4, 5, 6, 0] dL_law_177 (by decide) rfl ?_
  refine kr_aload_n C 2 dL_law_179 rfl rfl ?_
  obtain ⟨v2, hv2, h⟩ := kob h
  refine law_toY ?_
  refine kr_callV1 C (k := 0) (As := []) (rest := []) (c_X3_addAccount hv2) gL_law_X3_addAccount rfl rfl rfl (by decide +kernel) ⟨(Nat.le_of_ble_eq_true rfl), (Nat.le_of_ble_eq_true rfl)⟩ ⟨by show _ ≤ 619962; omega, by show _ ≤ 7168635; omega⟩ 0 rfl rfl rfl rfl (Nat.le_of_ble_eq_true rfl) dL_law_180 ?_
  refine law_toX (T := v2.2) ?_
  refine kr_istore C [1, 2, 3, 4, 5, 6, 7, 0] dL_law_183 (by decide) rfl ?_
  refine kr_aload_n C 2 dL_law_185 rfl rfl ?_
  obtain ⟨v3, hv3, h⟩ := kob h
  refine law_toY ?_
  refine kr_callV1 C (k := 0) (As := []) (rest := []) (c_X3_thrown hv3) gL_law_X3_thrown rfl rfl rfl (by decide +kernel) ⟨(Nat.le_of_ble_eq_true rfl), (Nat.le_of_ble_eq_true rfl)⟩ ⟨by show _ ≤ 619962; omega, by show _ ≤ 7168635; omega⟩ 0 rfl rfl rfl rfl (Nat.le_of_ble_eq_true rfl) dL_law_186 ?_
  refine law_toX (T := v2.2) ?_
  refine kr_iload C 6 dL_law_189 rfl ?_
  refine kr_icmp_eq C 196 dL_law_191 (by decide) (fun hc => ?_) (fun hc => ?_)
  · have h := (if_pos hc).symm.trans h
    refine kr_iload C 6 dL_law_196 rfl ?_
    refine kr_if_ne C 213 dL_law_198 (by decide) (fun hc => ?_) (fun hc => ?_)
    · have h := (if_pos hc).symm.trans h
      refine kr_aload_n C 3 dL_law_201 rfl rfl ?_
      refine kr_iconst C (v := 0) dL_law_202 (by decide) ?_
      refine kr_lald C 31 rfl (vp_in_iff.mpr (by decide)) dL_law_203 ?_
      refine kr_iload C 7 dL_law_204 rfl ?_
      refine kr_i2l C dL_law_206 ?_
      refine kr_lcmp C dL_law_207 ?_
      refine kr_if_eq C 213 dL_law_208 (by decide) (fun hc => ?_) (fun hc => ?_)
      · have h := (if_pos hc).symm.trans h
        refine kr_goto C 1847 dL_law_213 (by decide) ?_
        cases h
        refine kr_sub [0, 1, 2, 3, 4, 5] rfl ?_
        exact kk _ _ (by omega) (by omega)
      have h := (if_neg hc).symm.trans h
      refine kr_iconst C (v := 0) dL_law_211 (by decide) ?_
      cases h
    have h := (if_neg hc).symm.trans h
    refine kr_goto C 1847 dL_law_213 (by decide) ?_
    cases h
    refine kr_sub [0, 1, 2, 3, 4, 5] rfl ?_
    exact kk _ _ (by omega) (by omega)
  have h := (if_neg hc).symm.trans h
  refine kr_iconst C (v := 0) dL_law_194 (by decide) ?_
  cases h
set_option maxHeartbeats 8000000 in
set_option maxRecDepth 100000 in
theorem lc_c1 {K : kEnv} {l : Launch} {D : va_G} {cy : Nat → ClassId} {A : Nat → Prop} {a b : Nat → Nat} {o0 o1 sb L : Nat} {xs : Nat → Int32} {sa : Nat → Nat} {Q : State → Prop} (C : kC K D cy A 9 cL_law RL wsL_law ret) (CX : kCX K l A sa) (hlt : l.stackTraces = false) (CS : kScr K A sb L xs) {S T : kSt} {g : Nat → Int64} {d : Nat → UInt64} {x5 : Int32} {cells slots : Nat} {q : kLw} (hcl : cells ≤ 15000) (hsl : slots ≤ 150000) (h : f_L_c1 L xs S T g d x5 = some (some q)) (kk : ∀ (cells2 slots2 : Nat), cells2 ≤ cells + 20 → slots2 ≤ slots + 200 → kG K l D A room_1 9 Q (lwx a b cy o0 o1 q.1 q.2.1 q.2.2.1 q.2.2.2) cells2 slots2 1847 [(0, .ref sb), (1, .ref (a 0)), (2, .ref (b 0)), (3, .ref o0), (4, .ref o1), (5, .int x5)] []) : kG K l D A room_1 9 Q (lwx a b cy o0 o1 S T g d) cells slots 216 [(0, .ref sb), (1, .ref (a 0)), (2, .ref (b 0)), (3, .ref o0), (4, .ref o1), (5, .int x5)] [] := by
  rw [f_L_c1] at h
  refine kr_aload_n C 1 dL_law_216 rfl rfl ?_
  refine kr_aload_n C 0 dL_law_217 rfl rfl ?_
  refine kr_iload C 5 dL_law_218 rfl ?_
  refine kr_iconst C (v := 1) dL_law_220 (by decide) ?_
  refine kr_iadd C dL_law_221 ?_
  obtain ⟨hb4, h⟩ := kif h
  refine kr_sld C CS (kin_in hb4) dL_law_222 ?_
  refine kr_aload_n C 0 dL_law_223 rfl rfl ?_
  refine kr_iload C 5 dL_law_224 rfl ?_
  refine kr_iconst C (v := 2) dL_law_226 (by decide) ?_
  refine kr_iadd C dL_law_227 ?_
  obtain ⟨hb5, h⟩ := kif h
  refine kr_sld C CS (kin_in hb5) dL_law_228 ?_
  refine kr_aload_n C 3 dL_law_229 rfl rfl ?_
  obtain ⟨v6, hv6, h⟩ := kob h
  refine kr_xT1 C CX (k := 4) (As := [.ref (a 0), .int (xs (x5 + (1 : Int32)).toNatClampNeg), .int (xs (x5 + (2 : Int32)).toNatClampNeg), .ref (o0)]) (rest := []) (c_L_setHeir hlt hv6) gL_law_L_setHeir rfl rfl rfl (by decide +kernel) ⟨(Nat.le_of_ble_eq_true rfl), (Nat.le_of_ble_eq_true rfl)⟩ ⟨by show _ ≤ 619962; omega, by show _ ≤ 7168635; omega⟩ rfl rfl (Nat.le_of_ble_eq_true rfl) dL_law_230 ?_
  refine kr_istore C [1, 2, 3, 4, 5, 6, 0] dL_law_233 (by decide) rfl ?_
  refine kr_aload_n C 2 dL_law_235 rfl rfl ?_
  refine kr_aload_n C 0 dL_law_236 rfl rfl ?_
  refine kr_iload C 5 dL_law_237 rfl ?_
  refine kr_iconst C (v := 1) dL_law_239 (by decide) ?_
  refine kr_iadd C dL_law_240 ?_
  obtain ⟨hb7, h⟩ := kif h
  refine kr_sld C CS (kin_in hb7) dL_law_241 ?_
  refine kr_aload_n C 0 dL_law_242 rfl rfl ?_
  refine kr_iload C 5 dL_law_243 rfl ?_
  refine kr_iconst C (v := 2) dL_law_245 (by decide) ?_
  refine kr_iadd C dL_law_246 ?_
  obtain ⟨hb8, h⟩ := kif h
  refine kr_sld C CS (kin_in hb8) dL_law_247 ?_
  obtain ⟨v9, hv9, h⟩ := kob h
  refine law_toY ?_
  refine kr_callV1 C (k := 2) (As := [.int (xs (x5 + (1 : Int32)).toNatClampNeg), .int (xs (x5 + (2 : Int32)).toNatClampNeg)]) (rest := []) (c_X3_setHeir hv9) gL_law_X3_setHeir rfl rfl rfl (by decide +kernel) ⟨(Nat.le_of_ble_eq_true rfl), (Nat.le_of_ble_eq_true rfl)⟩ ⟨by show _ ≤ 619962; omega, by show _ ≤ 7168635; omega⟩ 0 rfl rfl rfl rfl (Nat.le_of_ble_eq_true rfl) dL_law_248 ?_
  refine law_toX (T := v9.2) ?_
  refine kr_istore C [1, 2, 3, 4, 5, 6, 7, 0] dL_law_251 (by decide) rfl ?_
  refine kr_aload_n C 2 dL_law_253 rfl rfl ?_
  obtain ⟨v10, hv10, h⟩ := kob h
  refine law_toY ?_
  refine kr_callV1 C (k := 0) (As := []) (rest := []) (c_X3_thrown hv10) gL_law_X3_thrown rfl rfl rfl (by decide +kernel) ⟨(Nat.le_of_ble_eq_true rfl), (Nat.le_of_ble_eq_true rfl)⟩ ⟨by show _ ≤ 619962; omega, by show _ ≤ 7168635; omega⟩ 0 rfl rfl rfl rfl (Nat.le_of_ble_eq_true rfl) dL_law_254 ?_
  refine law_toX (T := v9.2) ?_
  refine kr_iload C 6 dL_law_257 rfl ?_
  refine kr_icmp_eq C 264 dL_law_259 (by decide) (fun hc => ?_) (fun hc => ?_)
  · have h := (if_pos hc).symm.trans h
    refine kr_iload C 6 dL_law_264 rfl ?_
    refine kr_if_ne C 281 dL_law_266 (by decide) (fun hc => ?_) (fun hc => ?_)
    · have h := (if_pos hc).symm.trans h
      refine kr_aload_n C 3 dL_law_269 rfl rfl ?_
      refine kr_iconst C (v := 0) dL_law_270 (by decide) ?_
      refine kr_lald C 31 rfl (vp_in_iff.mpr (by decide)) dL_law_271 ?_
      refine kr_iload C 7 dL_law_272 rfl ?_
      refine kr_i2l C dL_law_274 ?_
      refine kr_lcmp C dL_law_275 ?_
      refine kr_if_eq C 281 dL_law_276 (by decide) (fun hc => ?_) (fun hc => ?_)
      · have h := (if_pos hc).symm.trans h
        refine kr_goto C 1847 dL_law_281 (by decide) ?_
        cases h
        refine kr_sub [0, 1, 2, 3, 4, 5] rfl ?_
        exact kk _ _ (by omega) (by omega)
      have h := (if_neg hc).symm.trans h
      refine kr_iconst C (v := 0) dL_law_279 (by decide) ?_
      cases h
    have h := (if_neg hc).symm.trans h
    refine kr_goto C 1847 dL_law_281 (by decide) ?_
    cases h
    refine kr_sub [0, 1, 2, 3, 4, 5] rfl ?_
    exact kk _ _ (by omega) (by omega)
  have h := (if_neg hc).symm.trans h
  refine kr_iconst C (v := 0) dL_law_262 (by decide) ?_
  cases h
set_option maxHeartbeats 8000000 in
set_option maxRecDepth 100000 in
theorem lc_c2 {K : kEnv} {l : Launch} {D : va_G} {cy : Nat → ClassId} {A : Nat → Prop} {a b : Nat → Nat} {o0 o1 sb L : Nat} {xs : Nat → Int32} {sa : Nat → Nat} {Q : State → Prop} (C : kC K D cy A 9 cL_law RL wsL_law ret) (CX : kCX K l A sa) (hlt : l.stackTraces = false) (CS : kScr K A sb L xs) {S T : kSt} {g : Nat → Int64} {d : Nat → UInt64} {x5 : Int32} {cells slots : Nat} {q : kLw} (hcl : cells ≤ 15000) (hsl : slots ≤ 150000) (h : f_L_c2 L xs S T g d x5 = some (some q)) (kk : ∀ (cells2 slots2 : Nat), cells2 ≤ cells + 20 → slots2 ≤ slots + 200 → kG K l D A room_1 9 Q (lwx a b cy o0 o1 q.1 q.2.1 q.2.2.1 q.2.2.2) cells2 slots2 1847 [(0, .ref sb), (1, .ref (a 0)), (2, .ref (b 0)), (3, .ref o0), (4, .ref o1), (5, .int x5)] []) : kG K l D A room_1 9 Q (lwx a b cy o0 o1 S T g d) cells slots 284 [(0, .ref sb), (1, .ref (a 0)), (2, .ref (b 0)), (3, .ref o0), (4, .ref o1), (5, .int x5)] [] := by
  rw [f_L_c2] at h
  refine kr_aload_n C 1 dL_law_284 rfl rfl ?_
  refine kr_aload_n C 3 dL_law_285 rfl rfl ?_
  obtain ⟨v11, hv11, h⟩ := kob h
  refine kr_xT1 C CX (k := 2) (As := [.ref (a 0), .ref (o0)]) (rest := []) (c_L_addGroup hlt hv11) gL_law_L_addGroup rfl rfl rfl (by decide +kernel) ⟨(Nat.le_of_ble_eq_true rfl), (Nat.le_of_ble_eq_true rfl)⟩ ⟨by show _ ≤ 619962; omega, by show _ ≤ 7168635; omega⟩ rfl rfl (Nat.le_of_ble_eq_true rfl) dL_law_286 ?_
  refine kr_istore C [1, 2, 3, 4, 5, 6, 0] dL_law_289 (by decide) rfl ?_
  refine kr_aload_n C 2 dL_law_291 rfl rfl ?_
  obtain ⟨v12, hv12, h⟩ := kob h
  refine law_toY ?_
  refine kr_callV1 C (k := 0) (As := []) (rest := []) (c_X3_addGroup hv12) gL_law_X3_addGroup rfl rfl rfl (by decide +kernel) ⟨(Nat.le_of_ble_eq_true rfl), (Nat.le_of_ble_eq_true rfl)⟩ ⟨by show _ ≤ 619962; omega, by show _ ≤ 7168635; omega⟩ 0 rfl rfl rfl rfl (Nat.le_of_ble_eq_true rfl) dL_law_292 ?_
  refine law_toX (T := v12.2) ?_
  refine kr_istore C [1, 2, 3, 4, 5, 6, 7, 0] dL_law_295 (by decide) rfl ?_
  refine kr_aload_n C 2 dL_law_297 rfl rfl ?_
  obtain ⟨v13, hv13, h⟩ := kob h
  refine law_toY ?_
  refine kr_callV1 C (k := 0) (As := []) (rest := []) (c_X3_thrown hv13) gL_law_X3_thrown rfl rfl rfl (by decide +kernel) ⟨(Nat.le_of_ble_eq_true rfl), (Nat.le_of_ble_eq_true rfl)⟩ ⟨by show _ ≤ 619962; omega, by show _ ≤ 7168635; omega⟩ 0 rfl rfl rfl rfl (Nat.le_of_ble_eq_true rfl) dL_law_298 ?_
  refine law_toX (T := v12.2) ?_
  refine kr_iload C 6 dL_law_301 rfl ?_
  refine kr_icmp_eq C 308 dL_law_303 (by decide) (fun hc => ?_) (fun hc => ?_)
  · have h := (if_pos hc).symm.trans h
    refine kr_iload C 6 dL_law_308 rfl ?_
    refine kr_if_ne C 325 dL_law_310 (by decide) (fun hc => ?_) (fun hc => ?_)
    · have h := (if_pos hc).symm.trans h
      refine kr_aload_n C 3 dL_law_313 rfl rfl ?_
      refine kr_iconst C (v := 0) dL_law_314 (by decide) ?_
      refine kr_lald C 31 rfl (vp_in_iff.mpr (by decide)) dL_law_315 ?_
      refine kr_iload C 7 dL_law_316 rfl ?_
      refine kr_i2l C dL_law_318 ?_
      refine kr_lcmp C dL_law_319 ?_
      refine kr_if_eq C 325 dL_law_320 (by decide) (fun hc => ?_) (fun hc => ?_)
      · have h := (if_pos hc).symm.trans h
        refine kr_goto C 1847 dL_law_325 (by decide) ?_
        cases h
        refine kr_sub [0, 1, 2, 3, 4, 5] rfl ?_
        exact kk _ _ (by omega) (by omega)
      have h := (if_neg hc).symm.trans h
      refine kr_iconst C (v := 0) dL_law_323 (by decide) ?_
      cases h
    have h := (if_neg hc).symm.trans h
    refine kr_goto C 1847 dL_law_325 (by decide) ?_
    cases h
    refine kr_sub [0, 1, 2, 3, 4, 5] rfl ?_
    exact kk _ _ (by omega) (by omega)
  have h := (if_neg hc).symm.trans h
  refine kr_iconst C (v := 0) dL_law_306 (by decide) ?_
  cases h
set_option maxHeartbeats 8000000 in
set_option maxRecDepth 100000 in
theorem lc_c3 {K : kEnv} {l : Launch} {D : va_G} {cy : Nat → ClassId} {A : Nat → Prop} {a b : Nat → Nat} {o0 o1 sb L : Nat} {xs : Nat → Int32} {sa : Nat → Nat} {Q : State → Prop} (C : kC K D cy A 9 cL_law RL wsL_law ret) (CX : kCX K l A sa) (hlt : l.stackTraces = false) (CS : kScr K A sb L xs) {S T : kSt} {g : Nat → Int64} {d : Nat → UInt64} {x5 : Int32} {cells slots : Nat} {q : kLw} (hcl : cells ≤ 15000) (hsl : slots ≤ 150000) (h : f_L_c3 L xs S T g d x5 = some (some q)) (kk : ∀ (cells2 slots2 : Nat), cells2 ≤ cells + 20 → slots2 ≤ slots + 200 → kG K l D A room_1 9 Q (lwx a b cy o0 o1 q.1 q.2.1 q.2.2.1 q.2.2.2) cells2 slots2 1847 [(0, .ref sb), (1, .ref (a 0)), (2, .ref (b 0)), (3, .ref o0), (4, .ref o1), (5, .int x5)] []) : kG K l D A room_1 9 Q (lwx a b cy o0 o1 S T g d) cells slots 328 [(0, .ref sb), (1, .ref (a 0)), (2, .ref (b 0)), (3, .ref o0), (4, .ref o1), (5, .int x5)] [] := by
  rw [f_L_c3] at h
  refine kr_aload_n C 1 dL_law_328 rfl rfl ?_
  refine kr_aload_n C 0 dL_law_329 rfl rfl ?_
  refine kr_iload C 5 dL_law_330 rfl ?_
  refine kr_iconst C (v := 1) dL_law_332 (by decide) ?_
  refine kr_iadd C dL_law_333 ?_
  obtain ⟨hb14, h⟩ := kif h
  refine kr_sld C CS (kin_in hb14) dL_law_334 ?_
  refine kr_aload_n C 0 dL_law_335 rfl rfl ?_
  refine kr_iload C 5 dL_law_336 rfl ?_
  refine kr_iconst C (v := 2) dL_law_338 (by decide) ?_
  refine kr_iadd C dL_law_339 ?_
  obtain ⟨hb15, h⟩ := kif h
  refine kr_sld C CS (kin_in hb15) dL_law_340 ?_
  refine kr_aload_n C 0 dL_law_341 rfl rfl ?_
  refine kr_iload C 5 dL_law_342 rfl ?_
  refine kr_iconst C (v := 3) dL_law_344 (by decide) ?_
  refine kr_iadd C dL_law_345 ?_
  obtain ⟨hb16, h⟩ := kif h
  refine kr_sld C CS (kin_in hb16) dL_law_346 ?_
  refine kr_aload_n C 3 dL_law_347 rfl rfl ?_
  obtain ⟨v17, hv17, h⟩ := kob h
  refine kr_xT1 C CX (k := 5) (As := [.ref (a 0), .int (xs (x5 + (1 : Int32)).toNatClampNeg), .int (xs (x5 + (2 : Int32)).toNatClampNeg), .int (xs (x5 + (3 : Int32)).toNatClampNeg), .ref (o0)]) (rest := []) (c_L_join hlt hv17) gL_law_L_join rfl rfl rfl (by decide +kernel) ⟨(Nat.le_of_ble_eq_true rfl), (Nat.le_of_ble_eq_true rfl)⟩ ⟨by show _ ≤ 619962; omega, by show _ ≤ 7168635; omega⟩ rfl rfl (Nat.le_of_ble_eq_true rfl) dL_law_348 ?_
  refine kr_istore C [1, 2, 3, 4, 5, 6, 0] dL_law_351 (by decide) rfl ?_
  refine kr_aload_n C 2 dL_law_353 rfl rfl ?_
  refine kr_aload_n C 0 dL_law_354 rfl rfl ?_
  refine kr_iload C 5 dL_law_355 rfl ?_
  refine kr_iconst C (v := 1) dL_law_357 (by decide) ?_
  refine kr_iadd C dL_law_358 ?_
  obtain ⟨hb18, h⟩ := kif h
  refine kr_sld C CS (kin_in hb18) dL_law_359 ?_
  refine kr_aload_n C 0 dL_law_360 rfl rfl ?_
  refine kr_iload C 5 dL_law_361 rfl ?_
  refine kr_iconst C (v := 2) dL_law_363 (by decide) ?_
  refine kr_iadd C dL_law_364 ?_
  obtain ⟨hb19, h⟩ := kif h
  refine kr_sld C CS (kin_in hb19) dL_law_365 ?_
  refine kr_aload_n C 0 dL_law_366 rfl rfl ?_
  refine kr_iload C 5 dL_law_367 rfl ?_
  refine kr_iconst C (v := 3) dL_law_369 (by decide) ?_
  refine kr_iadd C dL_law_370 ?_
  obtain ⟨hb20, h⟩ := kif h
  refine kr_sld C CS (kin_in hb20) dL_law_371 ?_
  obtain ⟨v21, hv21, h⟩ := kob h
  refine law_toY ?_
  refine kr_callV1 C (k := 3) (As := [.int (xs (x5 + (1 : Int32)).toNatClampNeg), .int (xs (x5 + (2 : Int32)).toNatClampNeg), .int (xs (x5 + (3 : Int32)).toNatClampNeg)]) (rest := []) (c_X3_join hv21) gL_law_X3_join rfl rfl rfl (by decide +kernel) ⟨(Nat.le_of_ble_eq_true rfl), (Nat.le_of_ble_eq_true rfl)⟩ ⟨by show _ ≤ 619962; omega, by show _ ≤ 7168635; omega⟩ 0 rfl rfl rfl rfl (Nat.le_of_ble_eq_true rfl) dL_law_372 ?_
  refine law_toX (T := v21.2) ?_
  refine kr_istore C [1, 2, 3, 4, 5, 6, 7, 0] dL_law_375 (by decide) rfl ?_
  refine kr_aload_n C 2 dL_law_377 rfl rfl ?_
  obtain ⟨v22, hv22, h⟩ := kob h
  refine law_toY ?_
  refine kr_callV1 C (k := 0) (As := []) (rest := []) (c_X3_thrown hv22) gL_law_X3_thrown rfl rfl rfl (by decide +kernel) ⟨(Nat.le_of_ble_eq_true rfl), (Nat.le_of_ble_eq_true rfl)⟩ ⟨by show _ ≤ 619962; omega, by show _ ≤ 7168635; omega⟩ 0 rfl rfl rfl rfl (Nat.le_of_ble_eq_true rfl) dL_law_378 ?_
  refine law_toX (T := v21.2) ?_
  refine kr_iload C 6 dL_law_381 rfl ?_
  refine kr_icmp_eq C 388 dL_law_383 (by decide) (fun hc => ?_) (fun hc => ?_)
  · have h := (if_pos hc).symm.trans h
    refine kr_iload C 6 dL_law_388 rfl ?_
    refine kr_if_ne C 405 dL_law_390 (by decide) (fun hc => ?_) (fun hc => ?_)
    · have h := (if_pos hc).symm.trans h
      refine kr_aload_n C 3 dL_law_393 rfl rfl ?_
      refine kr_iconst C (v := 0) dL_law_394 (by decide) ?_
      refine kr_lald C 31 rfl (vp_in_iff.mpr (by decide)) dL_law_395 ?_
      refine kr_iload C 7 dL_law_396 rfl ?_
      refine kr_i2l C dL_law_398 ?_
      refine kr_lcmp C dL_law_399 ?_
      refine kr_if_eq C 405 dL_law_400 (by decide) (fun hc => ?_) (fun hc => ?_)
      · have h := (if_pos hc).symm.trans h
        refine kr_goto C 1847 dL_law_405 (by decide) ?_
        cases h
        refine kr_sub [0, 1, 2, 3, 4, 5] rfl ?_
        exact kk _ _ (by omega) (by omega)
      have h := (if_neg hc).symm.trans h
      refine kr_iconst C (v := 0) dL_law_403 (by decide) ?_
      cases h
    have h := (if_neg hc).symm.trans h
    refine kr_goto C 1847 dL_law_405 (by decide) ?_
    cases h
    refine kr_sub [0, 1, 2, 3, 4, 5] rfl ?_
    exact kk _ _ (by omega) (by omega)
  have h := (if_neg hc).symm.trans h
  refine kr_iconst C (v := 0) dL_law_386 (by decide) ?_
  cases h
set_option maxHeartbeats 8000000 in
set_option maxRecDepth 100000 in
theorem lc_c4 {K : kEnv} {l : Launch} {D : va_G} {cy : Nat → ClassId} {A : Nat → Prop} {a b : Nat → Nat} {o0 o1 sb L : Nat} {xs : Nat → Int32} {sa : Nat → Nat} {Q : State → Prop} (C : kC K D cy A 9 cL_law RL wsL_law ret) (CX : kCX K l A sa) (hlt : l.stackTraces = false) (CS : kScr K A sb L xs) {S T : kSt} {g : Nat → Int64} {d : Nat → UInt64} {x5 : Int32} {cells slots : Nat} {q : kLw} (hcl : cells ≤ 15000) (hsl : slots ≤ 150000) (h : f_L_c4 L xs S T g d x5 = some (some q)) (kk : ∀ (cells2 slots2 : Nat), cells2 ≤ cells + 20 → slots2 ≤ slots + 200 → kG K l D A room_1 9 Q (lwx a b cy o0 o1 q.1 q.2.1 q.2.2.1 q.2.2.2) cells2 slots2 1847 [(0, .ref sb), (1, .ref (a 0)), (2, .ref (b 0)), (3, .ref o0), (4, .ref o1), (5, .int x5)] []) : kG K l D A room_1 9 Q (lwx a b cy o0 o1 S T g d) cells slots 408 [(0, .ref sb), (1, .ref (a 0)), (2, .ref (b 0)), (3, .ref o0), (4, .ref o1), (5, .int x5)] [] := by
  rw [f_L_c4] at h
  refine kr_aload_n C 1 dL_law_408 rfl rfl ?_
  refine kr_aload_n C 0 dL_law_409 rfl rfl ?_
  refine kr_iload C 5 dL_law_410 rfl ?_
  refine kr_iconst C (v := 1) dL_law_412 (by decide) ?_
  refine kr_iadd C dL_law_413 ?_
  obtain ⟨hb23, h⟩ := kif h
  refine kr_sld C CS (kin_in hb23) dL_law_414 ?_
  refine kr_aload_n C 0 dL_law_415 rfl rfl ?_
  refine kr_iload C 5 dL_law_416 rfl ?_
  refine kr_iconst C (v := 2) dL_law_418 (by decide) ?_
  refine kr_iadd C dL_law_419 ?_
  obtain ⟨hb24, h⟩ := kif h
  refine kr_sld C CS (kin_in hb24) dL_law_420 ?_
  refine kr_aload_n C 0 dL_law_421 rfl rfl ?_
  refine kr_iload C 5 dL_law_422 rfl ?_
  refine kr_iconst C (v := 3) dL_law_424 (by decide) ?_
  refine kr_iadd C dL_law_425 ?_
  obtain ⟨hb25, h⟩ := kif h
  refine kr_sld C CS (kin_in hb25) dL_law_426 ?_
  refine kr_aload_n C 3 dL_law_427 rfl rfl ?_
  obtain ⟨v26, hv26, h⟩ := kob h
  refine kr_xT1 C CX (k := 5) (As := [.ref (a 0), .int (xs (x5 + (1 : Int32)).toNatClampNeg), .int (xs (x5 + (2 : Int32)).toNatClampNeg), .int (xs (x5 + (3 : Int32)).toNatClampNeg), .ref (o0)]) (rest := []) (c_L_nest hlt hv26) gL_law_L_nest rfl rfl rfl (by decide +kernel) ⟨(Nat.le_of_ble_eq_true rfl), (Nat.le_of_ble_eq_true rfl)⟩ ⟨by show _ ≤ 619962; omega, by show _ ≤ 7168635; omega⟩ rfl rfl (Nat.le_of_ble_eq_true rfl) dL_law_428 ?_
  refine kr_istore C [1, 2, 3, 4, 5, 6, 0] dL_law_431 (by decide) rfl ?_
  refine kr_aload_n C 2 dL_law_433 rfl rfl ?_
  refine kr_aload_n C 0 dL_law_434 rfl rfl ?_
  refine kr_iload C 5 dL_law_435 rfl ?_
  refine kr_iconst C (v := 1) dL_law_437 (by decide) ?_
  refine kr_iadd C dL_law_438 ?_
  obtain ⟨hb27, h⟩ := kif h
  refine kr_sld C CS (kin_in hb27) dL_law_439 ?_
  refine kr_aload_n C 0 dL_law_440 rfl rfl ?_
  refine kr_iload C 5 dL_law_441 rfl ?_
  refine kr_iconst C (v := 2) dL_law_443 (by decide) ?_
  refine kr_iadd C dL_law_444 ?_
  obtain ⟨hb28, h⟩ := kif h
  refine kr_sld C CS (kin_in hb28) dL_law_445 ?_
  refine kr_aload_n C 0 dL_law_446 rfl rfl ?_
  refine kr_iload C 5 dL_law_447 rfl ?_
  refine kr_iconst C (v := 3) dL_law_449 (by decide) ?_
  refine kr_iadd C dL_law_450 ?_
  obtain ⟨hb29, h⟩ := kif h
  refine kr_sld C CS (kin_in hb29) dL_law_451 ?_
  obtain ⟨v30, hv30, h⟩ := kob h
  refine law_toY ?_
  refine kr_callV1 C (k := 3) (As := [.int (xs (x5 + (1 : Int32)).toNatClampNeg), .int (xs (x5 + (2 : Int32)).toNatClampNeg), .int (xs (x5 + (3 : Int32)).toNatClampNeg)]) (rest := []) (c_X3_nest hv30) gL_law_X3_nest rfl rfl rfl (by decide +kernel) ⟨(Nat.le_of_ble_eq_true rfl), (Nat.le_of_ble_eq_true rfl)⟩ ⟨by show _ ≤ 619962; omega, by show _ ≤ 7168635; omega⟩ 0 rfl rfl rfl rfl (Nat.le_of_ble_eq_true rfl) dL_law_452 ?_
  refine law_toX (T := v30.2) ?_
  refine kr_istore C [1, 2, 3, 4, 5, 6, 7, 0] dL_law_455 (by decide) rfl ?_
  refine kr_aload_n C 2 dL_law_457 rfl rfl ?_
  obtain ⟨v31, hv31, h⟩ := kob h
  refine law_toY ?_
  refine kr_callV1 C (k := 0) (As := []) (rest := []) (c_X3_thrown hv31) gL_law_X3_thrown rfl rfl rfl (by decide +kernel) ⟨(Nat.le_of_ble_eq_true rfl), (Nat.le_of_ble_eq_true rfl)⟩ ⟨by show _ ≤ 619962; omega, by show _ ≤ 7168635; omega⟩ 0 rfl rfl rfl rfl (Nat.le_of_ble_eq_true rfl) dL_law_458 ?_
  refine law_toX (T := v30.2) ?_
  refine kr_iload C 6 dL_law_461 rfl ?_
  refine kr_icmp_eq C 468 dL_law_463 (by decide) (fun hc => ?_) (fun hc => ?_)
  · have h := (if_pos hc).symm.trans h
    refine kr_iload C 6 dL_law_468 rfl ?_
    refine kr_if_ne C 485 dL_law_470 (by decide) (fun hc => ?_) (fun hc => ?_)
    · have h := (if_pos hc).symm.trans h
      refine kr_aload_n C 3 dL_law_473 rfl rfl ?_
      refine kr_iconst C (v := 0) dL_law_474 (by decide) ?_
      refine kr_lald C 31 rfl (vp_in_iff.mpr (by decide)) dL_law_475 ?_
      refine kr_iload C 7 dL_law_476 rfl ?_
      refine kr_i2l C dL_law_478 ?_
      refine kr_lcmp C dL_law_479 ?_
      refine kr_if_eq C 485 dL_law_480 (by decide) (fun hc => ?_) (fun hc => ?_)
      · have h := (if_pos hc).symm.trans h
        refine kr_goto C 1847 dL_law_485 (by decide) ?_
        cases h
        refine kr_sub [0, 1, 2, 3, 4, 5] rfl ?_
        exact kk _ _ (by omega) (by omega)
      have h := (if_neg hc).symm.trans h
      refine kr_iconst C (v := 0) dL_law_483 (by decide) ?_
      cases h
    have h := (if_neg hc).symm.trans h
    refine kr_goto C 1847 dL_law_485 (by decide) ?_
    cases h
    refine kr_sub [0, 1, 2, 3, 4, 5] rfl ?_
    exact kk _ _ (by omega) (by omega)
  have h := (if_neg hc).symm.trans h
  refine kr_iconst C (v := 0) dL_law_466 (by decide) ?_
  cases h
set_option maxHeartbeats 8000000 in
set_option maxRecDepth 100000 in
theorem lc_c5 {K : kEnv} {l : Launch} {D : va_G} {cy : Nat → ClassId} {A : Nat → Prop} {a b : Nat → Nat} {o0 o1 sb L : Nat} {xs : Nat → Int32} {sa : Nat → Nat} {Q : State → Prop} (C : kC K D cy A 9 cL_law RL wsL_law ret) (CX : kCX K l A sa) (hlt : l.stackTraces = false) (CS : kScr K A sb L xs) {S T : kSt} {g : Nat → Int64} {d : Nat → UInt64} {x5 : Int32} {cells slots : Nat} {q : kLw} (hcl : cells ≤ 15000) (hsl : slots ≤ 150000) (h : f_L_c5 L xs S T g d x5 = some (some q)) (kk : ∀ (cells2 slots2 : Nat), cells2 ≤ cells + 20 → slots2 ≤ slots + 200 → kG K l D A room_1 9 Q (lwx a b cy o0 o1 q.1 q.2.1 q.2.2.1 q.2.2.2) cells2 slots2 1847 [(0, .ref sb), (1, .ref (a 0)), (2, .ref (b 0)), (3, .ref o0), (4, .ref o1), (5, .int x5)] []) : kG K l D A room_1 9 Q (lwx a b cy o0 o1 S T g d) cells slots 488 [(0, .ref sb), (1, .ref (a 0)), (2, .ref (b 0)), (3, .ref o0), (4, .ref o1), (5, .int x5)] [] := by
  rw [f_L_c5] at h
  refine kr_aload_n C 1 dL_law_488 rfl rfl ?_
  refine kr_aload_n C 0 dL_law_489 rfl rfl ?_
  refine kr_iload C 5 dL_law_490 rfl ?_
  refine kr_iconst C (v := 1) dL_law_492 (by decide) ?_
  refine kr_iadd C dL_law_493 ?_
  obtain ⟨hb32, h⟩ := kif h
  refine kr_sld C CS (kin_in hb32) dL_law_494 ?_
  refine kr_aload_n C 0 dL_law_495 rfl rfl ?_
  refine kr_iload C 5 dL_law_496 rfl ?_
  refine kr_iconst C (v := 2) dL_law_498 (by decide) ?_
  refine kr_iadd C dL_law_499 ?_
  obtain ⟨hb33, h⟩ := kif h
  refine kr_sld C CS (kin_in hb33) dL_law_500 ?_
  refine kr_aload_n C 3 dL_law_501 rfl rfl ?_
  obtain ⟨v34, hv34, h⟩ := kob h
  refine kr_xT1 C CX (k := 4) (As := [.ref (a 0), .int (xs (x5 + (1 : Int32)).toNatClampNeg), .int (xs (x5 + (2 : Int32)).toNatClampNeg), .ref (o0)]) (rest := []) (c_L_drop hlt hv34) gL_law_L_drop rfl rfl rfl (by decide +kernel) ⟨(Nat.le_of_ble_eq_true rfl), (Nat.le_of_ble_eq_true rfl)⟩ ⟨by show _ ≤ 619962; omega, by show _ ≤ 7168635; omega⟩ rfl rfl (Nat.le_of_ble_eq_true rfl) dL_law_502 ?_
  refine kr_istore C [1, 2, 3, 4, 5, 6, 0] dL_law_505 (by decide) rfl ?_
  refine kr_aload_n C 2 dL_law_507 rfl rfl ?_
  refine kr_aload_n C 0 dL_law_508 rfl rfl ?_
  refine kr_iload C 5 dL_law_509 rfl ?_
  refine kr_iconst C (v := 1) dL_law_511 (by decide) ?_
  refine kr_iadd C dL_law_512 ?_
  obtain ⟨hb35, h⟩ := kif h
  refine kr_sld C CS (kin_in hb35) dL_law_513 ?_
  refine kr_aload_n C 0 dL_law_514 rfl rfl ?_
  refine kr_iload C 5 dL_law_515 rfl ?_
  refine kr_iconst C (v := 2) dL_law_517 (by decide) ?_
  refine kr_iadd C dL_law_518 ?_
  obtain ⟨hb36, h⟩ := kif h
  refine kr_sld C CS (kin_in hb36) dL_law_519 ?_
  obtain ⟨v37, hv37, h⟩ := kob h
  refine law_toY ?_
  refine kr_callV1 C (k := 2) (As := [.int (xs (x5 + (1 : Int32)).toNatClampNeg), .int (xs (x5 + (2 : Int32)).toNatClampNeg)]) (rest := []) (c_X3_drop hv37) gL_law_X3_drop rfl rfl rfl (by decide +kernel) ⟨(Nat.le_of_ble_eq_true rfl), (Nat.le_of_ble_eq_true rfl)⟩ ⟨by show _ ≤ 619962; omega, by show _ ≤ 7168635; omega⟩ 0 rfl rfl rfl rfl (Nat.le_of_ble_eq_true rfl) dL_law_520 ?_
  refine law_toX (T := v37.2) ?_
  refine kr_istore C [1, 2, 3, 4, 5, 6, 7, 0] dL_law_523 (by decide) rfl ?_
  refine kr_aload_n C 2 dL_law_525 rfl rfl ?_
  obtain ⟨v38, hv38, h⟩ := kob h
  refine law_toY ?_
  refine kr_callV1 C (k := 0) (As := []) (rest := []) (c_X3_thrown hv38) gL_law_X3_thrown rfl rfl rfl (by decide +kernel) ⟨(Nat.le_of_ble_eq_true rfl), (Nat.le_of_ble_eq_true rfl)⟩ ⟨by show _ ≤ 619962; omega, by show _ ≤ 7168635; omega⟩ 0 rfl rfl rfl rfl (Nat.le_of_ble_eq_true rfl) dL_law_526 ?_
  refine law_toX (T := v37.2) ?_
  refine kr_iload C 6 dL_law_529 rfl ?_
  refine kr_icmp_eq C 536 dL_law_531 (by decide) (fun hc => ?_) (fun hc => ?_)
  · have h := (if_pos hc).symm.trans h
    refine kr_iload C 6 dL_law_536 rfl ?_
    refine kr_if_ne C 553 dL_law_538 (by decide) (fun hc => ?_) (fun hc => ?_)
    · have h := (if_pos hc).symm.trans h
      refine kr_aload_n C 3 dL_law_541 rfl rfl ?_
      refine kr_iconst C (v := 0) dL_law_542 (by decide) ?_
      refine kr_lald C 31 rfl (vp_in_iff.mpr (by decide)) dL_law_543 ?_
      refine kr_iload C 7 dL_law_544 rfl ?_
      refine kr_i2l C dL_law_546 ?_
      refine kr_lcmp C dL_law_547 ?_
      refine kr_if_eq C 553 dL_law_548 (by decide) (fun hc => ?_) (fun hc => ?_)
      · have h := (if_pos hc).symm.trans h
        refine kr_goto C 1847 dL_law_553 (by decide) ?_
        cases h
        refine kr_sub [0, 1, 2, 3, 4, 5] rfl ?_
        exact kk _ _ (by omega) (by omega)
      have h := (if_neg hc).symm.trans h
      refine kr_iconst C (v := 0) dL_law_551 (by decide) ?_
      cases h
    have h := (if_neg hc).symm.trans h
    refine kr_goto C 1847 dL_law_553 (by decide) ?_
    cases h
    refine kr_sub [0, 1, 2, 3, 4, 5] rfl ?_
    exact kk _ _ (by omega) (by omega)
  have h := (if_neg hc).symm.trans h
  refine kr_iconst C (v := 0) dL_law_534 (by decide) ?_
  cases h
set_option maxHeartbeats 8000000 in
set_option maxRecDepth 100000 in
theorem lc_c6 {K : kEnv} {l : Launch} {D : va_G} {cy : Nat → ClassId} {A : Nat → Prop} {a b : Nat → Nat} {o0 o1 sb L : Nat} {xs : Nat → Int32} {sa : Nat → Nat} {Q : State → Prop} (C : kC K D cy A 9 cL_law RL wsL_law ret) (CX : kCX K l A sa) (hlt : l.stackTraces = false) (CS : kScr K A sb L xs) {S T : kSt} {g : Nat → Int64} {d : Nat → UInt64} {x5 : Int32} {cells slots : Nat} {q : kLw} (hcl : cells ≤ 15000) (hsl : slots ≤ 150000) (h : f_L_c6 L xs S T g d x5 = some (some q)) (kk : ∀ (cells2 slots2 : Nat), cells2 ≤ cells + 20 → slots2 ≤ slots + 200 → kG K l D A room_1 9 Q (lwx a b cy o0 o1 q.1 q.2.1 q.2.2.1 q.2.2.2) cells2 slots2 1847 [(0, .ref sb), (1, .ref (a 0)), (2, .ref (b 0)), (3, .ref o0), (4, .ref o1), (5, .int x5)] []) : kG K l D A room_1 9 Q (lwx a b cy o0 o1 S T g d) cells slots 556 [(0, .ref sb), (1, .ref (a 0)), (2, .ref (b 0)), (3, .ref o0), (4, .ref o1), (5, .int x5)] [] := by
  rw [f_L_c6] at h
  refine kr_aload_n C 1 dL_law_556 rfl rfl ?_
  refine kr_aload_n C 0 dL_law_557 rfl rfl ?_
  refine kr_iload C 5 dL_law_558 rfl ?_
  refine kr_iconst C (v := 1) dL_law_560 (by decide) ?_
  refine kr_iadd C dL_law_561 ?_
  obtain ⟨hb39, h⟩ := kif h
  refine kr_sld C CS (kin_in hb39) dL_law_562 ?_
  refine kr_aload_n C 0 dL_law_563 rfl rfl ?_
  refine kr_iload C 5 dL_law_564 rfl ?_
  refine kr_iconst C (v := 2) dL_law_566 (by decide) ?_
  refine kr_iadd C dL_law_567 ?_
  obtain ⟨hb40, h⟩ := kif h
  refine kr_sld C CS (kin_in hb40) dL_law_568 ?_
  refine kr_aload_n C 3 dL_law_569 rfl rfl ?_
  obtain ⟨v41, hv41, h⟩ := kob h
  refine kr_xT1 C CX (k := 4) (As := [.ref (a 0), .int (xs (x5 + (1 : Int32)).toNatClampNeg), .int (xs (x5 + (2 : Int32)).toNatClampNeg), .ref (o0)]) (rest := []) (c_L_isIn hlt hv41) gL_law_L_isIn rfl rfl rfl (by decide +kernel) ⟨(Nat.le_of_ble_eq_true rfl), (Nat.le_of_ble_eq_true rfl)⟩ ⟨by show _ ≤ 619962; omega, by show _ ≤ 7168635; omega⟩ rfl rfl (Nat.le_of_ble_eq_true rfl) dL_law_570 ?_
  refine kr_istore C [1, 2, 3, 4, 5, 6, 0] dL_law_573 (by decide) rfl ?_
  refine kr_aload_n C 2 dL_law_575 rfl rfl ?_
  refine kr_aload_n C 0 dL_law_576 rfl rfl ?_
  refine kr_iload C 5 dL_law_577 rfl ?_
  refine kr_iconst C (v := 1) dL_law_579 (by decide) ?_
  refine kr_iadd C dL_law_580 ?_
  obtain ⟨hb42, h⟩ := kif h
  refine kr_sld C CS (kin_in hb42) dL_law_581 ?_
  refine kr_aload_n C 0 dL_law_582 rfl rfl ?_
  refine kr_iload C 5 dL_law_583 rfl ?_
  refine kr_iconst C (v := 2) dL_law_585 (by decide) ?_
  refine kr_iadd C dL_law_586 ?_
  obtain ⟨hb43, h⟩ := kif h
  refine kr_sld C CS (kin_in hb43) dL_law_587 ?_
  obtain ⟨v44, hv44, h⟩ := kob h
  refine law_toY ?_
  refine kr_callV1 C (k := 2) (As := [.int (xs (x5 + (1 : Int32)).toNatClampNeg), .int (xs (x5 + (2 : Int32)).toNatClampNeg)]) (rest := []) (c_X3_isIn hv44) gL_law_X3_isIn rfl rfl rfl (by decide +kernel) ⟨(Nat.le_of_ble_eq_true rfl), (Nat.le_of_ble_eq_true rfl)⟩ ⟨by show _ ≤ 619962; omega, by show _ ≤ 7168635; omega⟩ 0 rfl rfl rfl rfl (Nat.le_of_ble_eq_true rfl) dL_law_588 ?_
  refine law_toX (T := v44.2) ?_
  refine kr_istore C [1, 2, 3, 4, 5, 6, 7, 0] dL_law_591 (by decide) rfl ?_
  refine kr_aload_n C 2 dL_law_593 rfl rfl ?_
  obtain ⟨v45, hv45, h⟩ := kob h
  refine law_toY ?_
  refine kr_callV1 C (k := 0) (As := []) (rest := []) (c_X3_thrown hv45) gL_law_X3_thrown rfl rfl rfl (by decide +kernel) ⟨(Nat.le_of_ble_eq_true rfl), (Nat.le_of_ble_eq_true rfl)⟩ ⟨by show _ ≤ 619962; omega, by show _ ≤ 7168635; omega⟩ 0 rfl rfl rfl rfl (Nat.le_of_ble_eq_true rfl) dL_law_594 ?_
  refine law_toX (T := v44.2) ?_
  refine kr_iload C 6 dL_law_597 rfl ?_
  refine kr_icmp_eq C 604 dL_law_599 (by decide) (fun hc => ?_) (fun hc => ?_)
  · have h := (if_pos hc).symm.trans h
    refine kr_iload C 6 dL_law_604 rfl ?_
    refine kr_if_ne C 628 dL_law_606 (by decide) (fun hc => ?_) (fun hc => ?_)
    · have h := (if_pos hc).symm.trans h
      refine kr_aload_n C 3 dL_law_609 rfl rfl ?_
      refine kr_iconst C (v := 0) dL_law_610 (by decide) ?_
      refine kr_lald C 31 rfl (vp_in_iff.mpr (by decide)) dL_law_611 ?_
      refine kr_iload C 7 dL_law_612 rfl ?_
      refine kr_if_eq C 621 dL_law_614 (by decide) (fun hc => ?_) (fun hc => ?_)
      · have h := (if_pos hc).symm.trans h
        refine kr_lconst C (v := 0) dL_law_621 (by decide) ?_
        refine kr_lcmp C dL_law_622 ?_
        refine kr_if_eq C 628 dL_law_623 (by decide) (fun hc => ?_) (fun hc => ?_)
        · have h := (if_pos hc).symm.trans h
          refine kr_goto C 1847 dL_law_628 (by decide) ?_
          cases h
          refine kr_sub [0, 1, 2, 3, 4, 5] rfl ?_
          exact kk _ _ (by omega) (by omega)
        have h := (if_neg hc).symm.trans h
        refine kr_iconst C (v := 0) dL_law_626 (by decide) ?_
        cases h
      have h := (if_neg hc).symm.trans h
      refine kr_lconst C (v := 1) dL_law_617 (by decide) ?_
      refine kr_goto C 622 dL_law_618 (by decide) ?_
      refine kr_lcmp C dL_law_622 ?_
      refine kr_if_eq C 628 dL_law_623 (by decide) (fun hc => ?_) (fun hc => ?_)
      · have h := (if_pos hc).symm.trans h
        refine kr_goto C 1847 dL_law_628 (by decide) ?_
        cases h
        refine kr_sub [0, 1, 2, 3, 4, 5] rfl ?_
        exact kk _ _ (by omega) (by omega)
      have h := (if_neg hc).symm.trans h
      refine kr_iconst C (v := 0) dL_law_626 (by decide) ?_
      cases h
    have h := (if_neg hc).symm.trans h
    refine kr_goto C 1847 dL_law_628 (by decide) ?_
    cases h
    refine kr_sub [0, 1, 2, 3, 4, 5] rfl ?_
    exact kk _ _ (by omega) (by omega)
  have h := (if_neg hc).symm.trans h
  refine kr_iconst C (v := 0) dL_law_602 (by decide) ?_
  cases h
set_option maxHeartbeats 8000000 in
set_option maxRecDepth 100000 in
theorem lc_c7 {K : kEnv} {l : Launch} {D : va_G} {cy : Nat → ClassId} {A : Nat → Prop} {a b : Nat → Nat} {o0 o1 sb L : Nat} {xs : Nat → Int32} {sa : Nat → Nat} {Q : State → Prop} (C : kC K D cy A 9 cL_law RL wsL_law ret) (CX : kCX K l A sa) (hlt : l.stackTraces = false) (CS : kScr K A sb L xs) {S T : kSt} {g : Nat → Int64} {d : Nat → UInt64} {x5 : Int32} {cells slots : Nat} {q : kLw} (hcl : cells ≤ 15000) (hsl : slots ≤ 150000) (h : f_L_c7 L xs S T g d x5 = some (some q)) (kk : ∀ (cells2 slots2 : Nat), cells2 ≤ cells + 20 → slots2 ≤ slots + 200 → kG K l D A room_1 9 Q (lwx a b cy o0 o1 q.1 q.2.1 q.2.2.1 q.2.2.2) cells2 slots2 1847 [(0, .ref sb), (1, .ref (a 0)), (2, .ref (b 0)), (3, .ref o0), (4, .ref o1), (5, .int x5)] []) : kG K l D A room_1 9 Q (lwx a b cy o0 o1 S T g d) cells slots 631 [(0, .ref sb), (1, .ref (a 0)), (2, .ref (b 0)), (3, .ref o0), (4, .ref o1), (5, .int x5)] [] := by
  rw [f_L_c7] at h
  refine kr_aload_n C 1 dL_law_631 rfl rfl ?_
  obtain ⟨v46, hv46, h⟩ := kob h
  refine kr_callV1 C (k := 0) (As := []) (rest := []) (c_X2_memberships hv46) gL_law_X2_memberships rfl rfl rfl (by decide +kernel) ⟨(Nat.le_of_ble_eq_true rfl), (Nat.le_of_ble_eq_true rfl)⟩ ⟨by show _ ≤ 619962; omega, by show _ ≤ 7168635; omega⟩ 0 rfl rfl rfl rfl (Nat.le_of_ble_eq_true rfl) dL_law_632 ?_
  refine kr_aload_n C 2 dL_law_635 rfl rfl ?_
  obtain ⟨v47, hv47, h⟩ := kob h
  refine law_toY ?_
  refine kr_callV1 C (k := 0) (As := []) (rest := [.int (v46)]) (c_X3_memberships hv47) gL_law_X3_memberships rfl rfl rfl (by decide +kernel) ⟨(Nat.le_of_ble_eq_true rfl), (Nat.le_of_ble_eq_true rfl)⟩ ⟨by show _ ≤ 619962; omega, by show _ ≤ 7168635; omega⟩ 0 rfl rfl rfl rfl (Nat.le_of_ble_eq_true rfl) dL_law_636 ?_
  refine law_toX (T := v47.2) ?_
  refine kr_icmp_eq C 1847 dL_law_639 (by decide) (fun hc => ?_) (fun hc => ?_)
  · have h := (if_pos hc).symm.trans h
    cases h
    exact kk _ _ (by omega) (by omega)
  have h := (if_neg hc).symm.trans h
  refine kr_iconst C (v := 0) dL_law_642 (by decide) ?_
  cases h
set_option maxHeartbeats 8000000 in
set_option maxRecDepth 100000 in
theorem lc_c8 {K : kEnv} {l : Launch} {D : va_G} {cy : Nat → ClassId} {A : Nat → Prop} {a b : Nat → Nat} {o0 o1 sb L : Nat} {xs : Nat → Int32} {sa : Nat → Nat} {Q : State → Prop} (C : kC K D cy A 9 cL_law RL wsL_law ret) (CX : kCX K l A sa) (hlt : l.stackTraces = false) (CS : kScr K A sb L xs) {S T : kSt} {g : Nat → Int64} {d : Nat → UInt64} {x5 : Int32} {cells slots : Nat} {q : kLw} (hcl : cells ≤ 15000) (hsl : slots ≤ 150000) (h : f_L_c8 L xs S T g d x5 = some (some q)) (kk : ∀ (cells2 slots2 : Nat), cells2 ≤ cells + 20 → slots2 ≤ slots + 200 → kG K l D A room_1 9 Q (lwx a b cy o0 o1 q.1 q.2.1 q.2.2.1 q.2.2.2) cells2 slots2 1847 [(0, .ref sb), (1, .ref (a 0)), (2, .ref (b 0)), (3, .ref o0), (4, .ref o1), (5, .int x5)] []) : kG K l D A room_1 9 Q (lwx a b cy o0 o1 S T g d) cells slots 644 [(0, .ref sb), (1, .ref (a 0)), (2, .ref (b 0)), (3, .ref o0), (4, .ref o1), (5, .int x5)] [] := by
  rw [f_L_c8] at h
  refine kr_aload_n C 1 dL_law_644 rfl rfl ?_
  refine kr_aload_n C 0 dL_law_645 rfl rfl ?_
  refine kr_iload C 5 dL_law_646 rfl ?_
  refine kr_iconst C (v := 1) dL_law_648 (by decide) ?_
  refine kr_iadd C dL_law_649 ?_
  obtain ⟨hb48, h⟩ := kif h
  refine kr_sld C CS (kin_in hb48) dL_law_650 ?_
  refine kr_aload_n C 0 dL_law_651 rfl rfl ?_
  refine kr_iload C 5 dL_law_652 rfl ?_
  refine kr_iconst C (v := 2) dL_law_654 (by decide) ?_
  refine kr_iadd C dL_law_655 ?_
  obtain ⟨hb49, h⟩ := kif h
  refine kr_sld C CS (kin_in hb49) dL_law_656 ?_
  refine kr_aload_n C 3 dL_law_657 rfl rfl ?_
  obtain ⟨v50, hv50, h⟩ := kob h
  refine kr_xT1 C CX (k := 4) (As := [.ref (a 0), .int (xs (x5 + (1 : Int32)).toNatClampNeg), .int (xs (x5 + (2 : Int32)).toNatClampNeg), .ref (o0)]) (rest := []) (c_L_addFolder hlt hv50) gL_law_L_addFolder rfl rfl rfl (by decide +kernel) ⟨(Nat.le_of_ble_eq_true rfl), (Nat.le_of_ble_eq_true rfl)⟩ ⟨by show _ ≤ 619962; omega, by show _ ≤ 7168635; omega⟩ rfl rfl (Nat.le_of_ble_eq_true rfl) dL_law_658 ?_
  refine kr_istore C [1, 2, 3, 4, 5, 6, 0] dL_law_661 (by decide) rfl ?_
  refine kr_aload_n C 2 dL_law_663 rfl rfl ?_
  refine kr_aload_n C 0 dL_law_664 rfl rfl ?_
  refine kr_iload C 5 dL_law_665 rfl ?_
  refine kr_iconst C (v := 1) dL_law_667 (by decide) ?_
  refine kr_iadd C dL_law_668 ?_
  obtain ⟨hb51, h⟩ := kif h
  refine kr_sld C CS (kin_in hb51) dL_law_669 ?_
  refine kr_aload_n C 0 dL_law_670 rfl rfl ?_
  refine kr_iload C 5 dL_law_671 rfl ?_
  refine kr_iconst C (v := 2) dL_law_673 (by decide) ?_
  refine kr_iadd C dL_law_674 ?_
  obtain ⟨hb52, h⟩ := kif h
  refine kr_sld C CS (kin_in hb52) dL_law_675 ?_
  obtain ⟨v53, hv53, h⟩ := kob h
  refine law_toY ?_
  refine kr_callV1 C (k := 2) (As := [.int (xs (x5 + (1 : Int32)).toNatClampNeg), .int (xs (x5 + (2 : Int32)).toNatClampNeg)]) (rest := []) (c_X3_addFolder hv53) gL_law_X3_addFolder rfl rfl rfl (by decide +kernel) ⟨(Nat.le_of_ble_eq_true rfl), (Nat.le_of_ble_eq_true rfl)⟩ ⟨by show _ ≤ 619962; omega, by show _ ≤ 7168635; omega⟩ 0 rfl rfl rfl rfl (Nat.le_of_ble_eq_true rfl) dL_law_676 ?_
  refine law_toX (T := v53.2) ?_
  refine kr_istore C [1, 2, 3, 4, 5, 6, 7, 0] dL_law_679 (by decide) rfl ?_
  refine kr_aload_n C 2 dL_law_681 rfl rfl ?_
  obtain ⟨v54, hv54, h⟩ := kob h
  refine law_toY ?_
  refine kr_callV1 C (k := 0) (As := []) (rest := []) (c_X3_thrown hv54) gL_law_X3_thrown rfl rfl rfl (by decide +kernel) ⟨(Nat.le_of_ble_eq_true rfl), (Nat.le_of_ble_eq_true rfl)⟩ ⟨by show _ ≤ 619962; omega, by show _ ≤ 7168635; omega⟩ 0 rfl rfl rfl rfl (Nat.le_of_ble_eq_true rfl) dL_law_682 ?_
  refine law_toX (T := v53.2) ?_
  refine kr_iload C 6 dL_law_685 rfl ?_
  refine kr_icmp_eq C 692 dL_law_687 (by decide) (fun hc => ?_) (fun hc => ?_)
  · have h := (if_pos hc).symm.trans h
    refine kr_iload C 6 dL_law_692 rfl ?_
    refine kr_if_ne C 709 dL_law_694 (by decide) (fun hc => ?_) (fun hc => ?_)
    · have h := (if_pos hc).symm.trans h
      refine kr_aload_n C 3 dL_law_697 rfl rfl ?_
      refine kr_iconst C (v := 0) dL_law_698 (by decide) ?_
      refine kr_lald C 31 rfl (vp_in_iff.mpr (by decide)) dL_law_699 ?_
      refine kr_iload C 7 dL_law_700 rfl ?_
      refine kr_i2l C dL_law_702 ?_
      refine kr_lcmp C dL_law_703 ?_
      refine kr_if_eq C 709 dL_law_704 (by decide) (fun hc => ?_) (fun hc => ?_)
      · have h := (if_pos hc).symm.trans h
        refine kr_goto C 1847 dL_law_709 (by decide) ?_
        cases h
        refine kr_sub [0, 1, 2, 3, 4, 5] rfl ?_
        exact kk _ _ (by omega) (by omega)
      have h := (if_neg hc).symm.trans h
      refine kr_iconst C (v := 0) dL_law_707 (by decide) ?_
      cases h
    have h := (if_neg hc).symm.trans h
    refine kr_goto C 1847 dL_law_709 (by decide) ?_
    cases h
    refine kr_sub [0, 1, 2, 3, 4, 5] rfl ?_
    exact kk _ _ (by omega) (by omega)
  have h := (if_neg hc).symm.trans h
  refine kr_iconst C (v := 0) dL_law_690 (by decide) ?_
  cases h
set_option maxHeartbeats 8000000 in
set_option maxRecDepth 100000 in
theorem lc_c9 {K : kEnv} {l : Launch} {D : va_G} {cy : Nat → ClassId} {A : Nat → Prop} {a b : Nat → Nat} {o0 o1 sb L : Nat} {xs : Nat → Int32} {sa : Nat → Nat} {Q : State → Prop} (C : kC K D cy A 9 cL_law RL wsL_law ret) (CX : kCX K l A sa) (hlt : l.stackTraces = false) (CS : kScr K A sb L xs) {S T : kSt} {g : Nat → Int64} {d : Nat → UInt64} {x5 : Int32} {cells slots : Nat} {q : kLw} (hcl : cells ≤ 15000) (hsl : slots ≤ 150000) (h : f_L_c9 L xs S T g d x5 = some (some q)) (kk : ∀ (cells2 slots2 : Nat), cells2 ≤ cells + 20 → slots2 ≤ slots + 200 → kG K l D A room_1 9 Q (lwx a b cy o0 o1 q.1 q.2.1 q.2.2.1 q.2.2.2) cells2 slots2 1847 [(0, .ref sb), (1, .ref (a 0)), (2, .ref (b 0)), (3, .ref o0), (4, .ref o1), (5, .int x5)] []) : kG K l D A room_1 9 Q (lwx a b cy o0 o1 S T g d) cells slots 712 [(0, .ref sb), (1, .ref (a 0)), (2, .ref (b 0)), (3, .ref o0), (4, .ref o1), (5, .int x5)] [] := by
  rw [f_L_c9] at h
  refine kr_aload_n C 1 dL_law_712 rfl rfl ?_
  refine kr_aload_n C 0 dL_law_713 rfl rfl ?_
  refine kr_iload C 5 dL_law_714 rfl ?_
  refine kr_iconst C (v := 1) dL_law_716 (by decide) ?_
  refine kr_iadd C dL_law_717 ?_
  obtain ⟨hb55, h⟩ := kif h
  refine kr_sld C CS (kin_in hb55) dL_law_718 ?_
  refine kr_aload_n C 0 dL_law_719 rfl rfl ?_
  refine kr_iload C 5 dL_law_720 rfl ?_
  refine kr_iconst C (v := 2) dL_law_722 (by decide) ?_
  refine kr_iadd C dL_law_723 ?_
  obtain ⟨hb56, h⟩ := kif h
  refine kr_sld C CS (kin_in hb56) dL_law_724 ?_
  refine kr_aload_n C 0 dL_law_725 rfl rfl ?_
  refine kr_iload C 5 dL_law_726 rfl ?_
  refine kr_iconst C (v := 3) dL_law_728 (by decide) ?_
  refine kr_iadd C dL_law_729 ?_
  obtain ⟨hb57, h⟩ := kif h
  refine kr_sld C CS (kin_in hb57) dL_law_730 ?_
  refine kr_aload_n C 3 dL_law_731 rfl rfl ?_
  obtain ⟨v58, hv58, h⟩ := kob h
  refine kr_xT1 C CX (k := 5) (As := [.ref (a 0), .int (xs (x5 + (1 : Int32)).toNatClampNeg), .int (xs (x5 + (2 : Int32)).toNatClampNeg), .int (xs (x5 + (3 : Int32)).toNatClampNeg), .ref (o0)]) (rest := []) (c_L_shareWith hlt hv58) gL_law_L_shareWith rfl rfl rfl (by decide +kernel) ⟨(Nat.le_of_ble_eq_true rfl), (Nat.le_of_ble_eq_true rfl)⟩ ⟨by show _ ≤ 619962; omega, by show _ ≤ 7168635; omega⟩ rfl rfl (Nat.le_of_ble_eq_true rfl) dL_law_732 ?_
  refine kr_istore C [1, 2, 3, 4, 5, 6, 0] dL_law_735 (by decide) rfl ?_
  refine kr_aload_n C 2 dL_law_737 rfl rfl ?_
  refine kr_aload_n C 0 dL_law_738 rfl rfl ?_
  refine kr_iload C 5 dL_law_739 rfl ?_
  refine kr_iconst C (v := 1) dL_law_741 (by decide) ?_
  refine kr_iadd C dL_law_742 ?_
  obtain ⟨hb59, h⟩ := kif h
  refine kr_sld C CS (kin_in hb59) dL_law_743 ?_
  refine kr_aload_n C 0 dL_law_744 rfl rfl ?_
  refine kr_iload C 5 dL_law_745 rfl ?_
  refine kr_iconst C (v := 2) dL_law_747 (by decide) ?_
  refine kr_iadd C dL_law_748 ?_
  obtain ⟨hb60, h⟩ := kif h
  refine kr_sld C CS (kin_in hb60) dL_law_749 ?_
  refine kr_aload_n C 0 dL_law_750 rfl rfl ?_
  refine kr_iload C 5 dL_law_751 rfl ?_
  refine kr_iconst C (v := 3) dL_law_753 (by decide) ?_
  refine kr_iadd C dL_law_754 ?_
  obtain ⟨hb61, h⟩ := kif h
  refine kr_sld C CS (kin_in hb61) dL_law_755 ?_
  obtain ⟨v62, hv62, h⟩ := kob h
  refine law_toY ?_
  refine kr_callV1 C (k := 3) (As := [.int (xs (x5 + (1 : Int32)).toNatClampNeg), .int (xs (x5 + (2 : Int32)).toNatClampNeg), .int (xs (x5 + (3 : Int32)).toNatClampNeg)]) (rest := []) (c_X3_shareWith hv62) gL_law_X3_shareWith rfl rfl rfl (by decide +kernel) ⟨(Nat.le_of_ble_eq_true rfl), (Nat.le_of_ble_eq_true rfl)⟩ ⟨by show _ ≤ 619962; omega, by show _ ≤ 7168635; omega⟩ 0 rfl rfl rfl rfl (Nat.le_of_ble_eq_true rfl) dL_law_756 ?_
  refine law_toX (T := v62.2) ?_
  refine kr_istore C [1, 2, 3, 4, 5, 6, 7, 0] dL_law_759 (by decide) rfl ?_
  refine kr_aload_n C 2 dL_law_761 rfl rfl ?_
  obtain ⟨v63, hv63, h⟩ := kob h
  refine law_toY ?_
  refine kr_callV1 C (k := 0) (As := []) (rest := []) (c_X3_thrown hv63) gL_law_X3_thrown rfl rfl rfl (by decide +kernel) ⟨(Nat.le_of_ble_eq_true rfl), (Nat.le_of_ble_eq_true rfl)⟩ ⟨by show _ ≤ 619962; omega, by show _ ≤ 7168635; omega⟩ 0 rfl rfl rfl rfl (Nat.le_of_ble_eq_true rfl) dL_law_762 ?_
  refine law_toX (T := v62.2) ?_
  refine kr_iload C 6 dL_law_765 rfl ?_
  refine kr_icmp_eq C 772 dL_law_767 (by decide) (fun hc => ?_) (fun hc => ?_)
  · have h := (if_pos hc).symm.trans h
    refine kr_iload C 6 dL_law_772 rfl ?_
    refine kr_if_ne C 789 dL_law_774 (by decide) (fun hc => ?_) (fun hc => ?_)
    · have h := (if_pos hc).symm.trans h
      refine kr_aload_n C 3 dL_law_777 rfl rfl ?_
      refine kr_iconst C (v := 0) dL_law_778 (by decide) ?_
      refine kr_lald C 31 rfl (vp_in_iff.mpr (by decide)) dL_law_779 ?_
      refine kr_iload C 7 dL_law_780 rfl ?_
      refine kr_i2l C dL_law_782 ?_
      refine kr_lcmp C dL_law_783 ?_
      refine kr_if_eq C 789 dL_law_784 (by decide) (fun hc => ?_) (fun hc => ?_)
      · have h := (if_pos hc).symm.trans h
        refine kr_goto C 1847 dL_law_789 (by decide) ?_
        cases h
        refine kr_sub [0, 1, 2, 3, 4, 5] rfl ?_
        exact kk _ _ (by omega) (by omega)
      have h := (if_neg hc).symm.trans h
      refine kr_iconst C (v := 0) dL_law_787 (by decide) ?_
      cases h
    have h := (if_neg hc).symm.trans h
    refine kr_goto C 1847 dL_law_789 (by decide) ?_
    cases h
    refine kr_sub [0, 1, 2, 3, 4, 5] rfl ?_
    exact kk _ _ (by omega) (by omega)
  have h := (if_neg hc).symm.trans h
  refine kr_iconst C (v := 0) dL_law_770 (by decide) ?_
  cases h
set_option maxHeartbeats 8000000 in
set_option maxRecDepth 100000 in
theorem lc_c10 {K : kEnv} {l : Launch} {D : va_G} {cy : Nat → ClassId} {A : Nat → Prop} {a b : Nat → Nat} {o0 o1 sb L : Nat} {xs : Nat → Int32} {sa : Nat → Nat} {Q : State → Prop} (C : kC K D cy A 9 cL_law RL wsL_law ret) (CX : kCX K l A sa) (hlt : l.stackTraces = false) (CS : kScr K A sb L xs) {S T : kSt} {g : Nat → Int64} {d : Nat → UInt64} {x5 : Int32} {cells slots : Nat} {q : kLw} (hcl : cells ≤ 15000) (hsl : slots ≤ 150000) (h : f_L_c10 L xs S T g d x5 = some (some q)) (kk : ∀ (cells2 slots2 : Nat), cells2 ≤ cells + 20 → slots2 ≤ slots + 200 → kG K l D A room_1 9 Q (lwx a b cy o0 o1 q.1 q.2.1 q.2.2.1 q.2.2.2) cells2 slots2 1847 [(0, .ref sb), (1, .ref (a 0)), (2, .ref (b 0)), (3, .ref o0), (4, .ref o1), (5, .int x5)] []) : kG K l D A room_1 9 Q (lwx a b cy o0 o1 S T g d) cells slots 792 [(0, .ref sb), (1, .ref (a 0)), (2, .ref (b 0)), (3, .ref o0), (4, .ref o1), (5, .int x5)] [] := by
  rw [f_L_c10] at h
  refine kr_aload_n C 1 dL_law_792 rfl rfl ?_
  refine kr_aload_n C 0 dL_law_793 rfl rfl ?_
  refine kr_iload C 5 dL_law_794 rfl ?_
  refine kr_iconst C (v := 1) dL_law_796 (by decide) ?_
  refine kr_iadd C dL_law_797 ?_
  obtain ⟨hb64, h⟩ := kif h
  refine kr_sld C CS (kin_in hb64) dL_law_798 ?_
  refine kr_aload_n C 0 dL_law_799 rfl rfl ?_
  refine kr_iload C 5 dL_law_800 rfl ?_
  refine kr_iconst C (v := 2) dL_law_802 (by decide) ?_
  refine kr_iadd C dL_law_803 ?_
  obtain ⟨hb65, h⟩ := kif h
  refine kr_sld C CS (kin_in hb65) dL_law_804 ?_
  refine kr_aload_n C 0 dL_law_805 rfl rfl ?_
  refine kr_iload C 5 dL_law_806 rfl ?_
  refine kr_iconst C (v := 3) dL_law_808 (by decide) ?_
  refine kr_iadd C dL_law_809 ?_
  obtain ⟨hb66, h⟩ := kif h
  refine kr_sld C CS (kin_in hb66) dL_law_810 ?_
  refine kr_aload_n C 3 dL_law_811 rfl rfl ?_
  obtain ⟨v67, hv67, h⟩ := kob h
  refine kr_xT1 C CX (k := 5) (As := [.ref (a 0), .int (xs (x5 + (1 : Int32)).toNatClampNeg), .int (xs (x5 + (2 : Int32)).toNatClampNeg), .int (xs (x5 + (3 : Int32)).toNatClampNeg), .ref (o0)]) (rest := []) (c_L_shareWithGroup hlt hv67) gL_law_L_shareWithGroup rfl rfl rfl (by decide +kernel) ⟨(Nat.le_of_ble_eq_true rfl), (Nat.le_of_ble_eq_true rfl)⟩ ⟨by show _ ≤ 619962; omega, by show _ ≤ 7168635; omega⟩ rfl rfl (Nat.le_of_ble_eq_true rfl) dL_law_812 ?_
  refine kr_istore C [1, 2, 3, 4, 5, 6, 0] dL_law_815 (by decide) rfl ?_
  refine kr_aload_n C 2 dL_law_817 rfl rfl ?_
  refine kr_aload_n C 0 dL_law_818 rfl rfl ?_
  refine kr_iload C 5 dL_law_819 rfl ?_
  refine kr_iconst C (v := 1) dL_law_821 (by decide) ?_
  refine kr_iadd C dL_law_822 ?_
  obtain ⟨hb68, h⟩ := kif h
  refine kr_sld C CS (kin_in hb68) dL_law_823 ?_
  refine kr_aload_n C 0 dL_law_824 rfl rfl ?_
  refine kr_iload C 5 dL_law_825 rfl ?_
  refine kr_iconst C (v := 2) dL_law_827 (by decide) ?_
  refine kr_iadd C dL_law_828 ?_
  obtain ⟨hb69, h⟩ := kif h
  refine kr_sld C CS (kin_in hb69) dL_law_829 ?_
  refine kr_aload_n C 0 dL_law_830 rfl rfl ?_
  refine kr_iload C 5 dL_law_831 rfl ?_
  refine kr_iconst C (v := 3) dL_law_833 (by decide) ?_
  refine kr_iadd C dL_law_834 ?_
  obtain ⟨hb70, h⟩ := kif h
  refine kr_sld C CS (kin_in hb70) dL_law_835 ?_
  obtain ⟨v71, hv71, h⟩ := kob h
  refine law_toY ?_
  refine kr_callV1 C (k := 3) (As := [.int (xs (x5 + (1 : Int32)).toNatClampNeg), .int (xs (x5 + (2 : Int32)).toNatClampNeg), .int (xs (x5 + (3 : Int32)).toNatClampNeg)]) (rest := []) (c_X3_shareWithGroup hv71) gL_law_X3_shareWithGroup rfl rfl rfl (by decide +kernel) ⟨(Nat.le_of_ble_eq_true rfl), (Nat.le_of_ble_eq_true rfl)⟩ ⟨by show _ ≤ 619962; omega, by show _ ≤ 7168635; omega⟩ 0 rfl rfl rfl rfl (Nat.le_of_ble_eq_true rfl) dL_law_836 ?_
  refine law_toX (T := v71.2) ?_
  refine kr_istore C [1, 2, 3, 4, 5, 6, 7, 0] dL_law_839 (by decide) rfl ?_
  refine kr_aload_n C 2 dL_law_841 rfl rfl ?_
  obtain ⟨v72, hv72, h⟩ := kob h
  refine law_toY ?_
  refine kr_callV1 C (k := 0) (As := []) (rest := []) (c_X3_thrown hv72) gL_law_X3_thrown rfl rfl rfl (by decide +kernel) ⟨(Nat.le_of_ble_eq_true rfl), (Nat.le_of_ble_eq_true rfl)⟩ ⟨by show _ ≤ 619962; omega, by show _ ≤ 7168635; omega⟩ 0 rfl rfl rfl rfl (Nat.le_of_ble_eq_true rfl) dL_law_842 ?_
  refine law_toX (T := v71.2) ?_
  refine kr_iload C 6 dL_law_845 rfl ?_
  refine kr_icmp_eq C 852 dL_law_847 (by decide) (fun hc => ?_) (fun hc => ?_)
  · have h := (if_pos hc).symm.trans h
    refine kr_iload C 6 dL_law_852 rfl ?_
    refine kr_if_ne C 869 dL_law_854 (by decide) (fun hc => ?_) (fun hc => ?_)
    · have h := (if_pos hc).symm.trans h
      refine kr_aload_n C 3 dL_law_857 rfl rfl ?_
      refine kr_iconst C (v := 0) dL_law_858 (by decide) ?_
      refine kr_lald C 31 rfl (vp_in_iff.mpr (by decide)) dL_law_859 ?_
      refine kr_iload C 7 dL_law_860 rfl ?_
      refine kr_i2l C dL_law_862 ?_
      refine kr_lcmp C dL_law_863 ?_
      refine kr_if_eq C 869 dL_law_864 (by decide) (fun hc => ?_) (fun hc => ?_)
      · have h := (if_pos hc).symm.trans h
        refine kr_goto C 1847 dL_law_869 (by decide) ?_
        cases h
        refine kr_sub [0, 1, 2, 3, 4, 5] rfl ?_
        exact kk _ _ (by omega) (by omega)
      have h := (if_neg hc).symm.trans h
      refine kr_iconst C (v := 0) dL_law_867 (by decide) ?_
      cases h
    have h := (if_neg hc).symm.trans h
    refine kr_goto C 1847 dL_law_869 (by decide) ?_
    cases h
    refine kr_sub [0, 1, 2, 3, 4, 5] rfl ?_
    exact kk _ _ (by omega) (by omega)
  have h := (if_neg hc).symm.trans h
  refine kr_iconst C (v := 0) dL_law_850 (by decide) ?_
  cases h
set_option maxHeartbeats 8000000 in
set_option maxRecDepth 100000 in
theorem lc_c11 {K : kEnv} {l : Launch} {D : va_G} {cy : Nat → ClassId} {A : Nat → Prop} {a b : Nat → Nat} {o0 o1 sb L : Nat} {xs : Nat → Int32} {sa : Nat → Nat} {Q : State → Prop} (C : kC K D cy A 9 cL_law RL wsL_law ret) (CX : kCX K l A sa) (hlt : l.stackTraces = false) (CS : kScr K A sb L xs) {S T : kSt} {g : Nat → Int64} {d : Nat → UInt64} {x5 : Int32} {cells slots : Nat} {q : kLw} (hcl : cells ≤ 15000) (hsl : slots ≤ 150000) (h : f_L_c11 L xs S T g d x5 = some (some q)) (kk : ∀ (cells2 slots2 : Nat), cells2 ≤ cells + 20 → slots2 ≤ slots + 200 → kG K l D A room_1 9 Q (lwx a b cy o0 o1 q.1 q.2.1 q.2.2.1 q.2.2.2) cells2 slots2 1847 [(0, .ref sb), (1, .ref (a 0)), (2, .ref (b 0)), (3, .ref o0), (4, .ref o1), (5, .int x5)] []) : kG K l D A room_1 9 Q (lwx a b cy o0 o1 S T g d) cells slots 872 [(0, .ref sb), (1, .ref (a 0)), (2, .ref (b 0)), (3, .ref o0), (4, .ref o1), (5, .int x5)] [] := by
  rw [f_L_c11] at h
  refine kr_aload_n C 1 dL_law_872 rfl rfl ?_
  refine kr_aload_n C 0 dL_law_873 rfl rfl ?_
  refine kr_iload C 5 dL_law_874 rfl ?_
  refine kr_iconst C (v := 1) dL_law_876 (by decide) ?_
  refine kr_iadd C dL_law_877 ?_
  obtain ⟨hb73, h⟩ := kif h
  refine kr_sld C CS (kin_in hb73) dL_law_878 ?_
  refine kr_aload_n C 0 dL_law_879 rfl rfl ?_
  refine kr_iload C 5 dL_law_880 rfl ?_
  refine kr_iconst C (v := 2) dL_law_882 (by decide) ?_
  refine kr_iadd C dL_law_883 ?_
  obtain ⟨hb74, h⟩ := kif h
  refine kr_sld C CS (kin_in hb74) dL_law_884 ?_
  refine kr_if_eq C 892 dL_law_885 (by decide) (fun hc => ?_) (fun hc => ?_)
  · have h := (if_pos hc).symm.trans h
    refine kr_iconst C (v := 0) dL_law_892 (by decide) ?_
    refine kr_aload_n C 3 dL_law_893 rfl rfl ?_
    obtain ⟨v75, hv75, h⟩ := kob h
    refine kr_xT1 C CX (k := 4) (As := [.ref (a 0), .int (xs (x5 + (1 : Int32)).toNatClampNeg), .int (b2i false), .ref (o0)]) (rest := []) (c_L_setBroken hlt hv75) gL_law_L_setBroken rfl rfl rfl (by decide +kernel) ⟨(Nat.le_of_ble_eq_true rfl), (Nat.le_of_ble_eq_true rfl)⟩ ⟨by show _ ≤ 619962; omega, by show _ ≤ 7168635; omega⟩ rfl rfl (Nat.le_of_ble_eq_true rfl) dL_law_894 ?_
    refine kr_istore C [1, 2, 3, 4, 5, 6, 0] dL_law_897 (by decide) rfl ?_
    refine kr_aload_n C 2 dL_law_899 rfl rfl ?_
    refine kr_aload_n C 0 dL_law_900 rfl rfl ?_
    refine kr_iload C 5 dL_law_901 rfl ?_
    refine kr_iconst C (v := 1) dL_law_903 (by decide) ?_
    refine kr_iadd C dL_law_904 ?_
    obtain ⟨hb76, h⟩ := kif h
    refine kr_sld C CS (kin_in hb76) dL_law_905 ?_
    refine kr_aload_n C 0 dL_law_906 rfl rfl ?_
    refine kr_iload C 5 dL_law_907 rfl ?_
    refine kr_iconst C (v := 2) dL_law_909 (by decide) ?_
    refine kr_iadd C dL_law_910 ?_
    obtain ⟨hb77, h⟩ := kif h
    refine kr_sld C CS (kin_in hb77) dL_law_911 ?_
    refine kr_if_eq C 919 dL_law_912 (by decide) (fun hc => ?_) (fun hc => ?_)
    · have h := (if_pos hc).symm.trans h
      refine kr_iconst C (v := 0) dL_law_919 (by decide) ?_
      obtain ⟨v78, hv78, h⟩ := kob h
      refine law_toY ?_
      refine kr_callV1 C (k := 2) (As := [.int (xs (x5 + (1 : Int32)).toNatClampNeg), .int (b2i false)]) (rest := []) (c_X3_setBroken hv78) gL_law_X3_setBroken rfl rfl rfl (by decide +kernel) ⟨(Nat.le_of_ble_eq_true rfl), (Nat.le_of_ble_eq_true rfl)⟩ ⟨by show _ ≤ 619962; omega, by show _ ≤ 7168635; omega⟩ 0 rfl rfl rfl rfl (Nat.le_of_ble_eq_true rfl) dL_law_920 ?_
      refine law_toX (T := v78.2) ?_
      refine kr_istore C [1, 2, 3, 4, 5, 6, 7, 0] dL_law_923 (by decide) rfl ?_
      refine kr_aload_n C 2 dL_law_925 rfl rfl ?_
      obtain ⟨v79, hv79, h⟩ := kob h
      refine law_toY ?_
      refine kr_callV1 C (k := 0) (As := []) (rest := []) (c_X3_thrown hv79) gL_law_X3_thrown rfl rfl rfl (by decide +kernel) ⟨(Nat.le_of_ble_eq_true rfl), (Nat.le_of_ble_eq_true rfl)⟩ ⟨by show _ ≤ 619962; omega, by show _ ≤ 7168635; omega⟩ 0 rfl rfl rfl rfl (Nat.le_of_ble_eq_true rfl) dL_law_926 ?_
      refine law_toX (T := v78.2) ?_
      refine kr_iload C 6 dL_law_929 rfl ?_
      refine kr_icmp_eq C 936 dL_law_931 (by decide) (fun hc => ?_) (fun hc => ?_)
      · have h := (if_pos hc).symm.trans h
        refine kr_iload C 6 dL_law_936 rfl ?_
        refine kr_if_ne C 960 dL_law_938 (by decide) (fun hc => ?_) (fun hc => ?_)
        · have h := (if_pos hc).symm.trans h
          refine kr_aload_n C 3 dL_law_941 rfl rfl ?_
          refine kr_iconst C (v := 0) dL_law_942 (by decide) ?_
          refine kr_lald C 31 rfl (vp_in_iff.mpr (by decide)) dL_law_943 ?_
          refine kr_iload C 7 dL_law_944 rfl ?_
          refine kr_if_eq C 953 dL_law_946 (by decide) (fun hc => ?_) (fun hc => ?_)
          · have h := (if_pos hc).symm.trans h
            refine kr_lconst C (v := 0) dL_law_953 (by decide) ?_
            refine kr_lcmp C dL_law_954 ?_
            refine kr_if_eq C 960 dL_law_955 (by decide) (fun hc => ?_) (fun hc => ?_)
            · have h := (if_pos hc).symm.trans h
              refine kr_goto C 1847 dL_law_960 (by decide) ?_
              cases h
              refine kr_sub [0, 1, 2, 3, 4, 5] rfl ?_
              exact kk _ _ (by omega) (by omega)
            have h := (if_neg hc).symm.trans h
            refine kr_iconst C (v := 0) dL_law_958 (by decide) ?_
            cases h
          have h := (if_neg hc).symm.trans h
          refine kr_lconst C (v := 1) dL_law_949 (by decide) ?_
          refine kr_goto C 954 dL_law_950 (by decide) ?_
          refine kr_lcmp C dL_law_954 ?_
          refine kr_if_eq C 960 dL_law_955 (by decide) (fun hc => ?_) (fun hc => ?_)
          · have h := (if_pos hc).symm.trans h
            refine kr_goto C 1847 dL_law_960 (by decide) ?_
            cases h
            refine kr_sub [0, 1, 2, 3, 4, 5] rfl ?_
            exact kk _ _ (by omega) (by omega)
          have h := (if_neg hc).symm.trans h
          refine kr_iconst C (v := 0) dL_law_958 (by decide) ?_
          cases h
        have h := (if_neg hc).symm.trans h
        refine kr_goto C 1847 dL_law_960 (by decide) ?_
        cases h
        refine kr_sub [0, 1, 2, 3, 4, 5] rfl ?_
        exact kk _ _ (by omega) (by omega)
      have h := (if_neg hc).symm.trans h
      refine kr_iconst C (v := 0) dL_law_934 (by decide) ?_
      cases h
    have h := (if_neg hc).symm.trans h
    refine kr_iconst C (v := 1) dL_law_915 (by decide) ?_
    refine kr_goto C 920 dL_law_916 (by decide) ?_
    obtain ⟨v80, hv80, h⟩ := kob h
    refine law_toY ?_
    refine kr_callV1 C (k := 2) (As := [.int (xs (x5 + (1 : Int32)).toNatClampNeg), .int (b2i true)]) (rest := []) (c_X3_setBroken hv80) gL_law_X3_setBroken rfl rfl rfl (by decide +kernel) ⟨(Nat.le_of_ble_eq_true rfl), (Nat.le_of_ble_eq_true rfl)⟩ ⟨by show _ ≤ 619962; omega, by show _ ≤ 7168635; omega⟩ 0 rfl rfl rfl rfl (Nat.le_of_ble_eq_true rfl) dL_law_920 ?_
    refine law_toX (T := v80.2) ?_
    refine kr_istore C [1, 2, 3, 4, 5, 6, 7, 0] dL_law_923 (by decide) rfl ?_
    refine kr_aload_n C 2 dL_law_925 rfl rfl ?_
    obtain ⟨v81, hv81, h⟩ := kob h
    refine law_toY ?_
    refine kr_callV1 C (k := 0) (As := []) (rest := []) (c_X3_thrown hv81) gL_law_X3_thrown rfl rfl rfl (by decide +kernel) ⟨(Nat.le_of_ble_eq_true rfl), (Nat.le_of_ble_eq_true rfl)⟩ ⟨by show _ ≤ 619962; omega, by show _ ≤ 7168635; omega⟩ 0 rfl rfl rfl rfl (Nat.le_of_ble_eq_true rfl) dL_law_926 ?_
    refine law_toX (T := v80.2) ?_
    refine kr_iload C 6 dL_law_929 rfl ?_
    refine kr_icmp_eq C 936 dL_law_931 (by decide) (fun hc => ?_) (fun hc => ?_)
    · have h := (if_pos hc).symm.trans h
      refine kr_iload C 6 dL_law_936 rfl ?_
      refine kr_if_ne C 960 dL_law_938 (by decide) (fun hc => ?_) (fun hc => ?_)
      · have h := (if_pos hc).symm.trans h
        refine kr_aload_n C 3 dL_law_941 rfl rfl ?_
        refine kr_iconst C (v := 0) dL_law_942 (by decide) ?_
        refine kr_lald C 31 rfl (vp_in_iff.mpr (by decide)) dL_law_943 ?_
        refine kr_iload C 7 dL_law_944 rfl ?_
        refine kr_if_eq C 953 dL_law_946 (by decide) (fun hc => ?_) (fun hc => ?_)
        · have h := (if_pos hc).symm.trans h
          refine kr_lconst C (v := 0) dL_law_953 (by decide) ?_
          refine kr_lcmp C dL_law_954 ?_
          refine kr_if_eq C 960 dL_law_955 (by decide) (fun hc => ?_) (fun hc => ?_)
          · have h := (if_pos hc).symm.trans h
            refine kr_goto C 1847 dL_law_960 (by decide) ?_
            cases h
            refine kr_sub [0, 1, 2, 3, 4, 5] rfl ?_
            exact kk _ _ (by omega) (by omega)
          have h := (if_neg hc).symm.trans h
          refine kr_iconst C (v := 0) dL_law_958 (by decide) ?_
          cases h
        have h := (if_neg hc).symm.trans h
        refine kr_lconst C (v := 1) dL_law_949 (by decide) ?_
        refine kr_goto C 954 dL_law_950 (by decide) ?_
        refine kr_lcmp C dL_law_954 ?_
        refine kr_if_eq C 960 dL_law_955 (by decide) (fun hc => ?_) (fun hc => ?_)
        · have h := (if_pos hc).symm.trans h
          refine kr_goto C 1847 dL_law_960 (by decide) ?_
          cases h
          refine kr_sub [0, 1, 2, 3, 4, 5] rfl ?_
          exact kk _ _ (by omega) (by omega)
        have h := (if_neg hc).symm.trans h
        refine kr_iconst C (v := 0) dL_law_958 (by decide) ?_
        cases h
      have h := (if_neg hc).symm.trans h
      refine kr_goto C 1847 dL_law_960 (by decide) ?_
      cases h
      refine kr_sub [0, 1, 2, 3, 4, 5] rfl ?_
      exact kk _ _ (by omega) (by omega)
    have h := (if_neg hc).symm.trans h
    refine kr_iconst C (v := 0) dL_law_934 (by decide) ?_
    cases h
  have h := (if_neg hc).symm.trans h
  refine kr_iconst C (v := 1) dL_law_888 (by decide) ?_
  refine kr_goto C 893 dL_law_889 (by decide) ?_
  refine kr_aload_n C 3 dL_law_893 rfl rfl ?_
  obtain ⟨v82, hv82, h⟩ := kob h
  refine kr_xT1 C CX (k := 4) (As := [.ref (a 0), .int (xs (x5 + (1 : Int32)).toNatClampNeg), .int (b2i true), .ref (o0)]) (rest := []) (c_L_setBroken hlt hv82) gL_law_L_setBroken rfl rfl rfl (by decide +kernel) ⟨(Nat.le_of_ble_eq_true rfl), (Nat.le_of_ble_eq_true rfl)⟩ ⟨by show _ ≤ 619962; omega, by show _ ≤ 7168635; omega⟩ rfl rfl (Nat.le_of_ble_eq_true rfl) dL_law_894 ?_
  refine kr_istore C [1, 2, 3, 4, 5, 6, 0] dL_law_897 (by decide) rfl ?_
  refine kr_aload_n C 2 dL_law_899 rfl rfl ?_
  refine kr_aload_n C 0 dL_law_900 rfl rfl ?_
  refine kr_iload C 5 dL_law_901 rfl ?_
  refine kr_iconst C (v := 1) dL_law_903 (by decide) ?_
  refine kr_iadd C dL_law_904 ?_
  obtain ⟨hb83, h⟩ := kif h
  refine kr_sld C CS (kin_in hb83) dL_law_905 ?_
  refine kr_aload_n C 0 dL_law_906 rfl rfl ?_
  refine kr_iload C 5 dL_law_907 rfl ?_
  refine kr_iconst C (v := 2) dL_law_909 (by decide) ?_
  refine kr_iadd C dL_law_910 ?_
  obtain ⟨hb84, h⟩ := kif h
  refine kr_sld C CS (kin_in hb84) dL_law_911 ?_
  refine kr_if_eq C 919 dL_law_912 (by decide) (fun hc => ?_) (fun hc => ?_)
  · have h := (if_pos hc).symm.trans h
    refine kr_iconst C (v := 0) dL_law_919 (by decide) ?_
    obtain ⟨v85, hv85, h⟩ := kob h
    refine law_toY ?_
    refine kr_callV1 C (k := 2) (As := [.int (xs (x5 + (1 : Int32)).toNatClampNeg), .int (b2i false)]) (rest := []) (c_X3_setBroken hv85) gL_law_X3_setBroken rfl rfl rfl (by decide +kernel) ⟨(Nat.le_of_ble_eq_true rfl), (Nat.le_of_ble_eq_true rfl)⟩ ⟨by show _ ≤ 619962; omega, by show _ ≤ 7168635; omega⟩ 0 rfl rfl rfl rfl (Nat.le_of_ble_eq_true rfl) dL_law_920 ?_
    refine law_toX (T := v85.2) ?_
    refine kr_istore C [1, 2, 3, 4, 5, 6, 7, 0] dL_law_923 (by decide) rfl ?_
    refine kr_aload_n C 2 dL_law_925 rfl rfl ?_
    obtain ⟨v86, hv86, h⟩ := kob h
    refine law_toY ?_
    refine kr_callV1 C (k := 0) (As := []) (rest := []) (c_X3_thrown hv86) gL_law_X3_thrown rfl rfl rfl (by decide +kernel) ⟨(Nat.le_of_ble_eq_true rfl), (Nat.le_of_ble_eq_true rfl)⟩ ⟨by show _ ≤ 619962; omega, by show _ ≤ 7168635; omega⟩ 0 rfl rfl rfl rfl (Nat.le_of_ble_eq_true rfl) dL_law_926 ?_
    refine law_toX (T := v85.2) ?_
    refine kr_iload C 6 dL_law_929 rfl ?_
    refine kr_icmp_eq C 936 dL_law_931 (by decide) (fun hc => ?_) (fun hc => ?_)
    · have h := (if_pos hc).symm.trans h
      refine kr_iload C 6 dL_law_936 rfl ?_
      refine kr_if_ne C 960 dL_law_938 (by decide) (fun hc => ?_) (fun hc => ?_)
      · have h := (if_pos hc).symm.trans h
        refine kr_aload_n C 3 dL_law_941 rfl rfl ?_
        refine kr_iconst C (v := 0) dL_law_942 (by decide) ?_
        refine kr_lald C 31 rfl (vp_in_iff.mpr (by decide)) dL_law_943 ?_
        refine kr_iload C 7 dL_law_944 rfl ?_
        refine kr_if_eq C 953 dL_law_946 (by decide) (fun hc => ?_) (fun hc => ?_)
        · have h := (if_pos hc).symm.trans h
          refine kr_lconst C (v := 0) dL_law_953 (by decide) ?_
          refine kr_lcmp C dL_law_954 ?_
          refine kr_if_eq C 960 dL_law_955 (by decide) (fun hc => ?_) (fun hc => ?_)
          · have h := (if_pos hc).symm.trans h
            refine kr_goto C 1847 dL_law_960 (by decide) ?_
            cases h
            refine kr_sub [0, 1, 2, 3, 4, 5] rfl ?_
            exact kk _ _ (by omega) (by omega)
          have h := (if_neg hc).symm.trans h
          refine kr_iconst C (v := 0) dL_law_958 (by decide) ?_
          cases h
        have h := (if_neg hc).symm.trans h
        refine kr_lconst C (v := 1) dL_law_949 (by decide) ?_
        refine kr_goto C 954 dL_law_950 (by decide) ?_
        refine kr_lcmp C dL_law_954 ?_
        refine kr_if_eq C 960 dL_law_955 (by decide) (fun hc => ?_) (fun hc => ?_)
        · have h := (if_pos hc).symm.trans h
          refine kr_goto C 1847 dL_law_960 (by decide) ?_
          cases h
          refine kr_sub [0, 1, 2, 3, 4, 5] rfl ?_
          exact kk _ _ (by omega) (by omega)
        have h := (if_neg hc).symm.trans h
        refine kr_iconst C (v := 0) dL_law_958 (by decide) ?_
        cases h
      have h := (if_neg hc).symm.trans h
      refine kr_goto C 1847 dL_law_960 (by decide) ?_
      cases h
      refine kr_sub [0, 1, 2, 3, 4, 5] rfl ?_
      exact kk _ _ (by omega) (by omega)
    have h := (if_neg hc).symm.trans h
    refine kr_iconst C (v := 0) dL_law_934 (by decide) ?_
    cases h
  have h := (if_neg hc).symm.trans h
  refine kr_iconst C (v := 1) dL_law_915 (by decide) ?_
  refine kr_goto C 920 dL_law_916 (by decide) ?_
  obtain ⟨v87, hv87, h⟩ := kob h
  refine law_toY ?_
  refine kr_callV1 C (k := 2) (As := [.int (xs (x5 + (1 : Int32)).toNatClampNeg), .int (b2i true)]) (rest := []) (c_X3_setBroken hv87) gL_law_X3_setBroken rfl rfl rfl (by decide +kernel) ⟨(Nat.le_of_ble_eq_true rfl), (Nat.le_of_ble_eq_true rfl)⟩ ⟨by show _ ≤ 619962; omega, by show _ ≤ 7168635; omega⟩ 0 rfl rfl rfl rfl (Nat.le_of_ble_eq_true rfl) dL_law_920 ?_
  refine law_toX (T := v87.2) ?_
  refine kr_istore C [1, 2, 3, 4, 5, 6, 7, 0] dL_law_923 (by decide) rfl ?_
  refine kr_aload_n C 2 dL_law_925 rfl rfl ?_
  obtain ⟨v88, hv88, h⟩ := kob h
  refine law_toY ?_
  refine kr_callV1 C (k := 0) (As := []) (rest := []) (c_X3_thrown hv88) gL_law_X3_thrown rfl rfl rfl (by decide +kernel) ⟨(Nat.le_of_ble_eq_true rfl), (Nat.le_of_ble_eq_true rfl)⟩ ⟨by show _ ≤ 619962; omega, by show _ ≤ 7168635; omega⟩ 0 rfl rfl rfl rfl (Nat.le_of_ble_eq_true rfl) dL_law_926 ?_
  refine law_toX (T := v87.2) ?_
  refine kr_iload C 6 dL_law_929 rfl ?_
  refine kr_icmp_eq C 936 dL_law_931 (by decide) (fun hc => ?_) (fun hc => ?_)
  · have h := (if_pos hc).symm.trans h
    refine kr_iload C 6 dL_law_936 rfl ?_
    refine kr_if_ne C 960 dL_law_938 (by decide) (fun hc => ?_) (fun hc => ?_)
    · have h := (if_pos hc).symm.trans h
      refine kr_aload_n C 3 dL_law_941 rfl rfl ?_
      refine kr_iconst C (v := 0) dL_law_942 (by decide) ?_
      refine kr_lald C 31 rfl (vp_in_iff.mpr (by decide)) dL_law_943 ?_
      refine kr_iload C 7 dL_law_944 rfl ?_
      refine kr_if_eq C 953 dL_law_946 (by decide) (fun hc => ?_) (fun hc => ?_)
      · have h := (if_pos hc).symm.trans h
        refine kr_lconst C (v := 0) dL_law_953 (by decide) ?_
        refine kr_lcmp C dL_law_954 ?_
        refine kr_if_eq C 960 dL_law_955 (by decide) (fun hc => ?_) (fun hc => ?_)
        · have h := (if_pos hc).symm.trans h
          refine kr_goto C 1847 dL_law_960 (by decide) ?_
          cases h
          refine kr_sub [0, 1, 2, 3, 4, 5] rfl ?_
          exact kk _ _ (by omega) (by omega)
        have h := (if_neg hc).symm.trans h
        refine kr_iconst C (v := 0) dL_law_958 (by decide) ?_
        cases h
      have h := (if_neg hc).symm.trans h
      refine kr_lconst C (v := 1) dL_law_949 (by decide) ?_
      refine kr_goto C 954 dL_law_950 (by decide) ?_
      refine kr_lcmp C dL_law_954 ?_
      refine kr_if_eq C 960 dL_law_955 (by decide) (fun hc => ?_) (fun hc => ?_)
      · have h := (if_pos hc).symm.trans h
        refine kr_goto C 1847 dL_law_960 (by decide) ?_
        cases h
        refine kr_sub [0, 1, 2, 3, 4, 5] rfl ?_
        exact kk _ _ (by omega) (by omega)
      have h := (if_neg hc).symm.trans h
      refine kr_iconst C (v := 0) dL_law_958 (by decide) ?_
      cases h
    have h := (if_neg hc).symm.trans h
    refine kr_goto C 1847 dL_law_960 (by decide) ?_
    cases h
    refine kr_sub [0, 1, 2, 3, 4, 5] rfl ?_
    exact kk _ _ (by omega) (by omega)
  have h := (if_neg hc).symm.trans h
  refine kr_iconst C (v := 0) dL_law_934 (by decide) ?_
  cases h
set_option maxHeartbeats 8000000 in
set_option maxRecDepth 100000 in
theorem lc_c12 {K : kEnv} {l : Launch} {D : va_G} {cy : Nat → ClassId} {A : Nat → Prop} {a b : Nat → Nat} {o0 o1 sb L : Nat} {xs : Nat → Int32} {sa : Nat → Nat} {Q : State → Prop} (C : kC K D cy A 9 cL_law RL wsL_law ret) (CX : kCX K l A sa) (hlt : l.stackTraces = false) (CS : kScr K A sb L xs) {S T : kSt} {g : Nat → Int64} {d : Nat → UInt64} {x5 : Int32} {cells slots : Nat} {q : kLw} (hcl : cells ≤ 15000) (hsl : slots ≤ 150000) (h : f_L_c12 L xs S T g d x5 = some (some q)) (kk : ∀ (cells2 slots2 : Nat), cells2 ≤ cells + 20 → slots2 ≤ slots + 200 → kG K l D A room_1 9 Q (lwx a b cy o0 o1 q.1 q.2.1 q.2.2.1 q.2.2.2) cells2 slots2 1847 [(0, .ref sb), (1, .ref (a 0)), (2, .ref (b 0)), (3, .ref o0), (4, .ref o1), (5, .int x5)] []) : kG K l D A room_1 9 Q (lwx a b cy o0 o1 S T g d) cells slots 963 [(0, .ref sb), (1, .ref (a 0)), (2, .ref (b 0)), (3, .ref o0), (4, .ref o1), (5, .int x5)] [] := by
  rw [f_L_c12] at h
  refine kr_aload_n C 1 dL_law_963 rfl rfl ?_
  refine kr_aload_n C 0 dL_law_964 rfl rfl ?_
  refine kr_iload C 5 dL_law_965 rfl ?_
  refine kr_iconst C (v := 1) dL_law_967 (by decide) ?_
  refine kr_iadd C dL_law_968 ?_
  obtain ⟨hb89, h⟩ := kif h
  refine kr_sld C CS (kin_in hb89) dL_law_969 ?_
  refine kr_aload_n C 3 dL_law_970 rfl rfl ?_
  obtain ⟨v90, hv90, h⟩ := kob h
  refine kr_xT1 C CX (k := 3) (As := [.ref (a 0), .int (xs (x5 + (1 : Int32)).toNatClampNeg), .ref (o0)]) (rest := []) (c_L_owner hlt hv90) gL_law_L_owner rfl rfl rfl (by decide +kernel) ⟨(Nat.le_of_ble_eq_true rfl), (Nat.le_of_ble_eq_true rfl)⟩ ⟨by show _ ≤ 619962; omega, by show _ ≤ 7168635; omega⟩ rfl rfl (Nat.le_of_ble_eq_true rfl) dL_law_971 ?_
  refine kr_istore C [1, 2, 3, 4, 5, 6, 0] dL_law_974 (by decide) rfl ?_
  refine kr_aload_n C 2 dL_law_976 rfl rfl ?_
  refine kr_aload_n C 0 dL_law_977 rfl rfl ?_
  refine kr_iload C 5 dL_law_978 rfl ?_
  refine kr_iconst C (v := 1) dL_law_980 (by decide) ?_
  refine kr_iadd C dL_law_981 ?_
  obtain ⟨hb91, h⟩ := kif h
  refine kr_sld C CS (kin_in hb91) dL_law_982 ?_
  obtain ⟨v92, hv92, h⟩ := kob h
  refine law_toY ?_
  refine kr_callV1 C (k := 1) (As := [.int (xs (x5 + (1 : Int32)).toNatClampNeg)]) (rest := []) (c_X3_owner hv92) gL_law_X3_owner rfl rfl rfl (by decide +kernel) ⟨(Nat.le_of_ble_eq_true rfl), (Nat.le_of_ble_eq_true rfl)⟩ ⟨by show _ ≤ 619962; omega, by show _ ≤ 7168635; omega⟩ 0 rfl rfl rfl rfl (Nat.le_of_ble_eq_true rfl) dL_law_983 ?_
  refine law_toX (T := v92.2) ?_
  refine kr_istore C [1, 2, 3, 4, 5, 6, 7, 0] dL_law_986 (by decide) rfl ?_
  refine kr_aload_n C 2 dL_law_988 rfl rfl ?_
  obtain ⟨v93, hv93, h⟩ := kob h
  refine law_toY ?_
  refine kr_callV1 C (k := 0) (As := []) (rest := []) (c_X3_thrown hv93) gL_law_X3_thrown rfl rfl rfl (by decide +kernel) ⟨(Nat.le_of_ble_eq_true rfl), (Nat.le_of_ble_eq_true rfl)⟩ ⟨by show _ ≤ 619962; omega, by show _ ≤ 7168635; omega⟩ 0 rfl rfl rfl rfl (Nat.le_of_ble_eq_true rfl) dL_law_989 ?_
  refine law_toX (T := v92.2) ?_
  refine kr_iload C 6 dL_law_992 rfl ?_
  refine kr_icmp_eq C 999 dL_law_994 (by decide) (fun hc => ?_) (fun hc => ?_)
  · have h := (if_pos hc).symm.trans h
    refine kr_iload C 6 dL_law_999 rfl ?_
    refine kr_if_ne C 1016 dL_law_1001 (by decide) (fun hc => ?_) (fun hc => ?_)
    · have h := (if_pos hc).symm.trans h
      refine kr_aload_n C 3 dL_law_1004 rfl rfl ?_
      refine kr_iconst C (v := 0) dL_law_1005 (by decide) ?_
      refine kr_lald C 31 rfl (vp_in_iff.mpr (by decide)) dL_law_1006 ?_
      refine kr_iload C 7 dL_law_1007 rfl ?_
      refine kr_i2l C dL_law_1009 ?_
      refine kr_lcmp C dL_law_1010 ?_
      refine kr_if_eq C 1016 dL_law_1011 (by decide) (fun hc => ?_) (fun hc => ?_)
      · have h := (if_pos hc).symm.trans h
        refine kr_goto C 1847 dL_law_1016 (by decide) ?_
        cases h
        refine kr_sub [0, 1, 2, 3, 4, 5] rfl ?_
        exact kk _ _ (by omega) (by omega)
      have h := (if_neg hc).symm.trans h
      refine kr_iconst C (v := 0) dL_law_1014 (by decide) ?_
      cases h
    have h := (if_neg hc).symm.trans h
    refine kr_goto C 1847 dL_law_1016 (by decide) ?_
    cases h
    refine kr_sub [0, 1, 2, 3, 4, 5] rfl ?_
    exact kk _ _ (by omega) (by omega)
  have h := (if_neg hc).symm.trans h
  refine kr_iconst C (v := 0) dL_law_997 (by decide) ?_
  cases h
set_option maxHeartbeats 8000000 in
set_option maxRecDepth 100000 in
theorem lc_c13 {K : kEnv} {l : Launch} {D : va_G} {cy : Nat → ClassId} {A : Nat → Prop} {a b : Nat → Nat} {o0 o1 sb L : Nat} {xs : Nat → Int32} {sa : Nat → Nat} {Q : State → Prop} (C : kC K D cy A 9 cL_law RL wsL_law ret) (CX : kCX K l A sa) (hlt : l.stackTraces = false) (CS : kScr K A sb L xs) {S T : kSt} {g : Nat → Int64} {d : Nat → UInt64} {x5 : Int32} {cells slots : Nat} {q : kLw} (hcl : cells ≤ 15000) (hsl : slots ≤ 150000) (h : f_L_c13 L xs S T g d x5 = some (some q)) (kk : ∀ (cells2 slots2 : Nat), cells2 ≤ cells + 20 → slots2 ≤ slots + 200 → kG K l D A room_1 9 Q (lwx a b cy o0 o1 q.1 q.2.1 q.2.2.1 q.2.2.2) cells2 slots2 1847 [(0, .ref sb), (1, .ref (a 0)), (2, .ref (b 0)), (3, .ref o0), (4, .ref o1), (5, .int x5)] []) : kG K l D A room_1 9 Q (lwx a b cy o0 o1 S T g d) cells slots 1019 [(0, .ref sb), (1, .ref (a 0)), (2, .ref (b 0)), (3, .ref o0), (4, .ref o1), (5, .int x5)] [] := by
  rw [f_L_c13] at h
  refine kr_aload_n C 1 dL_law_1019 rfl rfl ?_
  refine kr_aload_n C 0 dL_law_1020 rfl rfl ?_
  refine kr_iload C 5 dL_law_1021 rfl ?_
  refine kr_iconst C (v := 1) dL_law_1023 (by decide) ?_
  refine kr_iadd C dL_law_1024 ?_
  obtain ⟨hb94, h⟩ := kif h
  refine kr_sld C CS (kin_in hb94) dL_law_1025 ?_
  refine kr_aload_n C 0 dL_law_1026 rfl rfl ?_
  refine kr_iload C 5 dL_law_1027 rfl ?_
  refine kr_iconst C (v := 2) dL_law_1029 (by decide) ?_
  refine kr_iadd C dL_law_1030 ?_
  obtain ⟨hb95, h⟩ := kif h
  refine kr_sld C CS (kin_in hb95) dL_law_1031 ?_
  refine kr_aload_n C 3 dL_law_1032 rfl rfl ?_
  obtain ⟨v96, hv96, h⟩ := kob h
  refine kr_xT1 C CX (k := 4) (As := [.ref (a 0), .int (xs (x5 + (1 : Int32)).toNatClampNeg), .int (xs (x5 + (2 : Int32)).toNatClampNeg), .ref (o0)]) (rest := []) (c_L_right hlt hv96) gL_law_L_right rfl rfl rfl (by decide +kernel) ⟨(Nat.le_of_ble_eq_true rfl), (Nat.le_of_ble_eq_true rfl)⟩ ⟨by show _ ≤ 619962; omega, by show _ ≤ 7168635; omega⟩ rfl rfl (Nat.le_of_ble_eq_true rfl) dL_law_1033 ?_
  refine kr_istore C [1, 2, 3, 4, 5, 6, 0] dL_law_1036 (by decide) rfl ?_
  refine kr_aload_n C 2 dL_law_1038 rfl rfl ?_
  refine kr_aload_n C 0 dL_law_1039 rfl rfl ?_
  refine kr_iload C 5 dL_law_1040 rfl ?_
  refine kr_iconst C (v := 1) dL_law_1042 (by decide) ?_
  refine kr_iadd C dL_law_1043 ?_
  obtain ⟨hb97, h⟩ := kif h
  refine kr_sld C CS (kin_in hb97) dL_law_1044 ?_
  refine kr_aload_n C 0 dL_law_1045 rfl rfl ?_
  refine kr_iload C 5 dL_law_1046 rfl ?_
  refine kr_iconst C (v := 2) dL_law_1048 (by decide) ?_
  refine kr_iadd C dL_law_1049 ?_
  obtain ⟨hb98, h⟩ := kif h
  refine kr_sld C CS (kin_in hb98) dL_law_1050 ?_
  obtain ⟨v99, hv99, h⟩ := kob h
  refine law_toY ?_
  refine kr_callV1 C (k := 2) (As := [.int (xs (x5 + (1 : Int32)).toNatClampNeg), .int (xs (x5 + (2 : Int32)).toNatClampNeg)]) (rest := []) (c_X3_right hv99) gL_law_X3_right rfl rfl rfl (by decide +kernel) ⟨(Nat.le_of_ble_eq_true rfl), (Nat.le_of_ble_eq_true rfl)⟩ ⟨by show _ ≤ 619962; omega, by show _ ≤ 7168635; omega⟩ 0 rfl rfl rfl rfl (Nat.le_of_ble_eq_true rfl) dL_law_1051 ?_
  refine law_toX (T := v99.2) ?_
  refine kr_istore C [1, 2, 3, 4, 5, 6, 7, 0] dL_law_1054 (by decide) rfl ?_
  refine kr_aload_n C 2 dL_law_1056 rfl rfl ?_
  obtain ⟨v100, hv100, h⟩ := kob h
  refine law_toY ?_
  refine kr_callV1 C (k := 0) (As := []) (rest := []) (c_X3_thrown hv100) gL_law_X3_thrown rfl rfl rfl (by decide +kernel) ⟨(Nat.le_of_ble_eq_true rfl), (Nat.le_of_ble_eq_true rfl)⟩ ⟨by show _ ≤ 619962; omega, by show _ ≤ 7168635; omega⟩ 0 rfl rfl rfl rfl (Nat.le_of_ble_eq_true rfl) dL_law_1057 ?_
  refine law_toX (T := v99.2) ?_
  refine kr_iload C 6 dL_law_1060 rfl ?_
  refine kr_icmp_eq C 1067 dL_law_1062 (by decide) (fun hc => ?_) (fun hc => ?_)
  · have h := (if_pos hc).symm.trans h
    refine kr_iload C 6 dL_law_1067 rfl ?_
    refine kr_if_ne C 1084 dL_law_1069 (by decide) (fun hc => ?_) (fun hc => ?_)
    · have h := (if_pos hc).symm.trans h
      refine kr_aload_n C 3 dL_law_1072 rfl rfl ?_
      refine kr_iconst C (v := 0) dL_law_1073 (by decide) ?_
      refine kr_lald C 31 rfl (vp_in_iff.mpr (by decide)) dL_law_1074 ?_
      refine kr_iload C 7 dL_law_1075 rfl ?_
      refine kr_i2l C dL_law_1077 ?_
      refine kr_lcmp C dL_law_1078 ?_
      refine kr_if_eq C 1084 dL_law_1079 (by decide) (fun hc => ?_) (fun hc => ?_)
      · have h := (if_pos hc).symm.trans h
        refine kr_goto C 1847 dL_law_1084 (by decide) ?_
        cases h
        refine kr_sub [0, 1, 2, 3, 4, 5] rfl ?_
        exact kk _ _ (by omega) (by omega)
      have h := (if_neg hc).symm.trans h
      refine kr_iconst C (v := 0) dL_law_1082 (by decide) ?_
      cases h
    have h := (if_neg hc).symm.trans h
    refine kr_goto C 1847 dL_law_1084 (by decide) ?_
    cases h
    refine kr_sub [0, 1, 2, 3, 4, 5] rfl ?_
    exact kk _ _ (by omega) (by omega)
  have h := (if_neg hc).symm.trans h
  refine kr_iconst C (v := 0) dL_law_1065 (by decide) ?_
  cases h
set_option maxHeartbeats 8000000 in
set_option maxRecDepth 100000 in
theorem lc_c14 {K : kEnv} {l : Launch} {D : va_G} {cy : Nat → ClassId} {A : Nat → Prop} {a b : Nat → Nat} {o0 o1 sb L : Nat} {xs : Nat → Int32} {sa : Nat → Nat} {Q : State → Prop} (C : kC K D cy A 9 cL_law RL wsL_law ret) (CX : kCX K l A sa) (hlt : l.stackTraces = false) (CS : kScr K A sb L xs) {S T : kSt} {g : Nat → Int64} {d : Nat → UInt64} {x5 : Int32} {cells slots : Nat} {q : kLw} (hcl : cells ≤ 15000) (hsl : slots ≤ 150000) (h : f_L_c14 L xs S T g d x5 = some (some q)) (kk : ∀ (cells2 slots2 : Nat), cells2 ≤ cells + 20 → slots2 ≤ slots + 200 → kG K l D A room_1 9 Q (lwx a b cy o0 o1 q.1 q.2.1 q.2.2.1 q.2.2.2) cells2 slots2 1847 [(0, .ref sb), (1, .ref (a 0)), (2, .ref (b 0)), (3, .ref o0), (4, .ref o1), (5, .int x5)] []) : kG K l D A room_1 9 Q (lwx a b cy o0 o1 S T g d) cells slots 1087 [(0, .ref sb), (1, .ref (a 0)), (2, .ref (b 0)), (3, .ref o0), (4, .ref o1), (5, .int x5)] [] := by
  rw [f_L_c14] at h
  refine kr_aload_n C 1 dL_law_1087 rfl rfl ?_
  refine kr_aload_n C 0 dL_law_1088 rfl rfl ?_
  refine kr_iload C 5 dL_law_1089 rfl ?_
  refine kr_iconst C (v := 1) dL_law_1091 (by decide) ?_
  refine kr_iadd C dL_law_1092 ?_
  obtain ⟨hb101, h⟩ := kif h
  refine kr_sld C CS (kin_in hb101) dL_law_1093 ?_
  refine kr_aload_n C 0 dL_law_1094 rfl rfl ?_
  refine kr_iload C 5 dL_law_1095 rfl ?_
  refine kr_iconst C (v := 2) dL_law_1097 (by decide) ?_
  refine kr_iadd C dL_law_1098 ?_
  obtain ⟨hb102, h⟩ := kif h
  refine kr_sld C CS (kin_in hb102) dL_law_1099 ?_
  refine kr_aload_n C 3 dL_law_1100 rfl rfl ?_
  obtain ⟨v103, hv103, h⟩ := kob h
  refine kr_xT1 C CX (k := 4) (As := [.ref (a 0), .int (xs (x5 + (1 : Int32)).toNatClampNeg), .int (xs (x5 + (2 : Int32)).toNatClampNeg), .ref (o0)]) (rest := []) (c_L_rightByWalking hlt hv103) gL_law_L_rightByWalking rfl rfl rfl (by decide +kernel) ⟨(Nat.le_of_ble_eq_true rfl), (Nat.le_of_ble_eq_true rfl)⟩ ⟨by show _ ≤ 619962; omega, by show _ ≤ 7168635; omega⟩ rfl rfl (Nat.le_of_ble_eq_true rfl) dL_law_1101 ?_
  refine kr_istore C [1, 2, 3, 4, 5, 6, 0] dL_law_1104 (by decide) rfl ?_
  refine kr_aload_n C 2 dL_law_1106 rfl rfl ?_
  refine kr_aload_n C 0 dL_law_1107 rfl rfl ?_
  refine kr_iload C 5 dL_law_1108 rfl ?_
  refine kr_iconst C (v := 1) dL_law_1110 (by decide) ?_
  refine kr_iadd C dL_law_1111 ?_
  obtain ⟨hb104, h⟩ := kif h
  refine kr_sld C CS (kin_in hb104) dL_law_1112 ?_
  refine kr_aload_n C 0 dL_law_1113 rfl rfl ?_
  refine kr_iload C 5 dL_law_1114 rfl ?_
  refine kr_iconst C (v := 2) dL_law_1116 (by decide) ?_
  refine kr_iadd C dL_law_1117 ?_
  obtain ⟨hb105, h⟩ := kif h
  refine kr_sld C CS (kin_in hb105) dL_law_1118 ?_
  obtain ⟨v106, hv106, h⟩ := kob h
  refine law_toY ?_
  refine kr_callV1 C (k := 2) (As := [.int (xs (x5 + (1 : Int32)).toNatClampNeg), .int (xs (x5 + (2 : Int32)).toNatClampNeg)]) (rest := []) (c_X3_rightByWalking hv106) gL_law_X3_rightByWalking rfl rfl rfl (by decide +kernel) ⟨(Nat.le_of_ble_eq_true rfl), (Nat.le_of_ble_eq_true rfl)⟩ ⟨by show _ ≤ 619962; omega, by show _ ≤ 7168635; omega⟩ 0 rfl rfl rfl rfl (Nat.le_of_ble_eq_true rfl) dL_law_1119 ?_
  refine law_toX (T := v106.2) ?_
  refine kr_istore C [1, 2, 3, 4, 5, 6, 7, 0] dL_law_1122 (by decide) rfl ?_
  refine kr_aload_n C 2 dL_law_1124 rfl rfl ?_
  obtain ⟨v107, hv107, h⟩ := kob h
  refine law_toY ?_
  refine kr_callV1 C (k := 0) (As := []) (rest := []) (c_X3_thrown hv107) gL_law_X3_thrown rfl rfl rfl (by decide +kernel) ⟨(Nat.le_of_ble_eq_true rfl), (Nat.le_of_ble_eq_true rfl)⟩ ⟨by show _ ≤ 619962; omega, by show _ ≤ 7168635; omega⟩ 0 rfl rfl rfl rfl (Nat.le_of_ble_eq_true rfl) dL_law_1125 ?_
  refine law_toX (T := v106.2) ?_
  refine kr_iload C 6 dL_law_1128 rfl ?_
  refine kr_icmp_eq C 1135 dL_law_1130 (by decide) (fun hc => ?_) (fun hc => ?_)
  · have h := (if_pos hc).symm.trans h
    refine kr_iload C 6 dL_law_1135 rfl ?_
    refine kr_if_ne C 1152 dL_law_1137 (by decide) (fun hc => ?_) (fun hc => ?_)
    · have h := (if_pos hc).symm.trans h
      refine kr_aload_n C 3 dL_law_1140 rfl rfl ?_
      refine kr_iconst C (v := 0) dL_law_1141 (by decide) ?_
      refine kr_lald C 31 rfl (vp_in_iff.mpr (by decide)) dL_law_1142 ?_
      refine kr_iload C 7 dL_law_1143 rfl ?_
      refine kr_i2l C dL_law_1145 ?_
      refine kr_lcmp C dL_law_1146 ?_
      refine kr_if_eq C 1152 dL_law_1147 (by decide) (fun hc => ?_) (fun hc => ?_)
      · have h := (if_pos hc).symm.trans h
        refine kr_goto C 1847 dL_law_1152 (by decide) ?_
        cases h
        refine kr_sub [0, 1, 2, 3, 4, 5] rfl ?_
        exact kk _ _ (by omega) (by omega)
      have h := (if_neg hc).symm.trans h
      refine kr_iconst C (v := 0) dL_law_1150 (by decide) ?_
      cases h
    have h := (if_neg hc).symm.trans h
    refine kr_goto C 1847 dL_law_1152 (by decide) ?_
    cases h
    refine kr_sub [0, 1, 2, 3, 4, 5] rfl ?_
    exact kk _ _ (by omega) (by omega)
  have h := (if_neg hc).symm.trans h
  refine kr_iconst C (v := 0) dL_law_1133 (by decide) ?_
  cases h
set_option maxHeartbeats 8000000 in
set_option maxRecDepth 100000 in
theorem lc_c15 {K : kEnv} {l : Launch} {D : va_G} {cy : Nat → ClassId} {A : Nat → Prop} {a b : Nat → Nat} {o0 o1 sb L : Nat} {xs : Nat → Int32} {sa : Nat → Nat} {Q : State → Prop} (C : kC K D cy A 9 cL_law RL wsL_law ret) (CX : kCX K l A sa) (hlt : l.stackTraces = false) (CS : kScr K A sb L xs) {S T : kSt} {g : Nat → Int64} {d : Nat → UInt64} {x5 : Int32} {cells slots : Nat} {q : kLw} (hcl : cells ≤ 15000) (hsl : slots ≤ 150000) (h : f_L_c15 L xs S T g d x5 = some (some q)) (kk : ∀ (cells2 slots2 : Nat), cells2 ≤ cells + 20 → slots2 ≤ slots + 200 → kG K l D A room_1 9 Q (lwx a b cy o0 o1 q.1 q.2.1 q.2.2.1 q.2.2.2) cells2 slots2 1847 [(0, .ref sb), (1, .ref (a 0)), (2, .ref (b 0)), (3, .ref o0), (4, .ref o1), (5, .int x5)] []) : kG K l D A room_1 9 Q (lwx a b cy o0 o1 S T g d) cells slots 1155 [(0, .ref sb), (1, .ref (a 0)), (2, .ref (b 0)), (3, .ref o0), (4, .ref o1), (5, .int x5)] [] := by
  rw [f_L_c15] at h
  refine kr_aload_n C 1 dL_law_1155 rfl rfl ?_
  refine kr_aload_n C 0 dL_law_1156 rfl rfl ?_
  refine kr_iload C 5 dL_law_1157 rfl ?_
  refine kr_iconst C (v := 1) dL_law_1159 (by decide) ?_
  refine kr_iadd C dL_law_1160 ?_
  obtain ⟨hb108, h⟩ := kif h
  refine kr_sld C CS (kin_in hb108) dL_law_1161 ?_
  refine kr_aload_n C 0 dL_law_1162 rfl rfl ?_
  refine kr_iload C 5 dL_law_1163 rfl ?_
  refine kr_iconst C (v := 2) dL_law_1165 (by decide) ?_
  refine kr_iadd C dL_law_1166 ?_
  obtain ⟨hb109, h⟩ := kif h
  refine kr_sld C CS (kin_in hb109) dL_law_1167 ?_
  refine kr_aload_n C 3 dL_law_1168 rfl rfl ?_
  obtain ⟨v110, hv110, h⟩ := kob h
  refine kr_xT1 C CX (k := 4) (As := [.ref (a 0), .int (xs (x5 + (1 : Int32)).toNatClampNeg), .int (xs (x5 + (2 : Int32)).toNatClampNeg), .ref (o0)]) (rest := []) (c_L_holders hlt hv110) gL_law_L_holders rfl rfl rfl (by decide +kernel) ⟨(Nat.le_of_ble_eq_true rfl), (Nat.le_of_ble_eq_true rfl)⟩ ⟨by show _ ≤ 619962; omega, by show _ ≤ 7168635; omega⟩ rfl rfl (Nat.le_of_ble_eq_true rfl) dL_law_1169 ?_
  refine kr_istore C [1, 2, 3, 4, 5, 6, 0] dL_law_1172 (by decide) rfl ?_
  refine kr_aload_n C 2 dL_law_1174 rfl rfl ?_
  refine kr_aload_n C 0 dL_law_1175 rfl rfl ?_
  refine kr_iload C 5 dL_law_1176 rfl ?_
  refine kr_iconst C (v := 1) dL_law_1178 (by decide) ?_
  refine kr_iadd C dL_law_1179 ?_
  obtain ⟨hb111, h⟩ := kif h
  refine kr_sld C CS (kin_in hb111) dL_law_1180 ?_
  refine kr_aload_n C 0 dL_law_1181 rfl rfl ?_
  refine kr_iload C 5 dL_law_1182 rfl ?_
  refine kr_iconst C (v := 2) dL_law_1184 (by decide) ?_
  refine kr_iadd C dL_law_1185 ?_
  obtain ⟨hb112, h⟩ := kif h
  refine kr_sld C CS (kin_in hb112) dL_law_1186 ?_
  obtain ⟨v113, hv113, h⟩ := kob h
  refine law_toY ?_
  refine kr_callV1 C (k := 2) (As := [.int (xs (x5 + (1 : Int32)).toNatClampNeg), .int (xs (x5 + (2 : Int32)).toNatClampNeg)]) (rest := []) (c_X3_holders hv113) gL_law_X3_holders rfl rfl rfl (by decide +kernel) ⟨(Nat.le_of_ble_eq_true rfl), (Nat.le_of_ble_eq_true rfl)⟩ ⟨by show _ ≤ 619962; omega, by show _ ≤ 7168635; omega⟩ 0 rfl rfl rfl rfl (Nat.le_of_ble_eq_true rfl) dL_law_1187 ?_
  refine law_toX (T := v113.2) ?_
  refine kr_istore C [1, 2, 3, 4, 5, 6, 7, 0] dL_law_1190 (by decide) rfl ?_
  refine kr_aload_n C 2 dL_law_1192 rfl rfl ?_
  obtain ⟨v114, hv114, h⟩ := kob h
  refine law_toY ?_
  refine kr_callV1 C (k := 0) (As := []) (rest := []) (c_X3_thrown hv114) gL_law_X3_thrown rfl rfl rfl (by decide +kernel) ⟨(Nat.le_of_ble_eq_true rfl), (Nat.le_of_ble_eq_true rfl)⟩ ⟨by show _ ≤ 619962; omega, by show _ ≤ 7168635; omega⟩ 0 rfl rfl rfl rfl (Nat.le_of_ble_eq_true rfl) dL_law_1193 ?_
  refine law_toX (T := v113.2) ?_
  refine kr_iload C 6 dL_law_1196 rfl ?_
  refine kr_icmp_eq C 1203 dL_law_1198 (by decide) (fun hc => ?_) (fun hc => ?_)
  · have h := (if_pos hc).symm.trans h
    refine kr_iload C 6 dL_law_1203 rfl ?_
    refine kr_if_ne C 1220 dL_law_1205 (by decide) (fun hc => ?_) (fun hc => ?_)
    · have h := (if_pos hc).symm.trans h
      refine kr_aload_n C 3 dL_law_1208 rfl rfl ?_
      refine kr_iconst C (v := 0) dL_law_1209 (by decide) ?_
      refine kr_lald C 31 rfl (vp_in_iff.mpr (by decide)) dL_law_1210 ?_
      refine kr_iload C 7 dL_law_1211 rfl ?_
      refine kr_i2l C dL_law_1213 ?_
      refine kr_lcmp C dL_law_1214 ?_
      refine kr_if_eq C 1220 dL_law_1215 (by decide) (fun hc => ?_) (fun hc => ?_)
      · have h := (if_pos hc).symm.trans h
        refine kr_goto C 1847 dL_law_1220 (by decide) ?_
        cases h
        refine kr_sub [0, 1, 2, 3, 4, 5] rfl ?_
        exact kk _ _ (by omega) (by omega)
      have h := (if_neg hc).symm.trans h
      refine kr_iconst C (v := 0) dL_law_1218 (by decide) ?_
      cases h
    have h := (if_neg hc).symm.trans h
    refine kr_goto C 1847 dL_law_1220 (by decide) ?_
    cases h
    refine kr_sub [0, 1, 2, 3, 4, 5] rfl ?_
    exact kk _ _ (by omega) (by omega)
  have h := (if_neg hc).symm.trans h
  refine kr_iconst C (v := 0) dL_law_1201 (by decide) ?_
  cases h
set_option maxHeartbeats 8000000 in
set_option maxRecDepth 100000 in
theorem lc_c16 {K : kEnv} {l : Launch} {D : va_G} {cy : Nat → ClassId} {A : Nat → Prop} {a b : Nat → Nat} {o0 o1 sb L : Nat} {xs : Nat → Int32} {sa : Nat → Nat} {Q : State → Prop} (C : kC K D cy A 9 cL_law RL wsL_law ret) (CX : kCX K l A sa) (hlt : l.stackTraces = false) (CS : kScr K A sb L xs) {S T : kSt} {g : Nat → Int64} {d : Nat → UInt64} {x5 : Int32} {cells slots : Nat} {q : kLw} (hcl : cells ≤ 15000) (hsl : slots ≤ 150000) (h : f_L_c16 L xs S T g d x5 = some (some q)) (kk : ∀ (cells2 slots2 : Nat), cells2 ≤ cells + 20 → slots2 ≤ slots + 200 → kG K l D A room_1 9 Q (lwx a b cy o0 o1 q.1 q.2.1 q.2.2.1 q.2.2.2) cells2 slots2 1847 [(0, .ref sb), (1, .ref (a 0)), (2, .ref (b 0)), (3, .ref o0), (4, .ref o1), (5, .int x5)] []) : kG K l D A room_1 9 Q (lwx a b cy o0 o1 S T g d) cells slots 1223 [(0, .ref sb), (1, .ref (a 0)), (2, .ref (b 0)), (3, .ref o0), (4, .ref o1), (5, .int x5)] [] := by
  rw [f_L_c16] at h
  refine kr_aload_n C 1 dL_law_1223 rfl rfl ?_
  refine kr_aload_n C 0 dL_law_1224 rfl rfl ?_
  refine kr_iload C 5 dL_law_1225 rfl ?_
  refine kr_iconst C (v := 1) dL_law_1227 (by decide) ?_
  refine kr_iadd C dL_law_1228 ?_
  obtain ⟨hb115, h⟩ := kif h
  refine kr_sld C CS (kin_in hb115) dL_law_1229 ?_
  refine kr_aload_n C 3 dL_law_1230 rfl rfl ?_
  obtain ⟨v116, hv116, h⟩ := kob h
  refine kr_xT1 C CX (k := 3) (As := [.ref (a 0), .int (xs (x5 + (1 : Int32)).toNatClampNeg), .ref (o0)]) (rest := []) (c_L_addRoom hlt hv116) gL_law_L_addRoom rfl rfl rfl (by decide +kernel) ⟨(Nat.le_of_ble_eq_true rfl), (Nat.le_of_ble_eq_true rfl)⟩ ⟨by show _ ≤ 619962; omega, by show _ ≤ 7168635; omega⟩ rfl rfl (Nat.le_of_ble_eq_true rfl) dL_law_1231 ?_
  refine kr_istore C [1, 2, 3, 4, 5, 6, 0] dL_law_1234 (by decide) rfl ?_
  refine kr_aload_n C 2 dL_law_1236 rfl rfl ?_
  refine kr_aload_n C 0 dL_law_1237 rfl rfl ?_
  refine kr_iload C 5 dL_law_1238 rfl ?_
  refine kr_iconst C (v := 1) dL_law_1240 (by decide) ?_
  refine kr_iadd C dL_law_1241 ?_
  obtain ⟨hb117, h⟩ := kif h
  refine kr_sld C CS (kin_in hb117) dL_law_1242 ?_
  obtain ⟨v118, hv118, h⟩ := kob h
  refine law_toY ?_
  refine kr_callV1 C (k := 1) (As := [.int (xs (x5 + (1 : Int32)).toNatClampNeg)]) (rest := []) (c_X3_addRoom hv118) gL_law_X3_addRoom rfl rfl rfl (by decide +kernel) ⟨(Nat.le_of_ble_eq_true rfl), (Nat.le_of_ble_eq_true rfl)⟩ ⟨by show _ ≤ 619962; omega, by show _ ≤ 7168635; omega⟩ 0 rfl rfl rfl rfl (Nat.le_of_ble_eq_true rfl) dL_law_1243 ?_
  refine law_toX (T := v118.2) ?_
  refine kr_istore C [1, 2, 3, 4, 5, 6, 7, 0] dL_law_1246 (by decide) rfl ?_
  refine kr_aload_n C 2 dL_law_1248 rfl rfl ?_
  obtain ⟨v119, hv119, h⟩ := kob h
  refine law_toY ?_
  refine kr_callV1 C (k := 0) (As := []) (rest := []) (c_X3_thrown hv119) gL_law_X3_thrown rfl rfl rfl (by decide +kernel) ⟨(Nat.le_of_ble_eq_true rfl), (Nat.le_of_ble_eq_true rfl)⟩ ⟨by show _ ≤ 619962; omega, by show _ ≤ 7168635; omega⟩ 0 rfl rfl rfl rfl (Nat.le_of_ble_eq_true rfl) dL_law_1249 ?_
  refine law_toX (T := v118.2) ?_
  refine kr_iload C 6 dL_law_1252 rfl ?_
  refine kr_icmp_eq C 1259 dL_law_1254 (by decide) (fun hc => ?_) (fun hc => ?_)
  · have h := (if_pos hc).symm.trans h
    refine kr_iload C 6 dL_law_1259 rfl ?_
    refine kr_if_ne C 1276 dL_law_1261 (by decide) (fun hc => ?_) (fun hc => ?_)
    · have h := (if_pos hc).symm.trans h
      refine kr_aload_n C 3 dL_law_1264 rfl rfl ?_
      refine kr_iconst C (v := 0) dL_law_1265 (by decide) ?_
      refine kr_lald C 31 rfl (vp_in_iff.mpr (by decide)) dL_law_1266 ?_
      refine kr_iload C 7 dL_law_1267 rfl ?_
      refine kr_i2l C dL_law_1269 ?_
      refine kr_lcmp C dL_law_1270 ?_
      refine kr_if_eq C 1276 dL_law_1271 (by decide) (fun hc => ?_) (fun hc => ?_)
      · have h := (if_pos hc).symm.trans h
        refine kr_goto C 1847 dL_law_1276 (by decide) ?_
        cases h
        refine kr_sub [0, 1, 2, 3, 4, 5] rfl ?_
        exact kk _ _ (by omega) (by omega)
      have h := (if_neg hc).symm.trans h
      refine kr_iconst C (v := 0) dL_law_1274 (by decide) ?_
      cases h
    have h := (if_neg hc).symm.trans h
    refine kr_goto C 1847 dL_law_1276 (by decide) ?_
    cases h
    refine kr_sub [0, 1, 2, 3, 4, 5] rfl ?_
    exact kk _ _ (by omega) (by omega)
  have h := (if_neg hc).symm.trans h
  refine kr_iconst C (v := 0) dL_law_1257 (by decide) ?_
  cases h
set_option maxHeartbeats 8000000 in
set_option maxRecDepth 100000 in
theorem lc_c17 {K : kEnv} {l : Launch} {D : va_G} {cy : Nat → ClassId} {A : Nat → Prop} {a b : Nat → Nat} {o0 o1 sb L : Nat} {xs : Nat → Int32} {sa : Nat → Nat} {Q : State → Prop} (C : kC K D cy A 9 cL_law RL wsL_law ret) (CX : kCX K l A sa) (hlt : l.stackTraces = false) (CS : kScr K A sb L xs) {S T : kSt} {g : Nat → Int64} {d : Nat → UInt64} {x5 : Int32} {cells slots : Nat} {q : kLw} (hcl : cells ≤ 15000) (hsl : slots ≤ 150000) (h : f_L_c17 L xs S T g d x5 = some (some q)) (kk : ∀ (cells2 slots2 : Nat), cells2 ≤ cells + 20 → slots2 ≤ slots + 200 → kG K l D A room_1 9 Q (lwx a b cy o0 o1 q.1 q.2.1 q.2.2.1 q.2.2.2) cells2 slots2 1847 [(0, .ref sb), (1, .ref (a 0)), (2, .ref (b 0)), (3, .ref o0), (4, .ref o1), (5, .int x5)] []) : kG K l D A room_1 9 Q (lwx a b cy o0 o1 S T g d) cells slots 1279 [(0, .ref sb), (1, .ref (a 0)), (2, .ref (b 0)), (3, .ref o0), (4, .ref o1), (5, .int x5)] [] := by
  rw [f_L_c17] at h
  refine kr_aload_n C 1 dL_law_1279 rfl rfl ?_
  refine kr_aload_n C 0 dL_law_1280 rfl rfl ?_
  refine kr_iload C 5 dL_law_1281 rfl ?_
  refine kr_iconst C (v := 1) dL_law_1283 (by decide) ?_
  refine kr_iadd C dL_law_1284 ?_
  obtain ⟨hb120, h⟩ := kif h
  refine kr_sld C CS (kin_in hb120) dL_law_1285 ?_
  refine kr_aload_n C 0 dL_law_1286 rfl rfl ?_
  refine kr_iload C 5 dL_law_1287 rfl ?_
  refine kr_iconst C (v := 2) dL_law_1289 (by decide) ?_
  refine kr_iadd C dL_law_1290 ?_
  obtain ⟨hb121, h⟩ := kif h
  refine kr_sld C CS (kin_in hb121) dL_law_1291 ?_
  refine kr_aload_n C 3 dL_law_1292 rfl rfl ?_
  obtain ⟨v122, hv122, h⟩ := kob h
  refine kr_xT1 C CX (k := 4) (As := [.ref (a 0), .int (xs (x5 + (1 : Int32)).toNatClampNeg), .int (xs (x5 + (2 : Int32)).toNatClampNeg), .ref (o0)]) (rest := []) (c_L_reads hlt hv122) gL_law_L_reads rfl rfl rfl (by decide +kernel) ⟨(Nat.le_of_ble_eq_true rfl), (Nat.le_of_ble_eq_true rfl)⟩ ⟨by show _ ≤ 619962; omega, by show _ ≤ 7168635; omega⟩ rfl rfl (Nat.le_of_ble_eq_true rfl) dL_law_1293 ?_
  refine kr_istore C [1, 2, 3, 4, 5, 6, 0] dL_law_1296 (by decide) rfl ?_
  refine kr_aload_n C 2 dL_law_1298 rfl rfl ?_
  refine kr_aload_n C 0 dL_law_1299 rfl rfl ?_
  refine kr_iload C 5 dL_law_1300 rfl ?_
  refine kr_iconst C (v := 1) dL_law_1302 (by decide) ?_
  refine kr_iadd C dL_law_1303 ?_
  obtain ⟨hb123, h⟩ := kif h
  refine kr_sld C CS (kin_in hb123) dL_law_1304 ?_
  refine kr_aload_n C 0 dL_law_1305 rfl rfl ?_
  refine kr_iload C 5 dL_law_1306 rfl ?_
  refine kr_iconst C (v := 2) dL_law_1308 (by decide) ?_
  refine kr_iadd C dL_law_1309 ?_
  obtain ⟨hb124, h⟩ := kif h
  refine kr_sld C CS (kin_in hb124) dL_law_1310 ?_
  obtain ⟨v125, hv125, h⟩ := kob h
  refine law_toY ?_
  refine kr_callV1 C (k := 2) (As := [.int (xs (x5 + (1 : Int32)).toNatClampNeg), .int (xs (x5 + (2 : Int32)).toNatClampNeg)]) (rest := []) (c_X3_reads hv125) gL_law_X3_reads rfl rfl rfl (by decide +kernel) ⟨(Nat.le_of_ble_eq_true rfl), (Nat.le_of_ble_eq_true rfl)⟩ ⟨by show _ ≤ 619962; omega, by show _ ≤ 7168635; omega⟩ 0 rfl rfl rfl rfl (Nat.le_of_ble_eq_true rfl) dL_law_1311 ?_
  refine law_toX (T := v125.2) ?_
  refine kr_istore C [1, 2, 3, 4, 5, 6, 7, 0] dL_law_1314 (by decide) rfl ?_
  refine kr_aload_n C 2 dL_law_1316 rfl rfl ?_
  obtain ⟨v126, hv126, h⟩ := kob h
  refine law_toY ?_
  refine kr_callV1 C (k := 0) (As := []) (rest := []) (c_X3_thrown hv126) gL_law_X3_thrown rfl rfl rfl (by decide +kernel) ⟨(Nat.le_of_ble_eq_true rfl), (Nat.le_of_ble_eq_true rfl)⟩ ⟨by show _ ≤ 619962; omega, by show _ ≤ 7168635; omega⟩ 0 rfl rfl rfl rfl (Nat.le_of_ble_eq_true rfl) dL_law_1317 ?_
  refine law_toX (T := v125.2) ?_
  refine kr_iload C 6 dL_law_1320 rfl ?_
  refine kr_icmp_eq C 1327 dL_law_1322 (by decide) (fun hc => ?_) (fun hc => ?_)
  · have h := (if_pos hc).symm.trans h
    refine kr_iload C 6 dL_law_1327 rfl ?_
    refine kr_if_ne C 1351 dL_law_1329 (by decide) (fun hc => ?_) (fun hc => ?_)
    · have h := (if_pos hc).symm.trans h
      refine kr_aload_n C 3 dL_law_1332 rfl rfl ?_
      refine kr_iconst C (v := 0) dL_law_1333 (by decide) ?_
      refine kr_lald C 31 rfl (vp_in_iff.mpr (by decide)) dL_law_1334 ?_
      refine kr_iload C 7 dL_law_1335 rfl ?_
      refine kr_if_eq C 1344 dL_law_1337 (by decide) (fun hc => ?_) (fun hc => ?_)
      · have h := (if_pos hc).symm.trans h
        refine kr_lconst C (v := 0) dL_law_1344 (by decide) ?_
        refine kr_lcmp C dL_law_1345 ?_
        refine kr_if_eq C 1351 dL_law_1346 (by decide) (fun hc => ?_) (fun hc => ?_)
        · have h := (if_pos hc).symm.trans h
          refine kr_goto C 1847 dL_law_1351 (by decide) ?_
          cases h
          refine kr_sub [0, 1, 2, 3, 4, 5] rfl ?_
          exact kk _ _ (by omega) (by omega)
        have h := (if_neg hc).symm.trans h
        refine kr_iconst C (v := 0) dL_law_1349 (by decide) ?_
        cases h
      have h := (if_neg hc).symm.trans h
      refine kr_lconst C (v := 1) dL_law_1340 (by decide) ?_
      refine kr_goto C 1345 dL_law_1341 (by decide) ?_
      refine kr_lcmp C dL_law_1345 ?_
      refine kr_if_eq C 1351 dL_law_1346 (by decide) (fun hc => ?_) (fun hc => ?_)
      · have h := (if_pos hc).symm.trans h
        refine kr_goto C 1847 dL_law_1351 (by decide) ?_
        cases h
        refine kr_sub [0, 1, 2, 3, 4, 5] rfl ?_
        exact kk _ _ (by omega) (by omega)
      have h := (if_neg hc).symm.trans h
      refine kr_iconst C (v := 0) dL_law_1349 (by decide) ?_
      cases h
    have h := (if_neg hc).symm.trans h
    refine kr_goto C 1847 dL_law_1351 (by decide) ?_
    cases h
    refine kr_sub [0, 1, 2, 3, 4, 5] rfl ?_
    exact kk _ _ (by omega) (by omega)
  have h := (if_neg hc).symm.trans h
  refine kr_iconst C (v := 0) dL_law_1325 (by decide) ?_
  cases h
set_option maxHeartbeats 8000000 in
set_option maxRecDepth 100000 in
theorem lc_c18 {K : kEnv} {l : Launch} {D : va_G} {cy : Nat → ClassId} {A : Nat → Prop} {a b : Nat → Nat} {o0 o1 sb L : Nat} {xs : Nat → Int32} {sa : Nat → Nat} {Q : State → Prop} (C : kC K D cy A 9 cL_law RL wsL_law ret) (CX : kCX K l A sa) (hlt : l.stackTraces = false) (CS : kScr K A sb L xs) {S T : kSt} {g : Nat → Int64} {d : Nat → UInt64} {x5 : Int32} {cells slots : Nat} {q : kLw} (hcl : cells ≤ 15000) (hsl : slots ≤ 150000) (h : f_L_c18 L xs S T g d x5 = some (some q)) (kk : ∀ (cells2 slots2 : Nat), cells2 ≤ cells + 20 → slots2 ≤ slots + 200 → kG K l D A room_1 9 Q (lwx a b cy o0 o1 q.1 q.2.1 q.2.2.1 q.2.2.2) cells2 slots2 1847 [(0, .ref sb), (1, .ref (a 0)), (2, .ref (b 0)), (3, .ref o0), (4, .ref o1), (5, .int x5)] []) : kG K l D A room_1 9 Q (lwx a b cy o0 o1 S T g d) cells slots 1354 [(0, .ref sb), (1, .ref (a 0)), (2, .ref (b 0)), (3, .ref o0), (4, .ref o1), (5, .int x5)] [] := by
  rw [f_L_c18] at h
  refine kr_aload_n C 1 dL_law_1354 rfl rfl ?_
  refine kr_aload_n C 0 dL_law_1355 rfl rfl ?_
  refine kr_iload C 5 dL_law_1356 rfl ?_
  refine kr_iconst C (v := 1) dL_law_1358 (by decide) ?_
  refine kr_iadd C dL_law_1359 ?_
  obtain ⟨hb127, h⟩ := kif h
  refine kr_sld C CS (kin_in hb127) dL_law_1360 ?_
  refine kr_aload_n C 3 dL_law_1361 rfl rfl ?_
  obtain ⟨v128, hv128, h⟩ := kob h
  refine kr_xT1 C CX (k := 3) (As := [.ref (a 0), .int (xs (x5 + (1 : Int32)).toNatClampNeg), .ref (o0)]) (rest := []) (c_L_readers hlt hv128) gL_law_L_readers rfl rfl rfl (by decide +kernel) ⟨(Nat.le_of_ble_eq_true rfl), (Nat.le_of_ble_eq_true rfl)⟩ ⟨by show _ ≤ 619962; omega, by show _ ≤ 7168635; omega⟩ rfl rfl (Nat.le_of_ble_eq_true rfl) dL_law_1362 ?_
  refine kr_istore C [1, 2, 3, 4, 5, 6, 0] dL_law_1365 (by decide) rfl ?_
  refine kr_aload_n C 2 dL_law_1367 rfl rfl ?_
  refine kr_aload_n C 0 dL_law_1368 rfl rfl ?_
  refine kr_iload C 5 dL_law_1369 rfl ?_
  refine kr_iconst C (v := 1) dL_law_1371 (by decide) ?_
  refine kr_iadd C dL_law_1372 ?_
  obtain ⟨hb129, h⟩ := kif h
  refine kr_sld C CS (kin_in hb129) dL_law_1373 ?_
  obtain ⟨v130, hv130, h⟩ := kob h
  refine law_toY ?_
  refine kr_callV1 C (k := 1) (As := [.int (xs (x5 + (1 : Int32)).toNatClampNeg)]) (rest := []) (c_X3_readers hv130) gL_law_X3_readers rfl rfl rfl (by decide +kernel) ⟨(Nat.le_of_ble_eq_true rfl), (Nat.le_of_ble_eq_true rfl)⟩ ⟨by show _ ≤ 619962; omega, by show _ ≤ 7168635; omega⟩ 0 rfl rfl rfl rfl (Nat.le_of_ble_eq_true rfl) dL_law_1374 ?_
  refine law_toX (T := v130.2) ?_
  refine kr_istore C [1, 2, 3, 4, 5, 6, 7, 0] dL_law_1377 (by decide) rfl ?_
  refine kr_aload_n C 2 dL_law_1379 rfl rfl ?_
  obtain ⟨v131, hv131, h⟩ := kob h
  refine law_toY ?_
  refine kr_callV1 C (k := 0) (As := []) (rest := []) (c_X3_thrown hv131) gL_law_X3_thrown rfl rfl rfl (by decide +kernel) ⟨(Nat.le_of_ble_eq_true rfl), (Nat.le_of_ble_eq_true rfl)⟩ ⟨by show _ ≤ 619962; omega, by show _ ≤ 7168635; omega⟩ 0 rfl rfl rfl rfl (Nat.le_of_ble_eq_true rfl) dL_law_1380 ?_
  refine law_toX (T := v130.2) ?_
  refine kr_iload C 6 dL_law_1383 rfl ?_
  refine kr_icmp_eq C 1390 dL_law_1385 (by decide) (fun hc => ?_) (fun hc => ?_)
  · have h := (if_pos hc).symm.trans h
    refine kr_iload C 6 dL_law_1390 rfl ?_
    refine kr_if_ne C 1407 dL_law_1392 (by decide) (fun hc => ?_) (fun hc => ?_)
    · have h := (if_pos hc).symm.trans h
      refine kr_aload_n C 3 dL_law_1395 rfl rfl ?_
      refine kr_iconst C (v := 0) dL_law_1396 (by decide) ?_
      refine kr_lald C 31 rfl (vp_in_iff.mpr (by decide)) dL_law_1397 ?_
      refine kr_iload C 7 dL_law_1398 rfl ?_
      refine kr_i2l C dL_law_1400 ?_
      refine kr_lcmp C dL_law_1401 ?_
      refine kr_if_eq C 1407 dL_law_1402 (by decide) (fun hc => ?_) (fun hc => ?_)
      · have h := (if_pos hc).symm.trans h
        refine kr_goto C 1847 dL_law_1407 (by decide) ?_
        cases h
        refine kr_sub [0, 1, 2, 3, 4, 5] rfl ?_
        exact kk _ _ (by omega) (by omega)
      have h := (if_neg hc).symm.trans h
      refine kr_iconst C (v := 0) dL_law_1405 (by decide) ?_
      cases h
    have h := (if_neg hc).symm.trans h
    refine kr_goto C 1847 dL_law_1407 (by decide) ?_
    cases h
    refine kr_sub [0, 1, 2, 3, 4, 5] rfl ?_
    exact kk _ _ (by omega) (by omega)
  have h := (if_neg hc).symm.trans h
  refine kr_iconst C (v := 0) dL_law_1388 (by decide) ?_
  cases h
set_option maxHeartbeats 8000000 in
set_option maxRecDepth 100000 in
theorem lc_c19 {K : kEnv} {l : Launch} {D : va_G} {cy : Nat → ClassId} {A : Nat → Prop} {a b : Nat → Nat} {o0 o1 sb L : Nat} {xs : Nat → Int32} {sa : Nat → Nat} {Q : State → Prop} (C : kC K D cy A 9 cL_law RL wsL_law ret) (CX : kCX K l A sa) (hlt : l.stackTraces = false) (CS : kScr K A sb L xs) {S T : kSt} {g : Nat → Int64} {d : Nat → UInt64} {x5 : Int32} {cells slots : Nat} {q : kLw} (hcl : cells ≤ 15000) (hsl : slots ≤ 150000) (h : f_L_c19 L xs S T g d x5 = some (some q)) (kk : ∀ (cells2 slots2 : Nat), cells2 ≤ cells + 20 → slots2 ≤ slots + 200 → kG K l D A room_1 9 Q (lwx a b cy o0 o1 q.1 q.2.1 q.2.2.1 q.2.2.2) cells2 slots2 1847 [(0, .ref sb), (1, .ref (a 0)), (2, .ref (b 0)), (3, .ref o0), (4, .ref o1), (5, .int x5)] []) : kG K l D A room_1 9 Q (lwx a b cy o0 o1 S T g d) cells slots 1410 [(0, .ref sb), (1, .ref (a 0)), (2, .ref (b 0)), (3, .ref o0), (4, .ref o1), (5, .int x5)] [] := by
  rw [f_L_c19] at h
  refine kr_aload_n C 1 dL_law_1410 rfl rfl ?_
  refine kr_aload_n C 0 dL_law_1411 rfl rfl ?_
  refine kr_iload C 5 dL_law_1412 rfl ?_
  refine kr_iconst C (v := 1) dL_law_1414 (by decide) ?_
  refine kr_iadd C dL_law_1415 ?_
  obtain ⟨hb132, h⟩ := kif h
  refine kr_sld C CS (kin_in hb132) dL_law_1416 ?_
  refine kr_aload_n C 3 dL_law_1417 rfl rfl ?_
  obtain ⟨v133, hv133, h⟩ := kob h
  refine kr_xT1 C CX (k := 3) (As := [.ref (a 0), .int (xs (x5 + (1 : Int32)).toNatClampNeg), .ref (o0)]) (rest := []) (c_L_keeper hlt hv133) gL_law_L_keeper rfl rfl rfl (by decide +kernel) ⟨(Nat.le_of_ble_eq_true rfl), (Nat.le_of_ble_eq_true rfl)⟩ ⟨by show _ ≤ 619962; omega, by show _ ≤ 7168635; omega⟩ rfl rfl (Nat.le_of_ble_eq_true rfl) dL_law_1418 ?_
  refine kr_istore C [1, 2, 3, 4, 5, 6, 0] dL_law_1421 (by decide) rfl ?_
  refine kr_aload_n C 2 dL_law_1423 rfl rfl ?_
  refine kr_aload_n C 0 dL_law_1424 rfl rfl ?_
  refine kr_iload C 5 dL_law_1425 rfl ?_
  refine kr_iconst C (v := 1) dL_law_1427 (by decide) ?_
  refine kr_iadd C dL_law_1428 ?_
  obtain ⟨hb134, h⟩ := kif h
  refine kr_sld C CS (kin_in hb134) dL_law_1429 ?_
  obtain ⟨v135, hv135, h⟩ := kob h
  refine law_toY ?_
  refine kr_callV1 C (k := 1) (As := [.int (xs (x5 + (1 : Int32)).toNatClampNeg)]) (rest := []) (c_X3_keeper hv135) gL_law_X3_keeper rfl rfl rfl (by decide +kernel) ⟨(Nat.le_of_ble_eq_true rfl), (Nat.le_of_ble_eq_true rfl)⟩ ⟨by show _ ≤ 619962; omega, by show _ ≤ 7168635; omega⟩ 0 rfl rfl rfl rfl (Nat.le_of_ble_eq_true rfl) dL_law_1430 ?_
  refine law_toX (T := v135.2) ?_
  refine kr_istore C [1, 2, 3, 4, 5, 6, 7, 0] dL_law_1433 (by decide) rfl ?_
  refine kr_aload_n C 2 dL_law_1435 rfl rfl ?_
  obtain ⟨v136, hv136, h⟩ := kob h
  refine law_toY ?_
  refine kr_callV1 C (k := 0) (As := []) (rest := []) (c_X3_thrown hv136) gL_law_X3_thrown rfl rfl rfl (by decide +kernel) ⟨(Nat.le_of_ble_eq_true rfl), (Nat.le_of_ble_eq_true rfl)⟩ ⟨by show _ ≤ 619962; omega, by show _ ≤ 7168635; omega⟩ 0 rfl rfl rfl rfl (Nat.le_of_ble_eq_true rfl) dL_law_1436 ?_
  refine law_toX (T := v135.2) ?_
  refine kr_iload C 6 dL_law_1439 rfl ?_
  refine kr_icmp_eq C 1446 dL_law_1441 (by decide) (fun hc => ?_) (fun hc => ?_)
  · have h := (if_pos hc).symm.trans h
    refine kr_iload C 6 dL_law_1446 rfl ?_
    refine kr_if_ne C 1463 dL_law_1448 (by decide) (fun hc => ?_) (fun hc => ?_)
    · have h := (if_pos hc).symm.trans h
      refine kr_aload_n C 3 dL_law_1451 rfl rfl ?_
      refine kr_iconst C (v := 0) dL_law_1452 (by decide) ?_
      refine kr_lald C 31 rfl (vp_in_iff.mpr (by decide)) dL_law_1453 ?_
      refine kr_iload C 7 dL_law_1454 rfl ?_
      refine kr_i2l C dL_law_1456 ?_
      refine kr_lcmp C dL_law_1457 ?_
      refine kr_if_eq C 1463 dL_law_1458 (by decide) (fun hc => ?_) (fun hc => ?_)
      · have h := (if_pos hc).symm.trans h
        refine kr_goto C 1847 dL_law_1463 (by decide) ?_
        cases h
        refine kr_sub [0, 1, 2, 3, 4, 5] rfl ?_
        exact kk _ _ (by omega) (by omega)
      have h := (if_neg hc).symm.trans h
      refine kr_iconst C (v := 0) dL_law_1461 (by decide) ?_
      cases h
    have h := (if_neg hc).symm.trans h
    refine kr_goto C 1847 dL_law_1463 (by decide) ?_
    cases h
    refine kr_sub [0, 1, 2, 3, 4, 5] rfl ?_
    exact kk _ _ (by omega) (by omega)
  have h := (if_neg hc).symm.trans h
  refine kr_iconst C (v := 0) dL_law_1444 (by decide) ?_
  cases h
set_option maxHeartbeats 8000000 in
set_option maxRecDepth 100000 in
theorem lc_c20 {K : kEnv} {l : Launch} {D : va_G} {cy : Nat → ClassId} {A : Nat → Prop} {a b : Nat → Nat} {o0 o1 sb L : Nat} {xs : Nat → Int32} {sa : Nat → Nat} {Q : State → Prop} (C : kC K D cy A 9 cL_law RL wsL_law ret) (CX : kCX K l A sa) (hlt : l.stackTraces = false) (CS : kScr K A sb L xs) {S T : kSt} {g : Nat → Int64} {d : Nat → UInt64} {x5 : Int32} {cells slots : Nat} {q : kLw} (hcl : cells ≤ 15000) (hsl : slots ≤ 150000) (h : f_L_c20 L xs S T g d x5 = some (some q)) (kk : ∀ (cells2 slots2 : Nat), cells2 ≤ cells + 20 → slots2 ≤ slots + 200 → kG K l D A room_1 9 Q (lwx a b cy o0 o1 q.1 q.2.1 q.2.2.1 q.2.2.2) cells2 slots2 1847 [(0, .ref sb), (1, .ref (a 0)), (2, .ref (b 0)), (3, .ref o0), (4, .ref o1), (5, .int x5)] []) : kG K l D A room_1 9 Q (lwx a b cy o0 o1 S T g d) cells slots 1466 [(0, .ref sb), (1, .ref (a 0)), (2, .ref (b 0)), (3, .ref o0), (4, .ref o1), (5, .int x5)] [] := by
  rw [f_L_c20] at h
  refine kr_aload_n C 1 dL_law_1466 rfl rfl ?_
  refine kr_aload_n C 0 dL_law_1467 rfl rfl ?_
  refine kr_iload C 5 dL_law_1468 rfl ?_
  refine kr_iconst C (v := 1) dL_law_1470 (by decide) ?_
  refine kr_iadd C dL_law_1471 ?_
  obtain ⟨hb137, h⟩ := kif h
  refine kr_sld C CS (kin_in hb137) dL_law_1472 ?_
  refine kr_aload_n C 3 dL_law_1473 rfl rfl ?_
  obtain ⟨v138, hv138, h⟩ := kob h
  refine kr_xT1 C CX (k := 3) (As := [.ref (a 0), .int (xs (x5 + (1 : Int32)).toNatClampNeg), .ref (o0)]) (rest := []) (c_L_leave hlt hv138) gL_law_L_leave rfl rfl rfl (by decide +kernel) ⟨(Nat.le_of_ble_eq_true rfl), (Nat.le_of_ble_eq_true rfl)⟩ ⟨by show _ ≤ 619962; omega, by show _ ≤ 7168635; omega⟩ rfl rfl (Nat.le_of_ble_eq_true rfl) dL_law_1474 ?_
  refine kr_istore C [1, 2, 3, 4, 5, 6, 0] dL_law_1477 (by decide) rfl ?_
  refine kr_aload_n C 2 dL_law_1479 rfl rfl ?_
  refine kr_aload_n C 0 dL_law_1480 rfl rfl ?_
  refine kr_iload C 5 dL_law_1481 rfl ?_
  refine kr_iconst C (v := 1) dL_law_1483 (by decide) ?_
  refine kr_iadd C dL_law_1484 ?_
  obtain ⟨hb139, h⟩ := kif h
  refine kr_sld C CS (kin_in hb139) dL_law_1485 ?_
  obtain ⟨v140, hv140, h⟩ := kob h
  refine law_toY ?_
  refine kr_callV1 C (k := 1) (As := [.int (xs (x5 + (1 : Int32)).toNatClampNeg)]) (rest := []) (c_X3_leave hv140) gL_law_X3_leave rfl rfl rfl (by decide +kernel) ⟨(Nat.le_of_ble_eq_true rfl), (Nat.le_of_ble_eq_true rfl)⟩ ⟨by show _ ≤ 619962; omega, by show _ ≤ 7168635; omega⟩ 0 rfl rfl rfl rfl (Nat.le_of_ble_eq_true rfl) dL_law_1486 ?_
  refine law_toX (T := v140.2) ?_
  refine kr_istore C [1, 2, 3, 4, 5, 6, 7, 0] dL_law_1489 (by decide) rfl ?_
  refine kr_aload_n C 2 dL_law_1491 rfl rfl ?_
  obtain ⟨v141, hv141, h⟩ := kob h
  refine law_toY ?_
  refine kr_callV1 C (k := 0) (As := []) (rest := []) (c_X3_thrown hv141) gL_law_X3_thrown rfl rfl rfl (by decide +kernel) ⟨(Nat.le_of_ble_eq_true rfl), (Nat.le_of_ble_eq_true rfl)⟩ ⟨by show _ ≤ 619962; omega, by show _ ≤ 7168635; omega⟩ 0 rfl rfl rfl rfl (Nat.le_of_ble_eq_true rfl) dL_law_1492 ?_
  refine law_toX (T := v140.2) ?_
  refine kr_iload C 6 dL_law_1495 rfl ?_
  refine kr_icmp_eq C 1502 dL_law_1497 (by decide) (fun hc => ?_) (fun hc => ?_)
  · have h := (if_pos hc).symm.trans h
    refine kr_iload C 6 dL_law_1502 rfl ?_
    refine kr_if_ne C 1519 dL_law_1504 (by decide) (fun hc => ?_) (fun hc => ?_)
    · have h := (if_pos hc).symm.trans h
      refine kr_aload_n C 3 dL_law_1507 rfl rfl ?_
      refine kr_iconst C (v := 0) dL_law_1508 (by decide) ?_
      refine kr_lald C 31 rfl (vp_in_iff.mpr (by decide)) dL_law_1509 ?_
      refine kr_iload C 7 dL_law_1510 rfl ?_
      refine kr_i2l C dL_law_1512 ?_
      refine kr_lcmp C dL_law_1513 ?_
      refine kr_if_eq C 1519 dL_law_1514 (by decide) (fun hc => ?_) (fun hc => ?_)
      · have h := (if_pos hc).symm.trans h
        refine kr_goto C 1847 dL_law_1519 (by decide) ?_
        cases h
        refine kr_sub [0, 1, 2, 3, 4, 5] rfl ?_
        exact kk _ _ (by omega) (by omega)
      have h := (if_neg hc).symm.trans h
      refine kr_iconst C (v := 0) dL_law_1517 (by decide) ?_
      cases h
    have h := (if_neg hc).symm.trans h
    refine kr_goto C 1847 dL_law_1519 (by decide) ?_
    cases h
    refine kr_sub [0, 1, 2, 3, 4, 5] rfl ?_
    exact kk _ _ (by omega) (by omega)
  have h := (if_neg hc).symm.trans h
  refine kr_iconst C (v := 0) dL_law_1500 (by decide) ?_
  cases h
set_option maxHeartbeats 8000000 in
set_option maxRecDepth 100000 in
theorem lc_c21 {K : kEnv} {l : Launch} {D : va_G} {cy : Nat → ClassId} {A : Nat → Prop} {a b : Nat → Nat} {o0 o1 sb L : Nat} {xs : Nat → Int32} {sa : Nat → Nat} {Q : State → Prop} (C : kC K D cy A 9 cL_law RL wsL_law ret) (CX : kCX K l A sa) (hlt : l.stackTraces = false) (CS : kScr K A sb L xs) {S T : kSt} {g : Nat → Int64} {d : Nat → UInt64} {x5 : Int32} {cells slots : Nat} {q : kLw} (hcl : cells ≤ 15000) (hsl : slots ≤ 150000) (h : f_L_c21 L xs S T g d x5 = some (some q)) (kk : ∀ (cells2 slots2 : Nat), cells2 ≤ cells + 20 → slots2 ≤ slots + 200 → kG K l D A room_1 9 Q (lwx a b cy o0 o1 q.1 q.2.1 q.2.2.1 q.2.2.2) cells2 slots2 1847 [(0, .ref sb), (1, .ref (a 0)), (2, .ref (b 0)), (3, .ref o0), (4, .ref o1), (5, .int x5)] []) : kG K l D A room_1 9 Q (lwx a b cy o0 o1 S T g d) cells slots 1522 [(0, .ref sb), (1, .ref (a 0)), (2, .ref (b 0)), (3, .ref o0), (4, .ref o1), (5, .int x5)] [] := by
  rw [f_L_c21] at h
  refine kr_aload_n C 1 dL_law_1522 rfl rfl ?_
  refine kr_aload_n C 0 dL_law_1523 rfl rfl ?_
  refine kr_iload C 5 dL_law_1524 rfl ?_
  refine kr_iconst C (v := 1) dL_law_1526 (by decide) ?_
  refine kr_iadd C dL_law_1527 ?_
  obtain ⟨hb142, h⟩ := kif h
  refine kr_sld C CS (kin_in hb142) dL_law_1528 ?_
  refine kr_aload_n C 3 dL_law_1529 rfl rfl ?_
  obtain ⟨v143, hv143, h⟩ := kob h
  refine kr_xT1 C CX (k := 3) (As := [.ref (a 0), .int (xs (x5 + (1 : Int32)).toNatClampNeg), .ref (o0)]) (rest := []) (c_L_hold hlt hv143) gL_law_L_hold rfl rfl rfl (by decide +kernel) ⟨(Nat.le_of_ble_eq_true rfl), (Nat.le_of_ble_eq_true rfl)⟩ ⟨by show _ ≤ 619962; omega, by show _ ≤ 7168635; omega⟩ rfl rfl (Nat.le_of_ble_eq_true rfl) dL_law_1530 ?_
  refine kr_istore C [1, 2, 3, 4, 5, 6, 0] dL_law_1533 (by decide) rfl ?_
  refine kr_aload_n C 2 dL_law_1535 rfl rfl ?_
  refine kr_aload_n C 0 dL_law_1536 rfl rfl ?_
  refine kr_iload C 5 dL_law_1537 rfl ?_
  refine kr_iconst C (v := 1) dL_law_1539 (by decide) ?_
  refine kr_iadd C dL_law_1540 ?_
  obtain ⟨hb144, h⟩ := kif h
  refine kr_sld C CS (kin_in hb144) dL_law_1541 ?_
  obtain ⟨v145, hv145, h⟩ := kob h
  refine law_toY ?_
  refine kr_callV1 C (k := 1) (As := [.int (xs (x5 + (1 : Int32)).toNatClampNeg)]) (rest := []) (c_X3_hold hv145) gL_law_X3_hold rfl rfl rfl (by decide +kernel) ⟨(Nat.le_of_ble_eq_true rfl), (Nat.le_of_ble_eq_true rfl)⟩ ⟨by show _ ≤ 619962; omega, by show _ ≤ 7168635; omega⟩ 0 rfl rfl rfl rfl (Nat.le_of_ble_eq_true rfl) dL_law_1542 ?_
  refine law_toX (T := v145.2) ?_
  refine kr_istore C [1, 2, 3, 4, 5, 6, 7, 0] dL_law_1545 (by decide) rfl ?_
  refine kr_aload_n C 2 dL_law_1547 rfl rfl ?_
  obtain ⟨v146, hv146, h⟩ := kob h
  refine law_toY ?_
  refine kr_callV1 C (k := 0) (As := []) (rest := []) (c_X3_thrown hv146) gL_law_X3_thrown rfl rfl rfl (by decide +kernel) ⟨(Nat.le_of_ble_eq_true rfl), (Nat.le_of_ble_eq_true rfl)⟩ ⟨by show _ ≤ 619962; omega, by show _ ≤ 7168635; omega⟩ 0 rfl rfl rfl rfl (Nat.le_of_ble_eq_true rfl) dL_law_1548 ?_
  refine law_toX (T := v145.2) ?_
  refine kr_iload C 6 dL_law_1551 rfl ?_
  refine kr_icmp_eq C 1558 dL_law_1553 (by decide) (fun hc => ?_) (fun hc => ?_)
  · have h := (if_pos hc).symm.trans h
    refine kr_iload C 6 dL_law_1558 rfl ?_
    refine kr_if_ne C 1575 dL_law_1560 (by decide) (fun hc => ?_) (fun hc => ?_)
    · have h := (if_pos hc).symm.trans h
      refine kr_aload_n C 3 dL_law_1563 rfl rfl ?_
      refine kr_iconst C (v := 0) dL_law_1564 (by decide) ?_
      refine kr_lald C 31 rfl (vp_in_iff.mpr (by decide)) dL_law_1565 ?_
      refine kr_iload C 7 dL_law_1566 rfl ?_
      refine kr_i2l C dL_law_1568 ?_
      refine kr_lcmp C dL_law_1569 ?_
      refine kr_if_eq C 1575 dL_law_1570 (by decide) (fun hc => ?_) (fun hc => ?_)
      · have h := (if_pos hc).symm.trans h
        refine kr_goto C 1847 dL_law_1575 (by decide) ?_
        cases h
        refine kr_sub [0, 1, 2, 3, 4, 5] rfl ?_
        exact kk _ _ (by omega) (by omega)
      have h := (if_neg hc).symm.trans h
      refine kr_iconst C (v := 0) dL_law_1573 (by decide) ?_
      cases h
    have h := (if_neg hc).symm.trans h
    refine kr_goto C 1847 dL_law_1575 (by decide) ?_
    cases h
    refine kr_sub [0, 1, 2, 3, 4, 5] rfl ?_
    exact kk _ _ (by omega) (by omega)
  have h := (if_neg hc).symm.trans h
  refine kr_iconst C (v := 0) dL_law_1556 (by decide) ?_
  cases h
set_option maxHeartbeats 8000000 in
set_option maxRecDepth 100000 in
theorem lc_c22 {K : kEnv} {l : Launch} {D : va_G} {cy : Nat → ClassId} {A : Nat → Prop} {a b : Nat → Nat} {o0 o1 sb L : Nat} {xs : Nat → Int32} {sa : Nat → Nat} {Q : State → Prop} (C : kC K D cy A 9 cL_law RL wsL_law ret) (CX : kCX K l A sa) (hlt : l.stackTraces = false) (CS : kScr K A sb L xs) {S T : kSt} {g : Nat → Int64} {d : Nat → UInt64} {x5 : Int32} {cells slots : Nat} {q : kLw} (hcl : cells ≤ 15000) (hsl : slots ≤ 150000) (h : f_L_c22 L xs S T g d x5 = some (some q)) (kk : ∀ (cells2 slots2 : Nat), cells2 ≤ cells + 20 → slots2 ≤ slots + 200 → kG K l D A room_1 9 Q (lwx a b cy o0 o1 q.1 q.2.1 q.2.2.1 q.2.2.2) cells2 slots2 1847 [(0, .ref sb), (1, .ref (a 0)), (2, .ref (b 0)), (3, .ref o0), (4, .ref o1), (5, .int x5)] []) : kG K l D A room_1 9 Q (lwx a b cy o0 o1 S T g d) cells slots 1578 [(0, .ref sb), (1, .ref (a 0)), (2, .ref (b 0)), (3, .ref o0), (4, .ref o1), (5, .int x5)] [] := by
  rw [f_L_c22] at h
  refine kr_aload_n C 1 dL_law_1578 rfl rfl ?_
  refine kr_aload_n C 0 dL_law_1579 rfl rfl ?_
  refine kr_iload C 5 dL_law_1580 rfl ?_
  refine kr_iconst C (v := 1) dL_law_1582 (by decide) ?_
  refine kr_iadd C dL_law_1583 ?_
  obtain ⟨hb147, h⟩ := kif h
  refine kr_sld C CS (kin_in hb147) dL_law_1584 ?_
  refine kr_aload_n C 3 dL_law_1585 rfl rfl ?_
  obtain ⟨v148, hv148, h⟩ := kob h
  refine kr_xT1 C CX (k := 3) (As := [.ref (a 0), .int (xs (x5 + (1 : Int32)).toNatClampNeg), .ref (o0)]) (rest := []) (c_L_release hlt hv148) gL_law_L_release rfl rfl rfl (by decide +kernel) ⟨(Nat.le_of_ble_eq_true rfl), (Nat.le_of_ble_eq_true rfl)⟩ ⟨by show _ ≤ 619962; omega, by show _ ≤ 7168635; omega⟩ rfl rfl (Nat.le_of_ble_eq_true rfl) dL_law_1586 ?_
  refine kr_istore C [1, 2, 3, 4, 5, 6, 0] dL_law_1589 (by decide) rfl ?_
  refine kr_aload_n C 2 dL_law_1591 rfl rfl ?_
  refine kr_aload_n C 0 dL_law_1592 rfl rfl ?_
  refine kr_iload C 5 dL_law_1593 rfl ?_
  refine kr_iconst C (v := 1) dL_law_1595 (by decide) ?_
  refine kr_iadd C dL_law_1596 ?_
  obtain ⟨hb149, h⟩ := kif h
  refine kr_sld C CS (kin_in hb149) dL_law_1597 ?_
  obtain ⟨v150, hv150, h⟩ := kob h
  refine law_toY ?_
  refine kr_callV1 C (k := 1) (As := [.int (xs (x5 + (1 : Int32)).toNatClampNeg)]) (rest := []) (c_X3_release hv150) gL_law_X3_release rfl rfl rfl (by decide +kernel) ⟨(Nat.le_of_ble_eq_true rfl), (Nat.le_of_ble_eq_true rfl)⟩ ⟨by show _ ≤ 619962; omega, by show _ ≤ 7168635; omega⟩ 0 rfl rfl rfl rfl (Nat.le_of_ble_eq_true rfl) dL_law_1598 ?_
  refine law_toX (T := v150.2) ?_
  refine kr_istore C [1, 2, 3, 4, 5, 6, 7, 0] dL_law_1601 (by decide) rfl ?_
  refine kr_aload_n C 2 dL_law_1603 rfl rfl ?_
  obtain ⟨v151, hv151, h⟩ := kob h
  refine law_toY ?_
  refine kr_callV1 C (k := 0) (As := []) (rest := []) (c_X3_thrown hv151) gL_law_X3_thrown rfl rfl rfl (by decide +kernel) ⟨(Nat.le_of_ble_eq_true rfl), (Nat.le_of_ble_eq_true rfl)⟩ ⟨by show _ ≤ 619962; omega, by show _ ≤ 7168635; omega⟩ 0 rfl rfl rfl rfl (Nat.le_of_ble_eq_true rfl) dL_law_1604 ?_
  refine law_toX (T := v150.2) ?_
  refine kr_iload C 6 dL_law_1607 rfl ?_
  refine kr_icmp_eq C 1614 dL_law_1609 (by decide) (fun hc => ?_) (fun hc => ?_)
  · have h := (if_pos hc).symm.trans h
    refine kr_iload C 6 dL_law_1614 rfl ?_
    refine kr_if_ne C 1631 dL_law_1616 (by decide) (fun hc => ?_) (fun hc => ?_)
    · have h := (if_pos hc).symm.trans h
      refine kr_aload_n C 3 dL_law_1619 rfl rfl ?_
      refine kr_iconst C (v := 0) dL_law_1620 (by decide) ?_
      refine kr_lald C 31 rfl (vp_in_iff.mpr (by decide)) dL_law_1621 ?_
      refine kr_iload C 7 dL_law_1622 rfl ?_
      refine kr_i2l C dL_law_1624 ?_
      refine kr_lcmp C dL_law_1625 ?_
      refine kr_if_eq C 1631 dL_law_1626 (by decide) (fun hc => ?_) (fun hc => ?_)
      · have h := (if_pos hc).symm.trans h
        refine kr_goto C 1847 dL_law_1631 (by decide) ?_
        cases h
        refine kr_sub [0, 1, 2, 3, 4, 5] rfl ?_
        exact kk _ _ (by omega) (by omega)
      have h := (if_neg hc).symm.trans h
      refine kr_iconst C (v := 0) dL_law_1629 (by decide) ?_
      cases h
    have h := (if_neg hc).symm.trans h
    refine kr_goto C 1847 dL_law_1631 (by decide) ?_
    cases h
    refine kr_sub [0, 1, 2, 3, 4, 5] rfl ?_
    exact kk _ _ (by omega) (by omega)
  have h := (if_neg hc).symm.trans h
  refine kr_iconst C (v := 0) dL_law_1612 (by decide) ?_
  cases h
set_option maxHeartbeats 8000000 in
set_option maxRecDepth 100000 in
theorem lc_c23 {K : kEnv} {l : Launch} {D : va_G} {cy : Nat → ClassId} {A : Nat → Prop} {a b : Nat → Nat} {o0 o1 sb L : Nat} {xs : Nat → Int32} {sa : Nat → Nat} {Q : State → Prop} (C : kC K D cy A 9 cL_law RL wsL_law ret) (CX : kCX K l A sa) (hlt : l.stackTraces = false) (CS : kScr K A sb L xs) {S T : kSt} {g : Nat → Int64} {d : Nat → UInt64} {x5 : Int32} {cells slots : Nat} {q : kLw} (hcl : cells ≤ 15000) (hsl : slots ≤ 150000) (h : f_L_c23 L xs S T g d x5 = some (some q)) (kk : ∀ (cells2 slots2 : Nat), cells2 ≤ cells + 20 → slots2 ≤ slots + 200 → kG K l D A room_1 9 Q (lwx a b cy o0 o1 q.1 q.2.1 q.2.2.1 q.2.2.2) cells2 slots2 1847 [(0, .ref sb), (1, .ref (a 0)), (2, .ref (b 0)), (3, .ref o0), (4, .ref o1), (5, .int x5)] []) : kG K l D A room_1 9 Q (lwx a b cy o0 o1 S T g d) cells slots 1634 [(0, .ref sb), (1, .ref (a 0)), (2, .ref (b 0)), (3, .ref o0), (4, .ref o1), (5, .int x5)] [] := by
  rw [f_L_c23] at h
  refine kr_aload_n C 1 dL_law_1634 rfl rfl ?_
  refine kr_aload_n C 0 dL_law_1635 rfl rfl ?_
  refine kr_iload C 5 dL_law_1636 rfl ?_
  refine kr_iconst C (v := 1) dL_law_1638 (by decide) ?_
  refine kr_iadd C dL_law_1639 ?_
  obtain ⟨hb152, h⟩ := kif h
  refine kr_sld C CS (kin_in hb152) dL_law_1640 ?_
  refine kr_aload_n C 3 dL_law_1641 rfl rfl ?_
  obtain ⟨v153, hv153, h⟩ := kob h
  refine kr_xT1 C CX (k := 3) (As := [.ref (a 0), .int (xs (x5 + (1 : Int32)).toNatClampNeg), .ref (o0)]) (rest := []) (c_L_pass hlt hv153) gL_law_L_pass rfl rfl rfl (by decide +kernel) ⟨(Nat.le_of_ble_eq_true rfl), (Nat.le_of_ble_eq_true rfl)⟩ ⟨by show _ ≤ 619962; omega, by show _ ≤ 7168635; omega⟩ rfl rfl (Nat.le_of_ble_eq_true rfl) dL_law_1642 ?_
  refine kr_istore C [1, 2, 3, 4, 5, 6, 0] dL_law_1645 (by decide) rfl ?_
  refine kr_aload_n C 2 dL_law_1647 rfl rfl ?_
  refine kr_aload_n C 0 dL_law_1648 rfl rfl ?_
  refine kr_iload C 5 dL_law_1649 rfl ?_
  refine kr_iconst C (v := 1) dL_law_1651 (by decide) ?_
  refine kr_iadd C dL_law_1652 ?_
  obtain ⟨hb154, h⟩ := kif h
  refine kr_sld C CS (kin_in hb154) dL_law_1653 ?_
  obtain ⟨v155, hv155, h⟩ := kob h
  refine law_toY ?_
  refine kr_callV1 C (k := 1) (As := [.int (xs (x5 + (1 : Int32)).toNatClampNeg)]) (rest := []) (c_X3_pass hv155) gL_law_X3_pass rfl rfl rfl (by decide +kernel) ⟨(Nat.le_of_ble_eq_true rfl), (Nat.le_of_ble_eq_true rfl)⟩ ⟨by show _ ≤ 619962; omega, by show _ ≤ 7168635; omega⟩ 0 rfl rfl rfl rfl (Nat.le_of_ble_eq_true rfl) dL_law_1654 ?_
  refine law_toX (T := v155.2) ?_
  refine kr_istore C [1, 2, 3, 4, 5, 6, 7, 0] dL_law_1657 (by decide) rfl ?_
  refine kr_aload_n C 2 dL_law_1659 rfl rfl ?_
  obtain ⟨v156, hv156, h⟩ := kob h
  refine law_toY ?_
  refine kr_callV1 C (k := 0) (As := []) (rest := []) (c_X3_thrown hv156) gL_law_X3_thrown rfl rfl rfl (by decide +kernel) ⟨(Nat.le_of_ble_eq_true rfl), (Nat.le_of_ble_eq_true rfl)⟩ ⟨by show _ ≤ 619962; omega, by show _ ≤ 7168635; omega⟩ 0 rfl rfl rfl rfl (Nat.le_of_ble_eq_true rfl) dL_law_1660 ?_
  refine law_toX (T := v155.2) ?_
  refine kr_iload C 6 dL_law_1663 rfl ?_
  refine kr_icmp_eq C 1670 dL_law_1665 (by decide) (fun hc => ?_) (fun hc => ?_)
  · have h := (if_pos hc).symm.trans h
    refine kr_iload C 6 dL_law_1670 rfl ?_
    refine kr_if_ne C 1687 dL_law_1672 (by decide) (fun hc => ?_) (fun hc => ?_)
    · have h := (if_pos hc).symm.trans h
      refine kr_aload_n C 3 dL_law_1675 rfl rfl ?_
      refine kr_iconst C (v := 0) dL_law_1676 (by decide) ?_
      refine kr_lald C 31 rfl (vp_in_iff.mpr (by decide)) dL_law_1677 ?_
      refine kr_iload C 7 dL_law_1678 rfl ?_
      refine kr_i2l C dL_law_1680 ?_
      refine kr_lcmp C dL_law_1681 ?_
      refine kr_if_eq C 1687 dL_law_1682 (by decide) (fun hc => ?_) (fun hc => ?_)
      · have h := (if_pos hc).symm.trans h
        refine kr_goto C 1847 dL_law_1687 (by decide) ?_
        cases h
        refine kr_sub [0, 1, 2, 3, 4, 5] rfl ?_
        exact kk _ _ (by omega) (by omega)
      have h := (if_neg hc).symm.trans h
      refine kr_iconst C (v := 0) dL_law_1685 (by decide) ?_
      cases h
    have h := (if_neg hc).symm.trans h
    refine kr_goto C 1847 dL_law_1687 (by decide) ?_
    cases h
    refine kr_sub [0, 1, 2, 3, 4, 5] rfl ?_
    exact kk _ _ (by omega) (by omega)
  have h := (if_neg hc).symm.trans h
  refine kr_iconst C (v := 0) dL_law_1668 (by decide) ?_
  cases h
set_option maxHeartbeats 8000000 in
set_option maxRecDepth 100000 in
theorem lc_c24 {K : kEnv} {l : Launch} {D : va_G} {cy : Nat → ClassId} {A : Nat → Prop} {a b : Nat → Nat} {o0 o1 sb L : Nat} {xs : Nat → Int32} {sa : Nat → Nat} {Q : State → Prop} (C : kC K D cy A 9 cL_law RL wsL_law ret) (CX : kCX K l A sa) (hlt : l.stackTraces = false) (CS : kScr K A sb L xs) {S T : kSt} {g : Nat → Int64} {d : Nat → UInt64} {x5 : Int32} {cells slots : Nat} {q : kLw} (hcl : cells ≤ 15000) (hsl : slots ≤ 150000) (h : f_L_c24 L xs S T g d x5 = some (some q)) (kk : ∀ (cells2 slots2 : Nat), cells2 ≤ cells + 20 → slots2 ≤ slots + 200 → kG K l D A room_1 9 Q (lwx a b cy o0 o1 q.1 q.2.1 q.2.2.1 q.2.2.2) cells2 slots2 1847 [(0, .ref sb), (1, .ref (a 0)), (2, .ref (b 0)), (3, .ref o0), (4, .ref o1), (5, .int x5)] []) : kG K l D A room_1 9 Q (lwx a b cy o0 o1 S T g d) cells slots 1690 [(0, .ref sb), (1, .ref (a 0)), (2, .ref (b 0)), (3, .ref o0), (4, .ref o1), (5, .int x5)] [] := by
  rw [f_L_c24] at h
  refine kr_aload_n C 1 dL_law_1690 rfl rfl ?_
  obtain ⟨v157, hv157, h⟩ := kob h
  refine kr_callV1 C (k := 0) (As := []) (rest := []) (c_X2_day hv157) gL_law_X2_day rfl rfl rfl (by decide +kernel) ⟨(Nat.le_of_ble_eq_true rfl), (Nat.le_of_ble_eq_true rfl)⟩ ⟨by show _ ≤ 619962; omega, by show _ ≤ 7168635; omega⟩ 0 rfl rfl rfl rfl (Nat.le_of_ble_eq_true rfl) dL_law_1691 ?_
  refine kr_aload_n C 2 dL_law_1694 rfl rfl ?_
  obtain ⟨v158, hv158, h⟩ := kob h
  refine law_toY ?_
  refine kr_callV1 C (k := 0) (As := []) (rest := [.int (v157)]) (c_X3_day hv158) gL_law_X3_day rfl rfl rfl (by decide +kernel) ⟨(Nat.le_of_ble_eq_true rfl), (Nat.le_of_ble_eq_true rfl)⟩ ⟨by show _ ≤ 619962; omega, by show _ ≤ 7168635; omega⟩ 0 rfl rfl rfl rfl (Nat.le_of_ble_eq_true rfl) dL_law_1695 ?_
  refine law_toX (T := v158.2) ?_
  refine kr_icmp_eq C 1847 dL_law_1698 (by decide) (fun hc => ?_) (fun hc => ?_)
  · have h := (if_pos hc).symm.trans h
    cases h
    exact kk _ _ (by omega) (by omega)
  have h := (if_neg hc).symm.trans h
  refine kr_iconst C (v := 0) dL_law_1701 (by decide) ?_
  cases h
set_option maxHeartbeats 8000000 in
set_option maxRecDepth 100000 in
theorem lc_c25 {K : kEnv} {l : Launch} {D : va_G} {cy : Nat → ClassId} {A : Nat → Prop} {a b : Nat → Nat} {o0 o1 sb L : Nat} {xs : Nat → Int32} {sa : Nat → Nat} {Q : State → Prop} (C : kC K D cy A 9 cL_law RL wsL_law ret) (CX : kCX K l A sa) (hlt : l.stackTraces = false) (CS : kScr K A sb L xs) {S T : kSt} {g : Nat → Int64} {d : Nat → UInt64} {x5 : Int32} {cells slots : Nat} {q : kLw} (hcl : cells ≤ 15000) (hsl : slots ≤ 150000) (h : f_L_c25 L xs S T g d x5 = some (some q)) (kk : ∀ (cells2 slots2 : Nat), cells2 ≤ cells + 20 → slots2 ≤ slots + 200 → kG K l D A room_1 9 Q (lwx a b cy o0 o1 q.1 q.2.1 q.2.2.1 q.2.2.2) cells2 slots2 1847 [(0, .ref sb), (1, .ref (a 0)), (2, .ref (b 0)), (3, .ref o0), (4, .ref o1), (5, .int x5)] []) : kG K l D A room_1 9 Q (lwx a b cy o0 o1 S T g d) cells slots 1703 [(0, .ref sb), (1, .ref (a 0)), (2, .ref (b 0)), (3, .ref o0), (4, .ref o1), (5, .int x5)] [] := by
  rw [f_L_c25] at h
  refine kr_aload_n C 1 dL_law_1703 rfl rfl ?_
  obtain ⟨v159, hv159, h⟩ := kob h
  refine kr_callV1 C (k := 0) (As := []) (rest := []) (c_X2_active hv159) gL_law_X2_active rfl rfl rfl (by decide +kernel) ⟨(Nat.le_of_ble_eq_true rfl), (Nat.le_of_ble_eq_true rfl)⟩ ⟨by show _ ≤ 619962; omega, by show _ ≤ 7168635; omega⟩ 0 rfl rfl rfl rfl (Nat.le_of_ble_eq_true rfl) dL_law_1704 ?_
  refine kr_aload_n C 2 dL_law_1707 rfl rfl ?_
  obtain ⟨v160, hv160, h⟩ := kob h
  refine law_toY ?_
  refine kr_callV1 C (k := 0) (As := []) (rest := [.int (v159)]) (c_X3_active hv160) gL_law_X3_active rfl rfl rfl (by decide +kernel) ⟨(Nat.le_of_ble_eq_true rfl), (Nat.le_of_ble_eq_true rfl)⟩ ⟨by show _ ≤ 619962; omega, by show _ ≤ 7168635; omega⟩ 0 rfl rfl rfl rfl (Nat.le_of_ble_eq_true rfl) dL_law_1708 ?_
  refine law_toX (T := v160.2) ?_
  refine kr_icmp_eq C 1847 dL_law_1711 (by decide) (fun hc => ?_) (fun hc => ?_)
  · have h := (if_pos hc).symm.trans h
    cases h
    exact kk _ _ (by omega) (by omega)
  have h := (if_neg hc).symm.trans h
  refine kr_iconst C (v := 0) dL_law_1714 (by decide) ?_
  cases h
set_option maxHeartbeats 8000000 in
set_option maxRecDepth 100000 in
theorem lc_c26 {K : kEnv} {l : Launch} {D : va_G} {cy : Nat → ClassId} {A : Nat → Prop} {a b : Nat → Nat} {o0 o1 sb L : Nat} {xs : Nat → Int32} {sa : Nat → Nat} {Q : State → Prop} (C : kC K D cy A 9 cL_law RL wsL_law ret) (CX : kCX K l A sa) (hlt : l.stackTraces = false) (CS : kScr K A sb L xs) {S T : kSt} {g : Nat → Int64} {d : Nat → UInt64} {x5 : Int32} {cells slots : Nat} {q : kLw} (hcl : cells ≤ 15000) (hsl : slots ≤ 150000) (h : f_L_c26 L xs S T g d x5 = some (some q)) (kk : ∀ (cells2 slots2 : Nat), cells2 ≤ cells + 20 → slots2 ≤ slots + 200 → kG K l D A room_1 9 Q (lwx a b cy o0 o1 q.1 q.2.1 q.2.2.1 q.2.2.2) cells2 slots2 1847 [(0, .ref sb), (1, .ref (a 0)), (2, .ref (b 0)), (3, .ref o0), (4, .ref o1), (5, .int x5)] []) : kG K l D A room_1 9 Q (lwx a b cy o0 o1 S T g d) cells slots 1716 [(0, .ref sb), (1, .ref (a 0)), (2, .ref (b 0)), (3, .ref o0), (4, .ref o1), (5, .int x5)] [] := by
  rw [f_L_c26] at h
  refine kr_aload_n C 1 dL_law_1716 rfl rfl ?_
  refine kr_aload C 4 dL_law_1717 rfl ?_
  obtain ⟨v161, hv161, h⟩ := kob h
  refine kr_xT1 C CX (k := 2) (As := [.ref (a 0), .ref (o1)]) (rest := []) (c_L_openShare hlt hv161) gL_law_L_openShare rfl rfl rfl (by decide +kernel) ⟨(Nat.le_of_ble_eq_true rfl), (Nat.le_of_ble_eq_true rfl)⟩ ⟨by show _ ≤ 619962; omega, by show _ ≤ 7168635; omega⟩ rfl rfl (Nat.le_of_ble_eq_true rfl) dL_law_1719 ?_
  refine kr_istore C [1, 2, 3, 4, 5, 6, 0] dL_law_1722 (by decide) rfl ?_
  refine kr_aload_n C 2 dL_law_1724 rfl rfl ?_
  obtain ⟨v162, hv162, h⟩ := kob h
  refine law_toY ?_
  refine kr_callV1 C (k := 0) (As := []) (rest := []) (c_X3_openShare hv162) gL_law_X3_openShare rfl rfl rfl (by decide +kernel) ⟨(Nat.le_of_ble_eq_true rfl), (Nat.le_of_ble_eq_true rfl)⟩ ⟨by show _ ≤ 619962; omega, by show _ ≤ 7168635; omega⟩ 0 rfl rfl rfl rfl (Nat.le_of_ble_eq_true rfl) dL_law_1725 ?_
  refine law_toX (T := v162.2) ?_
  refine kr_fstore C [1, 2, 3, 4, 5, 6, 7, 0] dL_law_1728 (by decide) rfl ?_
  refine kr_aload_n C 2 dL_law_1730 rfl rfl ?_
  obtain ⟨v163, hv163, h⟩ := kob h
  refine law_toY ?_
  refine kr_callV1 C (k := 0) (As := []) (rest := []) (c_X3_thrown hv163) gL_law_X3_thrown rfl rfl rfl (by decide +kernel) ⟨(Nat.le_of_ble_eq_true rfl), (Nat.le_of_ble_eq_true rfl)⟩ ⟨by show _ ≤ 619962; omega, by show _ ≤ 7168635; omega⟩ 0 rfl rfl rfl rfl (Nat.le_of_ble_eq_true rfl) dL_law_1731 ?_
  refine law_toX (T := v162.2) ?_
  refine kr_iload C 6 dL_law_1734 rfl ?_
  refine kr_icmp_eq C 1741 dL_law_1736 (by decide) (fun hc => ?_) (fun hc => ?_)
  · have h := (if_pos hc).symm.trans h
    refine kr_iload C 6 dL_law_1741 rfl ?_
    refine kr_if_ne C 1779 dL_law_1743 (by decide) (fun hc => ?_) (fun hc => ?_)
    · have h := (if_pos hc).symm.trans h
      refine kr_aload C 4 dL_law_1746 rfl ?_
      refine kr_iconst C (v := 0) dL_law_1748 (by decide) ?_
      refine kr_dald C 32 rfl (vp_in_iff.mpr (by decide)) dL_law_1749 ?_
      refine kr_fload C 7 dL_law_1750 rfl ?_
      obtain ⟨hb164, h⟩ := kif h
      refine kr_f2d C dL_law_1752 (kn64_of hb164) ?_
      refine kr_dcmp C dL_law_1753 ?_
      refine kr_if_eq C 1779 dL_law_1754 (by decide) (fun hc => ?_) (fun hc => ?_)
      · have h := (if_pos hc).symm.trans h
        refine kr_goto C 1847 dL_law_1779 (by decide) ?_
        cases h
        refine kr_sub [0, 1, 2, 3, 4, 5] rfl ?_
        exact kk _ _ (by omega) (by omega)
      have h := (if_neg hc).symm.trans h
      refine kr_aload C 4 dL_law_1757 rfl ?_
      refine kr_iconst C (v := 0) dL_law_1759 (by decide) ?_
      refine kr_dald C 32 rfl (vp_in_iff.mpr (by decide)) dL_law_1760 ?_
      refine kr_aload C 4 dL_law_1761 rfl ?_
      refine kr_iconst C (v := 0) dL_law_1763 (by decide) ?_
      refine kr_dald C 32 rfl (vp_in_iff.mpr (by decide)) dL_law_1764 ?_
      refine kr_dcmp C dL_law_1765 ?_
      refine kr_if_eq C 1777 dL_law_1766 (by decide) (fun hc => ?_) (fun hc => ?_)
      · have h := (if_pos hc).symm.trans h
        refine kr_iconst C (v := 0) dL_law_1777 (by decide) ?_
        cases h
      have h := (if_neg hc).symm.trans h
      refine kr_fload C 7 dL_law_1769 rfl ?_
      refine kr_fload C 7 dL_law_1771 rfl ?_
      refine kr_fcmp C dL_law_1773 ?_
      refine kr_if_ne C 1779 dL_law_1774 (by decide) (fun hc => ?_) (fun hc => ?_)
      · have h := (if_pos hc).symm.trans h
        refine kr_iconst C (v := 0) dL_law_1777 (by decide) ?_
        cases h
      have h := (if_neg hc).symm.trans h
      refine kr_goto C 1847 dL_law_1779 (by decide) ?_
      cases h
      refine kr_sub [0, 1, 2, 3, 4, 5] rfl ?_
      exact kk _ _ (by omega) (by omega)
    have h := (if_neg hc).symm.trans h
    refine kr_goto C 1847 dL_law_1779 (by decide) ?_
    cases h
    refine kr_sub [0, 1, 2, 3, 4, 5] rfl ?_
    exact kk _ _ (by omega) (by omega)
  have h := (if_neg hc).symm.trans h
  refine kr_iconst C (v := 0) dL_law_1739 (by decide) ?_
  cases h
set_option maxHeartbeats 8000000 in
set_option maxRecDepth 100000 in
theorem lc_c27 {K : kEnv} {l : Launch} {D : va_G} {cy : Nat → ClassId} {A : Nat → Prop} {a b : Nat → Nat} {o0 o1 sb L : Nat} {xs : Nat → Int32} {sa : Nat → Nat} {Q : State → Prop} (C : kC K D cy A 9 cL_law RL wsL_law ret) (CX : kCX K l A sa) (hlt : l.stackTraces = false) (CS : kScr K A sb L xs) {S T : kSt} {g : Nat → Int64} {d : Nat → UInt64} {x5 : Int32} {cells slots : Nat} {q : kLw} (hcl : cells ≤ 15000) (hsl : slots ≤ 150000) (h : f_L_c27 L xs S T g d x5 = some (some q)) (kk : ∀ (cells2 slots2 : Nat), cells2 ≤ cells + 20 → slots2 ≤ slots + 200 → kG K l D A room_1 9 Q (lwx a b cy o0 o1 q.1 q.2.1 q.2.2.1 q.2.2.2) cells2 slots2 1847 [(0, .ref sb), (1, .ref (a 0)), (2, .ref (b 0)), (3, .ref o0), (4, .ref o1), (5, .int x5)] []) : kG K l D A room_1 9 Q (lwx a b cy o0 o1 S T g d) cells slots 1782 [(0, .ref sb), (1, .ref (a 0)), (2, .ref (b 0)), (3, .ref o0), (4, .ref o1), (5, .int x5)] [] := by
  rw [f_L_c27] at h
  refine kr_aload_n C 1 dL_law_1782 rfl rfl ?_
  refine kr_aload C 4 dL_law_1783 rfl ?_
  obtain ⟨v165, hv165, h⟩ := kob h
  refine kr_xT1 C CX (k := 2) (As := [.ref (a 0), .ref (o1)]) (rest := []) (c_L_meanOwned hlt hv165) gL_law_L_meanOwned rfl rfl rfl (by decide +kernel) ⟨(Nat.le_of_ble_eq_true rfl), (Nat.le_of_ble_eq_true rfl)⟩ ⟨by show _ ≤ 619962; omega, by show _ ≤ 7168635; omega⟩ rfl rfl (Nat.le_of_ble_eq_true rfl) dL_law_1785 ?_
  refine kr_istore C [1, 2, 3, 4, 5, 6, 0] dL_law_1788 (by decide) rfl ?_
  refine kr_aload_n C 2 dL_law_1790 rfl rfl ?_
  obtain ⟨v166, hv166, h⟩ := kob h
  refine law_toY ?_
  refine kr_callV1 C (k := 0) (As := []) (rest := []) (c_X3_meanOwned hv166) gL_law_X3_meanOwned rfl rfl rfl (by decide +kernel) ⟨(Nat.le_of_ble_eq_true rfl), (Nat.le_of_ble_eq_true rfl)⟩ ⟨by show _ ≤ 619962; omega, by show _ ≤ 7168635; omega⟩ 0 rfl rfl rfl rfl (Nat.le_of_ble_eq_true rfl) dL_law_1791 ?_
  refine law_toX (T := v166.2) ?_
  refine kr_dstore C [1, 2, 3, 4, 5, 6, 7, 0] dL_law_1794 (by decide) rfl ?_
  refine kr_aload_n C 2 dL_law_1796 rfl rfl ?_
  obtain ⟨v167, hv167, h⟩ := kob h
  refine law_toY ?_
  refine kr_callV1 C (k := 0) (As := []) (rest := []) (c_X3_thrown hv167) gL_law_X3_thrown rfl rfl rfl (by decide +kernel) ⟨(Nat.le_of_ble_eq_true rfl), (Nat.le_of_ble_eq_true rfl)⟩ ⟨by show _ ≤ 619962; omega, by show _ ≤ 7168635; omega⟩ 0 rfl rfl rfl rfl (Nat.le_of_ble_eq_true rfl) dL_law_1797 ?_
  refine law_toX (T := v166.2) ?_
  refine kr_iload C 6 dL_law_1800 rfl ?_
  refine kr_icmp_eq C 1807 dL_law_1802 (by decide) (fun hc => ?_) (fun hc => ?_)
  · have h := (if_pos hc).symm.trans h
    refine kr_iload C 6 dL_law_1807 rfl ?_
    refine kr_if_ne C 1844 dL_law_1809 (by decide) (fun hc => ?_) (fun hc => ?_)
    · have h := (if_pos hc).symm.trans h
      refine kr_aload C 4 dL_law_1812 rfl ?_
      refine kr_iconst C (v := 0) dL_law_1814 (by decide) ?_
      refine kr_dald C 32 rfl (vp_in_iff.mpr (by decide)) dL_law_1815 ?_
      refine kr_dload C 7 dL_law_1816 rfl ?_
      refine kr_dcmp C dL_law_1818 ?_
      refine kr_if_eq C 1844 dL_law_1819 (by decide) (fun hc => ?_) (fun hc => ?_)
      · have h := (if_pos hc).symm.trans h
        refine kr_goto C 1847 dL_law_1844 (by decide) ?_
        cases h
        refine kr_sub [0, 1, 2, 3, 4, 5] rfl ?_
        exact kk _ _ (by omega) (by omega)
      have h := (if_neg hc).symm.trans h
      refine kr_aload C 4 dL_law_1822 rfl ?_
      refine kr_iconst C (v := 0) dL_law_1824 (by decide) ?_
      refine kr_dald C 32 rfl (vp_in_iff.mpr (by decide)) dL_law_1825 ?_
      refine kr_aload C 4 dL_law_1826 rfl ?_
      refine kr_iconst C (v := 0) dL_law_1828 (by decide) ?_
      refine kr_dald C 32 rfl (vp_in_iff.mpr (by decide)) dL_law_1829 ?_
      refine kr_dcmp C dL_law_1830 ?_
      refine kr_if_eq C 1842 dL_law_1831 (by decide) (fun hc => ?_) (fun hc => ?_)
      · have h := (if_pos hc).symm.trans h
        refine kr_iconst C (v := 0) dL_law_1842 (by decide) ?_
        cases h
      have h := (if_neg hc).symm.trans h
      refine kr_dload C 7 dL_law_1834 rfl ?_
      refine kr_dload C 7 dL_law_1836 rfl ?_
      refine kr_dcmp C dL_law_1838 ?_
      refine kr_if_ne C 1844 dL_law_1839 (by decide) (fun hc => ?_) (fun hc => ?_)
      · have h := (if_pos hc).symm.trans h
        refine kr_iconst C (v := 0) dL_law_1842 (by decide) ?_
        cases h
      have h := (if_neg hc).symm.trans h
      refine kr_goto C 1847 dL_law_1844 (by decide) ?_
      cases h
      refine kr_sub [0, 1, 2, 3, 4, 5] rfl ?_
      exact kk _ _ (by omega) (by omega)
    have h := (if_neg hc).symm.trans h
    refine kr_goto C 1847 dL_law_1844 (by decide) ?_
    cases h
    refine kr_sub [0, 1, 2, 3, 4, 5] rfl ?_
    exact kk _ _ (by omega) (by omega)
  have h := (if_neg hc).symm.trans h
  refine kr_iconst C (v := 0) dL_law_1805 (by decide) ?_
  cases h
theorem kgo_some {o : Option (Option kLw)} {k : kLw → Option Bool} (h : kgo o false k = some true) : ∃ q, o = some (some q) ∧ k q = some true := by
  match o, h with
  | some (some q), h => exact ⟨q, rfl, h⟩
set_option maxHeartbeats 8000000 in
set_option maxRecDepth 100000 in
theorem lc_sel {K : kEnv} {l : Launch} {D : va_G} {cy : Nat → ClassId} {A : Nat → Prop} {a b : Nat → Nat} {o0 o1 sb L : Nat} {xs : Nat → Int32} {sa : Nat → Nat} {Q : State → Prop} (C : kC K D cy A 9 cL_law RL wsL_law ret) (CX : kCX K l A sa) (hlt : l.stackTraces = false) (CS : kScr K A sb L xs) {S T : kSt} {g : Nat → Int64} {d : Nat → UInt64} {x5 : Int32} {cells slots : Nat} {q : kLw} (hcl : cells ≤ 15000) (hsl : slots ≤ 150000) (h : f_L_sel L xs S T g d x5 = some (some q)) (kk : ∀ (cells2 slots2 : Nat), cells2 ≤ cells + 20 → slots2 ≤ slots + 200 → kG K l D A room_1 9 Q (lwx a b cy o0 o1 q.1 q.2.1 q.2.2.1 q.2.2.2) cells2 slots2 1847 [(0, .ref sb), (1, .ref (a 0)), (2, .ref (b 0)), (3, .ref o0), (4, .ref o1), (5, .int x5)] []) : kG K l D A room_1 9 Q (lwx a b cy o0 o1 S T g d) cells slots 44 [(0, .ref sb), (1, .ref (a 0)), (2, .ref (b 0)), (3, .ref o0), (4, .ref o1), (5, .int x5)] [.int ((xs x5.toNatClampNeg) &&& (31 : Int32))] := by
  rw [f_L_sel] at h
  by_cases hc0 : ((xs x5.toNatClampNeg) &&& (31 : Int32)) = (0 : Int32)
  · have h := (if_pos hc0).symm.trans h
    refine kr_rw hc0 ?_
    refine kr_tabIn C 172 dL_law_44 (by decide) (by decide) rfl (by decide) ?_
    exact lc_c0 C CX hlt CS hcl hsl h kk
  have h := (if_neg hc0).symm.trans h
  by_cases hc1 : ((xs x5.toNatClampNeg) &&& (31 : Int32)) = (1 : Int32)
  · have h := (if_pos hc1).symm.trans h
    refine kr_rw hc1 ?_
    refine kr_tabIn C 216 dL_law_44 (by decide) (by decide) rfl (by decide) ?_
    exact lc_c1 C CX hlt CS hcl hsl h kk
  have h := (if_neg hc1).symm.trans h
  by_cases hc2 : ((xs x5.toNatClampNeg) &&& (31 : Int32)) = (2 : Int32)
  · have h := (if_pos hc2).symm.trans h
    refine kr_rw hc2 ?_
    refine kr_tabIn C 284 dL_law_44 (by decide) (by decide) rfl (by decide) ?_
    exact lc_c2 C CX hlt CS hcl hsl h kk
  have h := (if_neg hc2).symm.trans h
  by_cases hc3 : ((xs x5.toNatClampNeg) &&& (31 : Int32)) = (3 : Int32)
  · have h := (if_pos hc3).symm.trans h
    refine kr_rw hc3 ?_
    refine kr_tabIn C 328 dL_law_44 (by decide) (by decide) rfl (by decide) ?_
    exact lc_c3 C CX hlt CS hcl hsl h kk
  have h := (if_neg hc3).symm.trans h
  by_cases hc4 : ((xs x5.toNatClampNeg) &&& (31 : Int32)) = (4 : Int32)
  · have h := (if_pos hc4).symm.trans h
    refine kr_rw hc4 ?_
    refine kr_tabIn C 408 dL_law_44 (by decide) (by decide) rfl (by decide) ?_
    exact lc_c4 C CX hlt CS hcl hsl h kk
  have h := (if_neg hc4).symm.trans h
  by_cases hc5 : ((xs x5.toNatClampNeg) &&& (31 : Int32)) = (5 : Int32)
  · have h := (if_pos hc5).symm.trans h
    refine kr_rw hc5 ?_
    refine kr_tabIn C 488 dL_law_44 (by decide) (by decide) rfl (by decide) ?_
    exact lc_c5 C CX hlt CS hcl hsl h kk
  have h := (if_neg hc5).symm.trans h
  by_cases hc6 : ((xs x5.toNatClampNeg) &&& (31 : Int32)) = (6 : Int32)
  · have h := (if_pos hc6).symm.trans h
    refine kr_rw hc6 ?_
    refine kr_tabIn C 556 dL_law_44 (by decide) (by decide) rfl (by decide) ?_
    exact lc_c6 C CX hlt CS hcl hsl h kk
  have h := (if_neg hc6).symm.trans h
  by_cases hc7 : ((xs x5.toNatClampNeg) &&& (31 : Int32)) = (7 : Int32)
  · have h := (if_pos hc7).symm.trans h
    refine kr_rw hc7 ?_
    refine kr_tabIn C 631 dL_law_44 (by decide) (by decide) rfl (by decide) ?_
    exact lc_c7 C CX hlt CS hcl hsl h kk
  have h := (if_neg hc7).symm.trans h
  by_cases hc8 : ((xs x5.toNatClampNeg) &&& (31 : Int32)) = (8 : Int32)
  · have h := (if_pos hc8).symm.trans h
    refine kr_rw hc8 ?_
    refine kr_tabIn C 644 dL_law_44 (by decide) (by decide) rfl (by decide) ?_
    exact lc_c8 C CX hlt CS hcl hsl h kk
  have h := (if_neg hc8).symm.trans h
  by_cases hc9 : ((xs x5.toNatClampNeg) &&& (31 : Int32)) = (9 : Int32)
  · have h := (if_pos hc9).symm.trans h
    refine kr_rw hc9 ?_
    refine kr_tabIn C 712 dL_law_44 (by decide) (by decide) rfl (by decide) ?_
    exact lc_c9 C CX hlt CS hcl hsl h kk
  have h := (if_neg hc9).symm.trans h
  by_cases hc10 : ((xs x5.toNatClampNeg) &&& (31 : Int32)) = (10 : Int32)
  · have h := (if_pos hc10).symm.trans h
    refine kr_rw hc10 ?_
    refine kr_tabIn C 792 dL_law_44 (by decide) (by decide) rfl (by decide) ?_
    exact lc_c10 C CX hlt CS hcl hsl h kk
  have h := (if_neg hc10).symm.trans h
  by_cases hc11 : ((xs x5.toNatClampNeg) &&& (31 : Int32)) = (11 : Int32)
  · have h := (if_pos hc11).symm.trans h
    refine kr_rw hc11 ?_
    refine kr_tabIn C 872 dL_law_44 (by decide) (by decide) rfl (by decide) ?_
    exact lc_c11 C CX hlt CS hcl hsl h kk
  have h := (if_neg hc11).symm.trans h
  by_cases hc12 : ((xs x5.toNatClampNeg) &&& (31 : Int32)) = (12 : Int32)
  · have h := (if_pos hc12).symm.trans h
    refine kr_rw hc12 ?_
    refine kr_tabIn C 963 dL_law_44 (by decide) (by decide) rfl (by decide) ?_
    exact lc_c12 C CX hlt CS hcl hsl h kk
  have h := (if_neg hc12).symm.trans h
  by_cases hc13 : ((xs x5.toNatClampNeg) &&& (31 : Int32)) = (13 : Int32)
  · have h := (if_pos hc13).symm.trans h
    refine kr_rw hc13 ?_
    refine kr_tabIn C 1019 dL_law_44 (by decide) (by decide) rfl (by decide) ?_
    exact lc_c13 C CX hlt CS hcl hsl h kk
  have h := (if_neg hc13).symm.trans h
  by_cases hc14 : ((xs x5.toNatClampNeg) &&& (31 : Int32)) = (14 : Int32)
  · have h := (if_pos hc14).symm.trans h
    refine kr_rw hc14 ?_
    refine kr_tabIn C 1087 dL_law_44 (by decide) (by decide) rfl (by decide) ?_
    exact lc_c14 C CX hlt CS hcl hsl h kk
  have h := (if_neg hc14).symm.trans h
  by_cases hc15 : ((xs x5.toNatClampNeg) &&& (31 : Int32)) = (15 : Int32)
  · have h := (if_pos hc15).symm.trans h
    refine kr_rw hc15 ?_
    refine kr_tabIn C 1155 dL_law_44 (by decide) (by decide) rfl (by decide) ?_
    exact lc_c15 C CX hlt CS hcl hsl h kk
  have h := (if_neg hc15).symm.trans h
  by_cases hc16 : ((xs x5.toNatClampNeg) &&& (31 : Int32)) = (16 : Int32)
  · have h := (if_pos hc16).symm.trans h
    refine kr_rw hc16 ?_
    refine kr_tabIn C 1223 dL_law_44 (by decide) (by decide) rfl (by decide) ?_
    exact lc_c16 C CX hlt CS hcl hsl h kk
  have h := (if_neg hc16).symm.trans h
  by_cases hc17 : ((xs x5.toNatClampNeg) &&& (31 : Int32)) = (17 : Int32)
  · have h := (if_pos hc17).symm.trans h
    refine kr_rw hc17 ?_
    refine kr_tabIn C 1279 dL_law_44 (by decide) (by decide) rfl (by decide) ?_
    exact lc_c17 C CX hlt CS hcl hsl h kk
  have h := (if_neg hc17).symm.trans h
  by_cases hc18 : ((xs x5.toNatClampNeg) &&& (31 : Int32)) = (18 : Int32)
  · have h := (if_pos hc18).symm.trans h
    refine kr_rw hc18 ?_
    refine kr_tabIn C 1354 dL_law_44 (by decide) (by decide) rfl (by decide) ?_
    exact lc_c18 C CX hlt CS hcl hsl h kk
  have h := (if_neg hc18).symm.trans h
  by_cases hc19 : ((xs x5.toNatClampNeg) &&& (31 : Int32)) = (19 : Int32)
  · have h := (if_pos hc19).symm.trans h
    refine kr_rw hc19 ?_
    refine kr_tabIn C 1410 dL_law_44 (by decide) (by decide) rfl (by decide) ?_
    exact lc_c19 C CX hlt CS hcl hsl h kk
  have h := (if_neg hc19).symm.trans h
  by_cases hc20 : ((xs x5.toNatClampNeg) &&& (31 : Int32)) = (20 : Int32)
  · have h := (if_pos hc20).symm.trans h
    refine kr_rw hc20 ?_
    refine kr_tabIn C 1466 dL_law_44 (by decide) (by decide) rfl (by decide) ?_
    exact lc_c20 C CX hlt CS hcl hsl h kk
  have h := (if_neg hc20).symm.trans h
  by_cases hc21 : ((xs x5.toNatClampNeg) &&& (31 : Int32)) = (21 : Int32)
  · have h := (if_pos hc21).symm.trans h
    refine kr_rw hc21 ?_
    refine kr_tabIn C 1522 dL_law_44 (by decide) (by decide) rfl (by decide) ?_
    exact lc_c21 C CX hlt CS hcl hsl h kk
  have h := (if_neg hc21).symm.trans h
  by_cases hc22 : ((xs x5.toNatClampNeg) &&& (31 : Int32)) = (22 : Int32)
  · have h := (if_pos hc22).symm.trans h
    refine kr_rw hc22 ?_
    refine kr_tabIn C 1578 dL_law_44 (by decide) (by decide) rfl (by decide) ?_
    exact lc_c22 C CX hlt CS hcl hsl h kk
  have h := (if_neg hc22).symm.trans h
  by_cases hc23 : ((xs x5.toNatClampNeg) &&& (31 : Int32)) = (23 : Int32)
  · have h := (if_pos hc23).symm.trans h
    refine kr_rw hc23 ?_
    refine kr_tabIn C 1634 dL_law_44 (by decide) (by decide) rfl (by decide) ?_
    exact lc_c23 C CX hlt CS hcl hsl h kk
  have h := (if_neg hc23).symm.trans h
  by_cases hc24 : ((xs x5.toNatClampNeg) &&& (31 : Int32)) = (24 : Int32)
  · have h := (if_pos hc24).symm.trans h
    refine kr_rw hc24 ?_
    refine kr_tabIn C 1690 dL_law_44 (by decide) (by decide) rfl (by decide) ?_
    exact lc_c24 C CX hlt CS hcl hsl h kk
  have h := (if_neg hc24).symm.trans h
  by_cases hc25 : ((xs x5.toNatClampNeg) &&& (31 : Int32)) = (25 : Int32)
  · have h := (if_pos hc25).symm.trans h
    refine kr_rw hc25 ?_
    refine kr_tabIn C 1703 dL_law_44 (by decide) (by decide) rfl (by decide) ?_
    exact lc_c25 C CX hlt CS hcl hsl h kk
  have h := (if_neg hc25).symm.trans h
  by_cases hc26 : ((xs x5.toNatClampNeg) &&& (31 : Int32)) = (26 : Int32)
  · have h := (if_pos hc26).symm.trans h
    refine kr_rw hc26 ?_
    refine kr_tabIn C 1716 dL_law_44 (by decide) (by decide) rfl (by decide) ?_
    exact lc_c26 C CX hlt CS hcl hsl h kk
  have h := (if_neg hc26).symm.trans h
  by_cases hc27 : ((xs x5.toNatClampNeg) &&& (31 : Int32)) = (27 : Int32)
  · have h := (if_pos hc27).symm.trans h
    refine kr_rw hc27 ?_
    refine kr_tabIn C 1782 dL_law_44 (by decide) (by decide) rfl (by decide) ?_
    exact lc_c27 C CX hlt CS hcl hsl h kk
  have h := (if_neg hc27).symm.trans h
  refine kr_tabOut C 1847 dL_law_44 (tab_out (fun k hk => match k, hk with | 0, _ => hc0 | 1, _ => hc1 | 2, _ => hc2 | 3, _ => hc3 | 4, _ => hc4 | 5, _ => hc5 | 6, _ => hc6 | 7, _ => hc7 | 8, _ => hc8 | 9, _ => hc9 | 10, _ => hc10 | 11, _ => hc11 | 12, _ => hc12 | 13, _ => hc13 | 14, _ => hc14 | 15, _ => hc15 | 16, _ => hc16 | 17, _ => hc17 | 18, _ => hc18 | 19, _ => hc19 | 20, _ => hc20 | 21, _ => hc21 | 22, _ => hc22 | 23, _ => hc23 | 24, _ => hc24 | 25, _ => hc25 | 26, _ => hc26 | 27, _ => hc27 | k + 28, hk => absurd hk (by omega))) (by decide) ?_
  cases h
  exact kk _ _ (by omega) (by omega)
set_option maxHeartbeats 8000000 in
set_option maxRecDepth 100000 in
theorem lc_L_law {K : kEnv} {l : Launch} {D : va_G} {cy : Nat → ClassId} {A : Nat → Prop} {a b : Nat → Nat} {o0 o1 sb L : Nat} {xs : Nat → Int32} {sa : Nat → Nat} {Q : State → Prop} (C : kC K D cy A 9 cL_law RL wsL_law ret) (CX : kCX K l A sa) (hlt : l.stackTraces = false) (CS : kScr K A sb L xs)
    (hend : ∀ (X : va_W) (cells slots : Nat) (L9 : List (Nat × Value)), cells ≤ 20000 → slots ≤ 200000 → kG K l D A room_1 9 Q X cells slots 1854 L9 [.int 1]) :
    ∀ (n : Nat) (S T : kSt) (g : Nat → Int64) (d : Nat → UInt64) (x5 : Int32) (cells slots : Nat), n ≤ 600 → cells ≤ 100 + 20 * (600 - n) → slots ≤ 3000 + 200 * (600 - n) → f_L_law_L28 L xs n S T g d x5 = some true → kG K l D A room_1 9 Q (lwx a b cy o0 o1 S T g d) cells slots 28 [(0, .ref sb), (1, .ref (a 0)), (2, .ref (b 0)), (3, .ref o0), (4, .ref o1), (5, .int x5)] [] := by
  intro n
  induction n with
  | zero => intro S T g d x5 cells slots hn hcl hsl h; rw [f_L_law_L28] at h; cases h
  | succ n ih =>
    intro S T g d x5 cells slots hn hcl hsl h
    rw [f_L_law_L28] at h
    refine kr_iload C 5 dL_law_28 rfl ?_
    refine kr_aload_n C 0 dL_law_30 rfl rfl ?_
    refine kr_slen C CS dL_law_31 ?_
    refine kr_iconst C (v := 4) dL_law_32 (by decide) ?_
    refine kr_isub C dL_law_33 ?_
    refine kr_icmp_gt C 1853 dL_law_34 (by decide) (fun hc => ?_) (fun hc => ?_)
    · refine kr_iconst C (v := 1) dL_law_1853 (by decide) ?_
      exact hend _ _ _ _ (by omega) (by omega)
    have h := (if_neg hc).symm.trans h
    refine kr_aload_n C 0 dL_law_37 rfl rfl ?_
    refine kr_iload C 5 dL_law_38 rfl ?_
    obtain ⟨hb, h⟩ := kif h
    refine kr_sld C CS (kin_in hb) dL_law_40 ?_
    refine kr_bipush C (v := 31) dL_law_41 (by decide) ?_
    refine kr_iand C dL_law_43 ?_
    obtain ⟨q, hq, h⟩ := kgo_some h
    refine lc_sel C CX hlt CS (by omega) (by omega) hq (fun c2 s2 hc2 hs2 => ?_)
    refine kr_iinc C (v := (x5 + 4)) 5 [1, 2, 3, 4, 5, 0] dL_law_1847 rfl rfl (by decide) rfl ?_
    refine kr_goto C 28 dL_law_1850 (by decide) ?_
    exact ih _ _ _ _ _ _ _ (by omega) (by omega) (by omega) h

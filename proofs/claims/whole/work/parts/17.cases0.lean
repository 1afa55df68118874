def g_0 (σ : Sg) (a1 a2 a3 a4 : Int32) : Option Sg := if a4 = 0 then (b2 (f_L_build σ a1 a2 a3 0) fun y3 σ2 => if a4 = 0 then (b2 (f_X5_build σ2 a1 a2 a3 0) fun y6 σ8 => b1 (f_X5_thrown σ8) fun y9 => if y9 = y3 then (if y3 = 0 then (if (σ8 202 (0 : Int32).toNatClampNeg) = y6 then (some σ8) else (none)) else (some σ8)) else (none)) else (b2 (f_X5_build σ2 a1 a2 a3 1) fun y14 σ16 => b1 (f_X5_thrown σ16) fun y17 => if y17 = y3 then (if y3 = 0 then (if (σ16 202 (0 : Int32).toNatClampNeg) = y14 then (some σ16) else (none)) else (some σ16)) else (none))) else (b2 (f_L_build σ a1 a2 a3 1) fun y23 σ22 => if a4 = 0 then (b2 (f_X5_build σ22 a1 a2 a3 0) fun y26 σ28 => b1 (f_X5_thrown σ28) fun y29 => if y29 = y23 then (if y23 = 0 then (if (σ28 202 (0 : Int32).toNatClampNeg) = y26 then (some σ28) else (none)) else (some σ28)) else (none)) else (b2 (f_X5_build σ22 a1 a2 a3 1) fun y34 σ36 => b1 (f_X5_thrown σ36) fun y37 => if y37 = y23 then (if y23 = 0 then (if (σ36 202 (0 : Int32).toNatClampNeg) = y34 then (some σ36) else (none)) else (some σ36)) else (none)))
set_option maxHeartbeats 4000000 in
set_option maxRecDepth 100000 in
theorem k_0 {p : Program} {l : Launch} {e : Env} {s : State} {m : MethodId} {below : List Frame} {meth : Method} {c : Code} {bA L : Nat} {xs : Nat → Int32} {D : va_G} {t : Nat → ClassId} {b : Nat} (hfl : l.stackTraces = false) (hx : p.tables.exec = Jvm.exec) (hb : c.code = cL_law) (hml : c.maxLocals = 7) (hown : s.vm.findClass RL = some m.cls) {c9 : Cond} (hts : ∀ w ∈ c9 :: ALL, w.before #[Value.ref bA] s = true) (hE : EV D t b s) (hX : va_X bA L xs s s.heap) (hbl : bA < s.heap.size) (hbA : ¬ geA b bA) {i a1 a2 a3 a4 : Int32} (hi1 : vp_in (i + 1) L) (hi2 : vp_in (i + 2) L) (hi3 : vp_in (i + 3) L) (hi4 : vp_in (i + 4) L) (hx1 : xs (i + 1).toNatClampNeg = a1) (hx2 : xs (i + 2).toNatClampNeg = a2) (hx3 : xs (i + 3).toNatClampNeg = a3) (hx4 : xs (i + 4).toNatClampNeg = a4) {H : Heap} {locs : List Loc} {ls : Array Slot} {cells slots : Nat} {Q : State → Prop} (hcl : cells + 16 ≤ room_1.cells ∧ slots + 96 ≤ room_1.slots) {σ σr : Sg} (hW : wd D t b σ H) (hS : va_S (geA b) s.heap H locs) (hl : lv_has ls 7 [(0, .ref bA), (1, .ref (b + 0)), (2, .ref (b + 193)), (3, .ref (b + 202)), (4, .int i)]) (hf : g_0 σ a1 a2 a3 a4 = some σr) (kk : ∀ (H : Heap) (locs : List Loc) (ls : Array Slot), wd D t b σr H → va_S (geA b) s.heap H locs → lv_has ls 7 [(0, .ref bA), (1, .ref (b + 0)), (2, .ref (b + 193)), (3, .ref (b + 202)), (4, .int i)] → W p l e room_1 s m #[Value.ref bA] below meth c H locs (cells + 16) (slots + 96) Q (F0 m 2838 ls [])) : W p l e room_1 s m #[Value.ref bA] below meth c H locs cells slots Q (F0 m 284 ls []) := by
  have hta := fun w h => hts w (List.mem_cons_of_mem _ h)
  unfold g_0 at hf
  refine lv_aload_n hx hb dL_law_284 rfl (lv_at hl 1 rfl) ?_
  refine lv_aload_n hx hb dL_law_285 rfl (lv_at hl 0 rfl) ?_
  refine lv_iload hx hb dL_law_286 (lv_at hl 4 rfl) ?_
  refine lv_iconst (v := 1) hx hb dL_law_288 (by decide) ?_
  refine lv_iadd hx hb dL_law_289 ?_
  refine va_sld hx hb hX hbl hbA hS hi1 dL_law_290 ?_
  rw [hx1]
  refine lv_aload_n hx hb dL_law_291 rfl (lv_at hl 0 rfl) ?_
  refine lv_iload hx hb dL_law_292 (lv_at hl 4 rfl) ?_
  refine lv_iconst (v := 2) hx hb dL_law_294 (by decide) ?_
  refine lv_iadd hx hb dL_law_295 ?_
  refine va_sld hx hb hX hbl hbA hS hi2 dL_law_296 ?_
  rw [hx2]
  refine lv_aload_n hx hb dL_law_297 rfl (lv_at hl 0 rfl) ?_
  refine lv_iload hx hb dL_law_298 (lv_at hl 4 rfl) ?_
  refine lv_iconst (v := 3) hx hb dL_law_300 (by decide) ?_
  refine lv_iadd hx hb dL_law_301 ?_
  refine va_sld hx hb hX hbl hbA hS hi3 dL_law_302 ?_
  rw [hx3]
  refine lv_aload_n hx hb dL_law_303 rfl (lv_at hl 0 rfl) ?_
  refine lv_iload hx hb dL_law_304 (lv_at hl 4 rfl) ?_
  refine lv_iconst (v := 4) hx hb dL_law_306 (by decide) ?_
  refine lv_iadd hx hb dL_law_307 ?_
  refine va_sld hx hb hX hbl hbA hS hi4 dL_law_308 ?_
  rw [hx4]
  refine lv_if_eq (tgt := 316) hx hb dL_law_309 (by decide) (fun h1 => ?_) (fun h1 => ?_)
  · have hf := ifp h1 hf
    refine lv_iconst (v := 0) hx hb dL_law_316 (by decide) ?_
    refine lv_aload_n hx hb dL_law_317 rfl (lv_at hl 3 rfl) ?_
    obtain ⟨y3, σ2, u4, hf⟩ := b2_e hf
    refine mSH (n := 6) (As := [.ref (b + 0), .int a1, .int a2, .int a3, .int 0, .ref (b + 202)]) (rest := []) (c_L_build l hfl D t b σ a1 a2 a3 0 y3 σ2 u4) hx hb hml hown hts hE hW hS q636 q637 q90 qw_L_build hs_L_build ⟨rfl, rfl⟩ ⟨Nat.le_of_ble_eq_true rfl, Nat.le_of_ble_eq_true rfl⟩ rfl rfl hl.1 (Nat.le_of_ble_eq_true rfl) ⟨by obtain ⟨hc1, hc2⟩ := hcl; omega, by obtain ⟨hc1, hc2⟩ := hcl; omega⟩ dL_law_318 (fun H locs hW hS => ?_)
    refine lv_istore (lv' := [(5, .int y3), (0, .ref bA), (1, .ref (b + 0)), (2, .ref (b + 193)), (3, .ref (b + 202)), (4, .int i)]) hx hb dL_law_321 hl (by decide) rfl (fun ls hl => ?_)
    refine lv_aload_n hx hb dL_law_323 rfl (lv_at hl 3 rfl) ?_
    refine lv_aload_n hx hb dL_law_324 rfl (lv_at hl 1 rfl) ?_
    refine lv_iload hx hb dL_law_325 (lv_at hl 5 rfl) ?_
    refine lv_iconst (v := 1) hx hb dL_law_327 (by decide) ?_
    refine lv_iadd hx hb dL_law_328 ?_
    refine va_sld hx hb hX hbl hbA hS hi1 dL_law_329 ?_
    rw [hx1]
    refine lv_aload_n hx hb dL_law_330 rfl (lv_at hl 1 rfl) ?_
    refine lv_iload hx hb dL_law_331 (lv_at hl 5 rfl) ?_
    refine lv_iconst (v := 2) hx hb dL_law_333 (by decide) ?_
    refine lv_iadd hx hb dL_law_334 ?_
    refine va_sld hx hb hX hbl hbA hS hi2 dL_law_335 ?_
    rw [hx2]
    refine lv_aload_n hx hb dL_law_336 rfl (lv_at hl 1 rfl) ?_
    refine lv_iload hx hb dL_law_337 (lv_at hl 5 rfl) ?_
    refine lv_iconst (v := 3) hx hb dL_law_339 (by decide) ?_
    refine lv_iadd hx hb dL_law_340 ?_
    refine va_sld hx hb hX hbl hbA hS hi3 dL_law_341 ?_
    rw [hx3]
    refine lv_aload_n hx hb dL_law_342 rfl (lv_at hl 1 rfl) ?_
    refine lv_iload hx hb dL_law_343 (lv_at hl 5 rfl) ?_
    refine lv_iconst (v := 4) hx hb dL_law_345 (by decide) ?_
    refine lv_iadd hx hb dL_law_346 ?_
    refine va_sld hx hb hX hbl hbA hS hi4 dL_law_347 ?_
    rw [hx4]
    refine lv_if_eq (tgt := 355) hx hb dL_law_348 (by decide) (fun h5 => ?_) (fun h5 => ?_)
    · have hf := ifp h5 hf
      refine lv_iconst (v := 0) hx hb dL_law_355 (by decide) ?_
      obtain ⟨y6, σ8, u7, hf⟩ := b2_e hf
      refine mV (k := 193) (q := (5, 0)) (C := RX5) (T := TX5) (N := 14) (ci := 5) (n := 4) (As := [.int a1, .int a2, .int a3, .int 0]) (rest := []) (c_X5_build l D t b σ2 a1 a2 a3 0 y6 σ8 u7) sh_193 (by decide) rfl rfl hx hb hml hown hts hE hW hS q1228 q1229 q1230 q96 q1231 hy_X5_build ⟨rfl, rfl⟩ ⟨Nat.le_of_ble_eq_true rfl, Nat.le_of_ble_eq_true rfl⟩ rfl rfl hl.1 (Nat.le_of_ble_eq_true rfl) ⟨by obtain ⟨hc1, hc2⟩ := hcl; omega, by obtain ⟨hc1, hc2⟩ := hcl; omega⟩ dL_law_356 (fun H locs hW hS => ?_)
      refine lv_istore (lv' := [(6, .int y6), (5, .int y3), (0, .ref bA), (1, .ref (b + 0)), (2, .ref (b + 193)), (3, .ref (b + 202)), (4, .int i)]) hx hb dL_law_359 hl (by decide) rfl (fun ls hl => ?_)
      refine lv_aload_n hx hb dL_law_361 rfl (lv_at hl 4 rfl) ?_
      obtain ⟨y9, u10, hf⟩ := b1_e hf
      refine mV (k := 193) (q := (5, 0)) (C := RX5) (T := TX5) (N := 14) (ci := 5) (n := 0) (As := []) (rest := []) (c_X5_thrown l D t b σ8 y9 u10) sh_193 (by decide) rfl rfl hx hb hml hown hts hE hW hS q1224 q1225 q1226 q96 q1227 hy_X5_thrown ⟨rfl, rfl⟩ ⟨Nat.le_of_ble_eq_true rfl, Nat.le_of_ble_eq_true rfl⟩ rfl rfl hl.1 (Nat.le_of_ble_eq_true rfl) ⟨by obtain ⟨hc1, hc2⟩ := hcl; omega, by obtain ⟨hc1, hc2⟩ := hcl; omega⟩ dL_law_362 (fun H locs hW hS => ?_)
      refine lv_iload hx hb dL_law_365 (lv_at hl 1 rfl) ?_
      refine lv_icmp_eq (tgt := 372) hx hb dL_law_367 (by decide) (fun h11 => ?_) (fun h11 => ?_)
      · have hf := ifp h11 hf
        refine lv_iload hx hb dL_law_372 (lv_at hl 1 rfl) ?_
        refine lv_if_ne (tgt := 389) hx hb dL_law_374 (by decide) (fun h12 => ?_) (fun h12 => ?_)
        · have hf := ifn h12 hf
          refine lv_goto (tgt := 2838) hx hb dL_law_389 (by decide) ?_
          cases hf
          refine W.widen (k := cells + 16) (n := slots + 96) (by omega) (by omega) ?_
          exact kk _ _ _ hW hS (lv_sub hl [2, 3, 4, 5, 6] rfl)
        · have hf := ifp h12 hf
          refine lv_aload_n hx hb dL_law_377 rfl (lv_at hl 5 rfl) ?_
          refine lv_iconst (v := 0) hx hb dL_law_378 (by decide) ?_
          refine lald hx hb hE.1 hW sh_202 (vp_lit (by decide +kernel)) dL_law_379 ?_
          refine lv_iload hx hb dL_law_380 (lv_at hl 0 rfl) ?_
          refine lv_i2l hx hb dL_law_382 rfl ?_
          refine lcmp_if (tgt := 389) hx hb dL_law_383 dL_law_384 (by decide) (fun h13 => ?_) (fun h13 => ?_)
          · have hf := ifp h13 hf
            refine lv_goto (tgt := 2838) hx hb dL_law_389 (by decide) ?_
            cases hf
            refine W.widen (k := cells + 16) (n := slots + 96) (by omega) (by omega) ?_
            exact kk _ _ _ hW hS (lv_sub hl [2, 3, 4, 5, 6] rfl)
          · have hf := ifn h13 hf
            refine lv_iconst (v := 0) hx hb dL_law_387 (by decide) ?_
            cases hf
      · have hf := ifn h11 hf
        refine lv_iconst (v := 0) hx hb dL_law_370 (by decide) ?_
        cases hf
    · have hf := ifn h5 hf
      refine lv_iconst (v := 1) hx hb dL_law_351 (by decide) ?_
      refine lv_goto (tgt := 356) hx hb dL_law_352 (by decide) ?_
      obtain ⟨y14, σ16, u15, hf⟩ := b2_e hf
      refine mV (k := 193) (q := (5, 0)) (C := RX5) (T := TX5) (N := 14) (ci := 5) (n := 4) (As := [.int a1, .int a2, .int a3, .int 1]) (rest := []) (c_X5_build l D t b σ2 a1 a2 a3 1 y14 σ16 u15) sh_193 (by decide) rfl rfl hx hb hml hown hts hE hW hS q1228 q1229 q1230 q96 q1231 hy_X5_build ⟨rfl, rfl⟩ ⟨Nat.le_of_ble_eq_true rfl, Nat.le_of_ble_eq_true rfl⟩ rfl rfl hl.1 (Nat.le_of_ble_eq_true rfl) ⟨by obtain ⟨hc1, hc2⟩ := hcl; omega, by obtain ⟨hc1, hc2⟩ := hcl; omega⟩ dL_law_356 (fun H locs hW hS => ?_)
      refine lv_istore (lv' := [(6, .int y14), (5, .int y3), (0, .ref bA), (1, .ref (b + 0)), (2, .ref (b + 193)), (3, .ref (b + 202)), (4, .int i)]) hx hb dL_law_359 hl (by decide) rfl (fun ls hl => ?_)
      refine lv_aload_n hx hb dL_law_361 rfl (lv_at hl 4 rfl) ?_
      obtain ⟨y17, u18, hf⟩ := b1_e hf
      refine mV (k := 193) (q := (5, 0)) (C := RX5) (T := TX5) (N := 14) (ci := 5) (n := 0) (As := []) (rest := []) (c_X5_thrown l D t b σ16 y17 u18) sh_193 (by decide) rfl rfl hx hb hml hown hts hE hW hS q1224 q1225 q1226 q96 q1227 hy_X5_thrown ⟨rfl, rfl⟩ ⟨Nat.le_of_ble_eq_true rfl, Nat.le_of_ble_eq_true rfl⟩ rfl rfl hl.1 (Nat.le_of_ble_eq_true rfl) ⟨by obtain ⟨hc1, hc2⟩ := hcl; omega, by obtain ⟨hc1, hc2⟩ := hcl; omega⟩ dL_law_362 (fun H locs hW hS => ?_)
      refine lv_iload hx hb dL_law_365 (lv_at hl 1 rfl) ?_
      refine lv_icmp_eq (tgt := 372) hx hb dL_law_367 (by decide) (fun h19 => ?_) (fun h19 => ?_)
      · have hf := ifp h19 hf
        refine lv_iload hx hb dL_law_372 (lv_at hl 1 rfl) ?_
        refine lv_if_ne (tgt := 389) hx hb dL_law_374 (by decide) (fun h20 => ?_) (fun h20 => ?_)
        · have hf := ifn h20 hf
          refine lv_goto (tgt := 2838) hx hb dL_law_389 (by decide) ?_
          cases hf
          refine W.widen (k := cells + 16) (n := slots + 96) (by omega) (by omega) ?_
          exact kk _ _ _ hW hS (lv_sub hl [2, 3, 4, 5, 6] rfl)
        · have hf := ifp h20 hf
          refine lv_aload_n hx hb dL_law_377 rfl (lv_at hl 5 rfl) ?_
          refine lv_iconst (v := 0) hx hb dL_law_378 (by decide) ?_
          refine lald hx hb hE.1 hW sh_202 (vp_lit (by decide +kernel)) dL_law_379 ?_
          refine lv_iload hx hb dL_law_380 (lv_at hl 0 rfl) ?_
          refine lv_i2l hx hb dL_law_382 rfl ?_
          refine lcmp_if (tgt := 389) hx hb dL_law_383 dL_law_384 (by decide) (fun h21 => ?_) (fun h21 => ?_)
          · have hf := ifp h21 hf
            refine lv_goto (tgt := 2838) hx hb dL_law_389 (by decide) ?_
            cases hf
            refine W.widen (k := cells + 16) (n := slots + 96) (by omega) (by omega) ?_
            exact kk _ _ _ hW hS (lv_sub hl [2, 3, 4, 5, 6] rfl)
          · have hf := ifn h21 hf
            refine lv_iconst (v := 0) hx hb dL_law_387 (by decide) ?_
            cases hf
      · have hf := ifn h19 hf
        refine lv_iconst (v := 0) hx hb dL_law_370 (by decide) ?_
        cases hf
  · have hf := ifn h1 hf
    refine lv_iconst (v := 1) hx hb dL_law_312 (by decide) ?_
    refine lv_goto (tgt := 317) hx hb dL_law_313 (by decide) ?_
    refine lv_aload_n hx hb dL_law_317 rfl (lv_at hl 3 rfl) ?_
    obtain ⟨y23, σ22, u24, hf⟩ := b2_e hf
    refine mSH (n := 6) (As := [.ref (b + 0), .int a1, .int a2, .int a3, .int 1, .ref (b + 202)]) (rest := []) (c_L_build l hfl D t b σ a1 a2 a3 1 y23 σ22 u24) hx hb hml hown hts hE hW hS q636 q637 q90 qw_L_build hs_L_build ⟨rfl, rfl⟩ ⟨Nat.le_of_ble_eq_true rfl, Nat.le_of_ble_eq_true rfl⟩ rfl rfl hl.1 (Nat.le_of_ble_eq_true rfl) ⟨by obtain ⟨hc1, hc2⟩ := hcl; omega, by obtain ⟨hc1, hc2⟩ := hcl; omega⟩ dL_law_318 (fun H locs hW hS => ?_)
    refine lv_istore (lv' := [(5, .int y23), (0, .ref bA), (1, .ref (b + 0)), (2, .ref (b + 193)), (3, .ref (b + 202)), (4, .int i)]) hx hb dL_law_321 hl (by decide) rfl (fun ls hl => ?_)
    refine lv_aload_n hx hb dL_law_323 rfl (lv_at hl 3 rfl) ?_
    refine lv_aload_n hx hb dL_law_324 rfl (lv_at hl 1 rfl) ?_
    refine lv_iload hx hb dL_law_325 (lv_at hl 5 rfl) ?_
    refine lv_iconst (v := 1) hx hb dL_law_327 (by decide) ?_
    refine lv_iadd hx hb dL_law_328 ?_
    refine va_sld hx hb hX hbl hbA hS hi1 dL_law_329 ?_
    rw [hx1]
    refine lv_aload_n hx hb dL_law_330 rfl (lv_at hl 1 rfl) ?_
    refine lv_iload hx hb dL_law_331 (lv_at hl 5 rfl) ?_
    refine lv_iconst (v := 2) hx hb dL_law_333 (by decide) ?_
    refine lv_iadd hx hb dL_law_334 ?_
    refine va_sld hx hb hX hbl hbA hS hi2 dL_law_335 ?_
    rw [hx2]
    refine lv_aload_n hx hb dL_law_336 rfl (lv_at hl 1 rfl) ?_
    refine lv_iload hx hb dL_law_337 (lv_at hl 5 rfl) ?_
    refine lv_iconst (v := 3) hx hb dL_law_339 (by decide) ?_
    refine lv_iadd hx hb dL_law_340 ?_
    refine va_sld hx hb hX hbl hbA hS hi3 dL_law_341 ?_
    rw [hx3]
    refine lv_aload_n hx hb dL_law_342 rfl (lv_at hl 1 rfl) ?_
    refine lv_iload hx hb dL_law_343 (lv_at hl 5 rfl) ?_
    refine lv_iconst (v := 4) hx hb dL_law_345 (by decide) ?_
    refine lv_iadd hx hb dL_law_346 ?_
    refine va_sld hx hb hX hbl hbA hS hi4 dL_law_347 ?_
    rw [hx4]
    refine lv_if_eq (tgt := 355) hx hb dL_law_348 (by decide) (fun h25 => ?_) (fun h25 => ?_)
    · have hf := ifp h25 hf
      refine lv_iconst (v := 0) hx hb dL_law_355 (by decide) ?_
      obtain ⟨y26, σ28, u27, hf⟩ := b2_e hf
      refine mV (k := 193) (q := (5, 0)) (C := RX5) (T := TX5) (N := 14) (ci := 5) (n := 4) (As := [.int a1, .int a2, .int a3, .int 0]) (rest := []) (c_X5_build l D t b σ22 a1 a2 a3 0 y26 σ28 u27) sh_193 (by decide) rfl rfl hx hb hml hown hts hE hW hS q1228 q1229 q1230 q96 q1231 hy_X5_build ⟨rfl, rfl⟩ ⟨Nat.le_of_ble_eq_true rfl, Nat.le_of_ble_eq_true rfl⟩ rfl rfl hl.1 (Nat.le_of_ble_eq_true rfl) ⟨by obtain ⟨hc1, hc2⟩ := hcl; omega, by obtain ⟨hc1, hc2⟩ := hcl; omega⟩ dL_law_356 (fun H locs hW hS => ?_)
      refine lv_istore (lv' := [(6, .int y26), (5, .int y23), (0, .ref bA), (1, .ref (b + 0)), (2, .ref (b + 193)), (3, .ref (b + 202)), (4, .int i)]) hx hb dL_law_359 hl (by decide) rfl (fun ls hl => ?_)
      refine lv_aload_n hx hb dL_law_361 rfl (lv_at hl 4 rfl) ?_
      obtain ⟨y29, u30, hf⟩ := b1_e hf
      refine mV (k := 193) (q := (5, 0)) (C := RX5) (T := TX5) (N := 14) (ci := 5) (n := 0) (As := []) (rest := []) (c_X5_thrown l D t b σ28 y29 u30) sh_193 (by decide) rfl rfl hx hb hml hown hts hE hW hS q1224 q1225 q1226 q96 q1227 hy_X5_thrown ⟨rfl, rfl⟩ ⟨Nat.le_of_ble_eq_true rfl, Nat.le_of_ble_eq_true rfl⟩ rfl rfl hl.1 (Nat.le_of_ble_eq_true rfl) ⟨by obtain ⟨hc1, hc2⟩ := hcl; omega, by obtain ⟨hc1, hc2⟩ := hcl; omega⟩ dL_law_362 (fun H locs hW hS => ?_)
      refine lv_iload hx hb dL_law_365 (lv_at hl 1 rfl) ?_
      refine lv_icmp_eq (tgt := 372) hx hb dL_law_367 (by decide) (fun h31 => ?_) (fun h31 => ?_)
      · have hf := ifp h31 hf
        refine lv_iload hx hb dL_law_372 (lv_at hl 1 rfl) ?_
        refine lv_if_ne (tgt := 389) hx hb dL_law_374 (by decide) (fun h32 => ?_) (fun h32 => ?_)
        · have hf := ifn h32 hf
          refine lv_goto (tgt := 2838) hx hb dL_law_389 (by decide) ?_
          cases hf
          refine W.widen (k := cells + 16) (n := slots + 96) (by omega) (by omega) ?_
          exact kk _ _ _ hW hS (lv_sub hl [2, 3, 4, 5, 6] rfl)
        · have hf := ifp h32 hf
          refine lv_aload_n hx hb dL_law_377 rfl (lv_at hl 5 rfl) ?_
          refine lv_iconst (v := 0) hx hb dL_law_378 (by decide) ?_
          refine lald hx hb hE.1 hW sh_202 (vp_lit (by decide +kernel)) dL_law_379 ?_
          refine lv_iload hx hb dL_law_380 (lv_at hl 0 rfl) ?_
          refine lv_i2l hx hb dL_law_382 rfl ?_
          refine lcmp_if (tgt := 389) hx hb dL_law_383 dL_law_384 (by decide) (fun h33 => ?_) (fun h33 => ?_)
          · have hf := ifp h33 hf
            refine lv_goto (tgt := 2838) hx hb dL_law_389 (by decide) ?_
            cases hf
            refine W.widen (k := cells + 16) (n := slots + 96) (by omega) (by omega) ?_
            exact kk _ _ _ hW hS (lv_sub hl [2, 3, 4, 5, 6] rfl)
          · have hf := ifn h33 hf
            refine lv_iconst (v := 0) hx hb dL_law_387 (by decide) ?_
            cases hf
      · have hf := ifn h31 hf
        refine lv_iconst (v := 0) hx hb dL_law_370 (by decide) ?_
        cases hf
    · have hf := ifn h25 hf
      refine lv_iconst (v := 1) hx hb dL_law_351 (by decide) ?_
      refine lv_goto (tgt := 356) hx hb dL_law_352 (by decide) ?_
      obtain ⟨y34, σ36, u35, hf⟩ := b2_e hf
      refine mV (k := 193) (q := (5, 0)) (C := RX5) (T := TX5) (N := 14) (ci := 5) (n := 4) (As := [.int a1, .int a2, .int a3, .int 1]) (rest := []) (c_X5_build l D t b σ22 a1 a2 a3 1 y34 σ36 u35) sh_193 (by decide) rfl rfl hx hb hml hown hts hE hW hS q1228 q1229 q1230 q96 q1231 hy_X5_build ⟨rfl, rfl⟩ ⟨Nat.le_of_ble_eq_true rfl, Nat.le_of_ble_eq_true rfl⟩ rfl rfl hl.1 (Nat.le_of_ble_eq_true rfl) ⟨by obtain ⟨hc1, hc2⟩ := hcl; omega, by obtain ⟨hc1, hc2⟩ := hcl; omega⟩ dL_law_356 (fun H locs hW hS => ?_)
      refine lv_istore (lv' := [(6, .int y34), (5, .int y23), (0, .ref bA), (1, .ref (b + 0)), (2, .ref (b + 193)), (3, .ref (b + 202)), (4, .int i)]) hx hb dL_law_359 hl (by decide) rfl (fun ls hl => ?_)
      refine lv_aload_n hx hb dL_law_361 rfl (lv_at hl 4 rfl) ?_
      obtain ⟨y37, u38, hf⟩ := b1_e hf
      refine mV (k := 193) (q := (5, 0)) (C := RX5) (T := TX5) (N := 14) (ci := 5) (n := 0) (As := []) (rest := []) (c_X5_thrown l D t b σ36 y37 u38) sh_193 (by decide) rfl rfl hx hb hml hown hts hE hW hS q1224 q1225 q1226 q96 q1227 hy_X5_thrown ⟨rfl, rfl⟩ ⟨Nat.le_of_ble_eq_true rfl, Nat.le_of_ble_eq_true rfl⟩ rfl rfl hl.1 (Nat.le_of_ble_eq_true rfl) ⟨by obtain ⟨hc1, hc2⟩ := hcl; omega, by obtain ⟨hc1, hc2⟩ := hcl; omega⟩ dL_law_362 (fun H locs hW hS => ?_)
      refine lv_iload hx hb dL_law_365 (lv_at hl 1 rfl) ?_
      refine lv_icmp_eq (tgt := 372) hx hb dL_law_367 (by decide) (fun h39 => ?_) (fun h39 => ?_)
      · have hf := ifp h39 hf
        refine lv_iload hx hb dL_law_372 (lv_at hl 1 rfl) ?_
        refine lv_if_ne (tgt := 389) hx hb dL_law_374 (by decide) (fun h40 => ?_) (fun h40 => ?_)
        · have hf := ifn h40 hf
          refine lv_goto (tgt := 2838) hx hb dL_law_389 (by decide) ?_
          cases hf
          refine W.widen (k := cells + 16) (n := slots + 96) (by omega) (by omega) ?_
          exact kk _ _ _ hW hS (lv_sub hl [2, 3, 4, 5, 6] rfl)
        · have hf := ifp h40 hf
          refine lv_aload_n hx hb dL_law_377 rfl (lv_at hl 5 rfl) ?_
          refine lv_iconst (v := 0) hx hb dL_law_378 (by decide) ?_
          refine lald hx hb hE.1 hW sh_202 (vp_lit (by decide +kernel)) dL_law_379 ?_
          refine lv_iload hx hb dL_law_380 (lv_at hl 0 rfl) ?_
          refine lv_i2l hx hb dL_law_382 rfl ?_
          refine lcmp_if (tgt := 389) hx hb dL_law_383 dL_law_384 (by decide) (fun h41 => ?_) (fun h41 => ?_)
          · have hf := ifp h41 hf
            refine lv_goto (tgt := 2838) hx hb dL_law_389 (by decide) ?_
            cases hf
            refine W.widen (k := cells + 16) (n := slots + 96) (by omega) (by omega) ?_
            exact kk _ _ _ hW hS (lv_sub hl [2, 3, 4, 5, 6] rfl)
          · have hf := ifn h41 hf
            refine lv_iconst (v := 0) hx hb dL_law_387 (by decide) ?_
            cases hf
      · have hf := ifn h39 hf
        refine lv_iconst (v := 0) hx hb dL_law_370 (by decide) ?_
        cases hf
def g_1 (σ : Sg) (a1 a2 a3 a4 : Int32) : Option Sg := b2 (f_L_pullDown σ a1) fun y2 σ1 => b2 (f_X5_pullDown σ1 a1) fun y4 σ6 => b1 (f_X5_thrown σ6) fun y7 => if y7 = y2 then (if y2 = 0 then (if (σ6 202 (0 : Int32).toNatClampNeg) = y4 then (some σ6) else (none)) else (some σ6)) else (none)
set_option maxHeartbeats 4000000 in
set_option maxRecDepth 100000 in
theorem k_1 {p : Program} {l : Launch} {e : Env} {s : State} {m : MethodId} {below : List Frame} {meth : Method} {c : Code} {bA L : Nat} {xs : Nat → Int32} {D : va_G} {t : Nat → ClassId} {b : Nat} (hfl : l.stackTraces = false) (hx : p.tables.exec = Jvm.exec) (hb : c.code = cL_law) (hml : c.maxLocals = 7) (hown : s.vm.findClass RL = some m.cls) {c9 : Cond} (hts : ∀ w ∈ c9 :: ALL, w.before #[Value.ref bA] s = true) (hE : EV D t b s) (hX : va_X bA L xs s s.heap) (hbl : bA < s.heap.size) (hbA : ¬ geA b bA) {i a1 a2 a3 a4 : Int32} (hi1 : vp_in (i + 1) L) (hi2 : vp_in (i + 2) L) (hi3 : vp_in (i + 3) L) (hi4 : vp_in (i + 4) L) (hx1 : xs (i + 1).toNatClampNeg = a1) (hx2 : xs (i + 2).toNatClampNeg = a2) (hx3 : xs (i + 3).toNatClampNeg = a3) (hx4 : xs (i + 4).toNatClampNeg = a4) {H : Heap} {locs : List Loc} {ls : Array Slot} {cells slots : Nat} {Q : State → Prop} (hcl : cells + 16 ≤ room_1.cells ∧ slots + 96 ≤ room_1.slots) {σ σr : Sg} (hW : wd D t b σ H) (hS : va_S (geA b) s.heap H locs) (hl : lv_has ls 7 [(0, .ref bA), (1, .ref (b + 0)), (2, .ref (b + 193)), (3, .ref (b + 202)), (4, .int i)]) (hf : g_1 σ a1 a2 a3 a4 = some σr) (kk : ∀ (H : Heap) (locs : List Loc) (ls : Array Slot), wd D t b σr H → va_S (geA b) s.heap H locs → lv_has ls 7 [(0, .ref bA), (1, .ref (b + 0)), (2, .ref (b + 193)), (3, .ref (b + 202)), (4, .int i)] → W p l e room_1 s m #[Value.ref bA] below meth c H locs (cells + 16) (slots + 96) Q (F0 m 2838 ls [])) : W p l e room_1 s m #[Value.ref bA] below meth c H locs cells slots Q (F0 m 392 ls []) := by
  have hta := fun w h => hts w (List.mem_cons_of_mem _ h)
  unfold g_1 at hf
  refine lv_aload_n hx hb dL_law_392 rfl (lv_at hl 1 rfl) ?_
  refine lv_aload_n hx hb dL_law_393 rfl (lv_at hl 0 rfl) ?_
  refine lv_iload hx hb dL_law_394 (lv_at hl 4 rfl) ?_
  refine lv_iconst (v := 1) hx hb dL_law_396 (by decide) ?_
  refine lv_iadd hx hb dL_law_397 ?_
  refine va_sld hx hb hX hbl hbA hS hi1 dL_law_398 ?_
  rw [hx1]
  refine lv_aload_n hx hb dL_law_399 rfl (lv_at hl 3 rfl) ?_
  obtain ⟨y2, σ1, u3, hf⟩ := b2_e hf
  refine mSH (n := 3) (As := [.ref (b + 0), .int a1, .ref (b + 202)]) (rest := []) (c_L_pullDown l hfl D t b σ a1 y2 σ1 u3) hx hb hml hown hts hE hW hS q788 q789 q90 qw_L_pullDown hs_L_pullDown ⟨rfl, rfl⟩ ⟨Nat.le_of_ble_eq_true rfl, Nat.le_of_ble_eq_true rfl⟩ rfl rfl hl.1 (Nat.le_of_ble_eq_true rfl) ⟨by obtain ⟨hc1, hc2⟩ := hcl; omega, by obtain ⟨hc1, hc2⟩ := hcl; omega⟩ dL_law_400 (fun H locs hW hS => ?_)
  refine lv_istore (lv' := [(5, .int y2), (0, .ref bA), (1, .ref (b + 0)), (2, .ref (b + 193)), (3, .ref (b + 202)), (4, .int i)]) hx hb dL_law_403 hl (by decide) rfl (fun ls hl => ?_)
  refine lv_aload_n hx hb dL_law_405 rfl (lv_at hl 3 rfl) ?_
  refine lv_aload_n hx hb dL_law_406 rfl (lv_at hl 1 rfl) ?_
  refine lv_iload hx hb dL_law_407 (lv_at hl 5 rfl) ?_
  refine lv_iconst (v := 1) hx hb dL_law_409 (by decide) ?_
  refine lv_iadd hx hb dL_law_410 ?_
  refine va_sld hx hb hX hbl hbA hS hi1 dL_law_411 ?_
  rw [hx1]
  obtain ⟨y4, σ6, u5, hf⟩ := b2_e hf
  refine mV (k := 193) (q := (5, 0)) (C := RX5) (T := TX5) (N := 14) (ci := 5) (n := 1) (As := [.int a1]) (rest := []) (c_X5_pullDown l D t b σ1 a1 y4 σ6 u5) sh_193 (by decide) rfl rfl hx hb hml hown hts hE hW hS q1275 q1276 q1277 q96 q1278 hy_X5_pullDown ⟨rfl, rfl⟩ ⟨Nat.le_of_ble_eq_true rfl, Nat.le_of_ble_eq_true rfl⟩ rfl rfl hl.1 (Nat.le_of_ble_eq_true rfl) ⟨by obtain ⟨hc1, hc2⟩ := hcl; omega, by obtain ⟨hc1, hc2⟩ := hcl; omega⟩ dL_law_412 (fun H locs hW hS => ?_)
  refine lv_istore (lv' := [(6, .int y4), (5, .int y2), (0, .ref bA), (1, .ref (b + 0)), (2, .ref (b + 193)), (3, .ref (b + 202)), (4, .int i)]) hx hb dL_law_415 hl (by decide) rfl (fun ls hl => ?_)
  refine lv_aload_n hx hb dL_law_417 rfl (lv_at hl 4 rfl) ?_
  obtain ⟨y7, u8, hf⟩ := b1_e hf
  refine mV (k := 193) (q := (5, 0)) (C := RX5) (T := TX5) (N := 14) (ci := 5) (n := 0) (As := []) (rest := []) (c_X5_thrown l D t b σ6 y7 u8) sh_193 (by decide) rfl rfl hx hb hml hown hts hE hW hS q1224 q1225 q1226 q96 q1227 hy_X5_thrown ⟨rfl, rfl⟩ ⟨Nat.le_of_ble_eq_true rfl, Nat.le_of_ble_eq_true rfl⟩ rfl rfl hl.1 (Nat.le_of_ble_eq_true rfl) ⟨by obtain ⟨hc1, hc2⟩ := hcl; omega, by obtain ⟨hc1, hc2⟩ := hcl; omega⟩ dL_law_418 (fun H locs hW hS => ?_)
  refine lv_iload hx hb dL_law_421 (lv_at hl 1 rfl) ?_
  refine lv_icmp_eq (tgt := 428) hx hb dL_law_423 (by decide) (fun h9 => ?_) (fun h9 => ?_)
  · have hf := ifp h9 hf
    refine lv_iload hx hb dL_law_428 (lv_at hl 1 rfl) ?_
    refine lv_if_ne (tgt := 445) hx hb dL_law_430 (by decide) (fun h10 => ?_) (fun h10 => ?_)
    · have hf := ifn h10 hf
      refine lv_goto (tgt := 2838) hx hb dL_law_445 (by decide) ?_
      cases hf
      refine W.widen (k := cells + 16) (n := slots + 96) (by omega) (by omega) ?_
      exact kk _ _ _ hW hS (lv_sub hl [2, 3, 4, 5, 6] rfl)
    · have hf := ifp h10 hf
      refine lv_aload_n hx hb dL_law_433 rfl (lv_at hl 5 rfl) ?_
      refine lv_iconst (v := 0) hx hb dL_law_434 (by decide) ?_
      refine lald hx hb hE.1 hW sh_202 (vp_lit (by decide +kernel)) dL_law_435 ?_
      refine lv_iload hx hb dL_law_436 (lv_at hl 0 rfl) ?_
      refine lv_i2l hx hb dL_law_438 rfl ?_
      refine lcmp_if (tgt := 445) hx hb dL_law_439 dL_law_440 (by decide) (fun h11 => ?_) (fun h11 => ?_)
      · have hf := ifp h11 hf
        refine lv_goto (tgt := 2838) hx hb dL_law_445 (by decide) ?_
        cases hf
        refine W.widen (k := cells + 16) (n := slots + 96) (by omega) (by omega) ?_
        exact kk _ _ _ hW hS (lv_sub hl [2, 3, 4, 5, 6] rfl)
      · have hf := ifn h11 hf
        refine lv_iconst (v := 0) hx hb dL_law_443 (by decide) ?_
        cases hf
  · have hf := ifn h9 hf
    refine lv_iconst (v := 0) hx hb dL_law_426 (by decide) ?_
    cases hf
def g_2 (σ : Sg) (a1 a2 a3 a4 : Int32) : Option Sg := b2 (f_L_setPrice σ a1 a2) fun y2 σ1 => b2 (f_X5_setPrice σ1 a1 a2) fun y4 σ6 => b1 (f_X5_thrown σ6) fun y7 => if y7 = y2 then (if y2 = 0 then (if (σ6 202 (0 : Int32).toNatClampNeg) = y4 then (some σ6) else (none)) else (some σ6)) else (none)
set_option maxHeartbeats 4000000 in
set_option maxRecDepth 100000 in
theorem k_2 {p : Program} {l : Launch} {e : Env} {s : State} {m : MethodId} {below : List Frame} {meth : Method} {c : Code} {bA L : Nat} {xs : Nat → Int32} {D : va_G} {t : Nat → ClassId} {b : Nat} (hfl : l.stackTraces = false) (hx : p.tables.exec = Jvm.exec) (hb : c.code = cL_law) (hml : c.maxLocals = 7) (hown : s.vm.findClass RL = some m.cls) {c9 : Cond} (hts : ∀ w ∈ c9 :: ALL, w.before #[Value.ref bA] s = true) (hE : EV D t b s) (hX : va_X bA L xs s s.heap) (hbl : bA < s.heap.size) (hbA : ¬ geA b bA) {i a1 a2 a3 a4 : Int32} (hi1 : vp_in (i + 1) L) (hi2 : vp_in (i + 2) L) (hi3 : vp_in (i + 3) L) (hi4 : vp_in (i + 4) L) (hx1 : xs (i + 1).toNatClampNeg = a1) (hx2 : xs (i + 2).toNatClampNeg = a2) (hx3 : xs (i + 3).toNatClampNeg = a3) (hx4 : xs (i + 4).toNatClampNeg = a4) {H : Heap} {locs : List Loc} {ls : Array Slot} {cells slots : Nat} {Q : State → Prop} (hcl : cells + 16 ≤ room_1.cells ∧ slots + 96 ≤ room_1.slots) {σ σr : Sg} (hW : wd D t b σ H) (hS : va_S (geA b) s.heap H locs) (hl : lv_has ls 7 [(0, .ref bA), (1, .ref (b + 0)), (2, .ref (b + 193)), (3, .ref (b + 202)), (4, .int i)]) (hf : g_2 σ a1 a2 a3 a4 = some σr) (kk : ∀ (H : Heap) (locs : List Loc) (ls : Array Slot), wd D t b σr H → va_S (geA b) s.heap H locs → lv_has ls 7 [(0, .ref bA), (1, .ref (b + 0)), (2, .ref (b + 193)), (3, .ref (b + 202)), (4, .int i)] → W p l e room_1 s m #[Value.ref bA] below meth c H locs (cells + 16) (slots + 96) Q (F0 m 2838 ls [])) : W p l e room_1 s m #[Value.ref bA] below meth c H locs cells slots Q (F0 m 448 ls []) := by
  have hta := fun w h => hts w (List.mem_cons_of_mem _ h)
  unfold g_2 at hf
  refine lv_aload_n hx hb dL_law_448 rfl (lv_at hl 1 rfl) ?_
  refine lv_aload_n hx hb dL_law_449 rfl (lv_at hl 0 rfl) ?_
  refine lv_iload hx hb dL_law_450 (lv_at hl 4 rfl) ?_
  refine lv_iconst (v := 1) hx hb dL_law_452 (by decide) ?_
  refine lv_iadd hx hb dL_law_453 ?_
  refine va_sld hx hb hX hbl hbA hS hi1 dL_law_454 ?_
  rw [hx1]
  refine lv_aload_n hx hb dL_law_455 rfl (lv_at hl 0 rfl) ?_
  refine lv_iload hx hb dL_law_456 (lv_at hl 4 rfl) ?_
  refine lv_iconst (v := 2) hx hb dL_law_458 (by decide) ?_
  refine lv_iadd hx hb dL_law_459 ?_
  refine va_sld hx hb hX hbl hbA hS hi2 dL_law_460 ?_
  rw [hx2]
  refine lv_aload_n hx hb dL_law_461 rfl (lv_at hl 3 rfl) ?_
  obtain ⟨y2, σ1, u3, hf⟩ := b2_e hf
  refine mSH (n := 4) (As := [.ref (b + 0), .int a1, .int a2, .ref (b + 202)]) (rest := []) (c_L_setPrice l hfl D t b σ a1 a2 y2 σ1 u3) hx hb hml hown hts hE hW hS q812 q813 q90 qw_L_setPrice hs_L_setPrice ⟨rfl, rfl⟩ ⟨Nat.le_of_ble_eq_true rfl, Nat.le_of_ble_eq_true rfl⟩ rfl rfl hl.1 (Nat.le_of_ble_eq_true rfl) ⟨by obtain ⟨hc1, hc2⟩ := hcl; omega, by obtain ⟨hc1, hc2⟩ := hcl; omega⟩ dL_law_462 (fun H locs hW hS => ?_)
  refine lv_istore (lv' := [(5, .int y2), (0, .ref bA), (1, .ref (b + 0)), (2, .ref (b + 193)), (3, .ref (b + 202)), (4, .int i)]) hx hb dL_law_465 hl (by decide) rfl (fun ls hl => ?_)
  refine lv_aload_n hx hb dL_law_467 rfl (lv_at hl 3 rfl) ?_
  refine lv_aload_n hx hb dL_law_468 rfl (lv_at hl 1 rfl) ?_
  refine lv_iload hx hb dL_law_469 (lv_at hl 5 rfl) ?_
  refine lv_iconst (v := 1) hx hb dL_law_471 (by decide) ?_
  refine lv_iadd hx hb dL_law_472 ?_
  refine va_sld hx hb hX hbl hbA hS hi1 dL_law_473 ?_
  rw [hx1]
  refine lv_aload_n hx hb dL_law_474 rfl (lv_at hl 1 rfl) ?_
  refine lv_iload hx hb dL_law_475 (lv_at hl 5 rfl) ?_
  refine lv_iconst (v := 2) hx hb dL_law_477 (by decide) ?_
  refine lv_iadd hx hb dL_law_478 ?_
  refine va_sld hx hb hX hbl hbA hS hi2 dL_law_479 ?_
  rw [hx2]
  obtain ⟨y4, σ6, u5, hf⟩ := b2_e hf
  refine mV (k := 193) (q := (5, 0)) (C := RX5) (T := TX5) (N := 14) (ci := 5) (n := 2) (As := [.int a1, .int a2]) (rest := []) (c_X5_setPrice l D t b σ1 a1 a2 y4 σ6 u5) sh_193 (by decide) rfl rfl hx hb hml hown hts hE hW hS q1283 q1284 q1285 q96 q1286 hy_X5_setPrice ⟨rfl, rfl⟩ ⟨Nat.le_of_ble_eq_true rfl, Nat.le_of_ble_eq_true rfl⟩ rfl rfl hl.1 (Nat.le_of_ble_eq_true rfl) ⟨by obtain ⟨hc1, hc2⟩ := hcl; omega, by obtain ⟨hc1, hc2⟩ := hcl; omega⟩ dL_law_480 (fun H locs hW hS => ?_)
  refine lv_istore (lv' := [(6, .int y4), (5, .int y2), (0, .ref bA), (1, .ref (b + 0)), (2, .ref (b + 193)), (3, .ref (b + 202)), (4, .int i)]) hx hb dL_law_483 hl (by decide) rfl (fun ls hl => ?_)
  refine lv_aload_n hx hb dL_law_485 rfl (lv_at hl 4 rfl) ?_
  obtain ⟨y7, u8, hf⟩ := b1_e hf
  refine mV (k := 193) (q := (5, 0)) (C := RX5) (T := TX5) (N := 14) (ci := 5) (n := 0) (As := []) (rest := []) (c_X5_thrown l D t b σ6 y7 u8) sh_193 (by decide) rfl rfl hx hb hml hown hts hE hW hS q1224 q1225 q1226 q96 q1227 hy_X5_thrown ⟨rfl, rfl⟩ ⟨Nat.le_of_ble_eq_true rfl, Nat.le_of_ble_eq_true rfl⟩ rfl rfl hl.1 (Nat.le_of_ble_eq_true rfl) ⟨by obtain ⟨hc1, hc2⟩ := hcl; omega, by obtain ⟨hc1, hc2⟩ := hcl; omega⟩ dL_law_486 (fun H locs hW hS => ?_)
  refine lv_iload hx hb dL_law_489 (lv_at hl 1 rfl) ?_
  refine lv_icmp_eq (tgt := 496) hx hb dL_law_491 (by decide) (fun h9 => ?_) (fun h9 => ?_)
  · have hf := ifp h9 hf
    refine lv_iload hx hb dL_law_496 (lv_at hl 1 rfl) ?_
    refine lv_if_ne (tgt := 513) hx hb dL_law_498 (by decide) (fun h10 => ?_) (fun h10 => ?_)
    · have hf := ifn h10 hf
      refine lv_goto (tgt := 2838) hx hb dL_law_513 (by decide) ?_
      cases hf
      refine W.widen (k := cells + 16) (n := slots + 96) (by omega) (by omega) ?_
      exact kk _ _ _ hW hS (lv_sub hl [2, 3, 4, 5, 6] rfl)
    · have hf := ifp h10 hf
      refine lv_aload_n hx hb dL_law_501 rfl (lv_at hl 5 rfl) ?_
      refine lv_iconst (v := 0) hx hb dL_law_502 (by decide) ?_
      refine lald hx hb hE.1 hW sh_202 (vp_lit (by decide +kernel)) dL_law_503 ?_
      refine lv_iload hx hb dL_law_504 (lv_at hl 0 rfl) ?_
      refine lv_i2l hx hb dL_law_506 rfl ?_
      refine lcmp_if (tgt := 513) hx hb dL_law_507 dL_law_508 (by decide) (fun h11 => ?_) (fun h11 => ?_)
      · have hf := ifp h11 hf
        refine lv_goto (tgt := 2838) hx hb dL_law_513 (by decide) ?_
        cases hf
        refine W.widen (k := cells + 16) (n := slots + 96) (by omega) (by omega) ?_
        exact kk _ _ _ hW hS (lv_sub hl [2, 3, 4, 5, 6] rfl)
      · have hf := ifn h11 hf
        refine lv_iconst (v := 0) hx hb dL_law_511 (by decide) ?_
        cases hf
  · have hf := ifn h9 hf
    refine lv_iconst (v := 0) hx hb dL_law_494 (by decide) ?_
    cases hf
def g_3 (σ : Sg) (a1 a2 a3 a4 : Int32) : Option Sg := b2 (f_L_turnStall σ a1) fun y2 σ1 => b2 (f_X5_turnStall σ1 a1) fun y4 σ6 => b1 (f_X5_thrown σ6) fun y7 => if y7 = y2 then (if y2 = 0 then (if y4 = 0 then (if (σ6 202 (0 : Int32).toNatClampNeg) = 0 then (some σ6) else (none)) else (if (σ6 202 (0 : Int32).toNatClampNeg) = 1 then (some σ6) else (none))) else (some σ6)) else (none)
set_option maxHeartbeats 4000000 in
set_option maxRecDepth 100000 in
theorem k_3 {p : Program} {l : Launch} {e : Env} {s : State} {m : MethodId} {below : List Frame} {meth : Method} {c : Code} {bA L : Nat} {xs : Nat → Int32} {D : va_G} {t : Nat → ClassId} {b : Nat} (hfl : l.stackTraces = false) (hx : p.tables.exec = Jvm.exec) (hb : c.code = cL_law) (hml : c.maxLocals = 7) (hown : s.vm.findClass RL = some m.cls) {c9 : Cond} (hts : ∀ w ∈ c9 :: ALL, w.before #[Value.ref bA] s = true) (hE : EV D t b s) (hX : va_X bA L xs s s.heap) (hbl : bA < s.heap.size) (hbA : ¬ geA b bA) {i a1 a2 a3 a4 : Int32} (hi1 : vp_in (i + 1) L) (hi2 : vp_in (i + 2) L) (hi3 : vp_in (i + 3) L) (hi4 : vp_in (i + 4) L) (hx1 : xs (i + 1).toNatClampNeg = a1) (hx2 : xs (i + 2).toNatClampNeg = a2) (hx3 : xs (i + 3).toNatClampNeg = a3) (hx4 : xs (i + 4).toNatClampNeg = a4) {H : Heap} {locs : List Loc} {ls : Array Slot} {cells slots : Nat} {Q : State → Prop} (hcl : cells + 16 ≤ room_1.cells ∧ slots + 96 ≤ room_1.slots) {σ σr : Sg} (hW : wd D t b σ H) (hS : va_S (geA b) s.heap H locs) (hl : lv_has ls 7 [(0, .ref bA), (1, .ref (b + 0)), (2, .ref (b + 193)), (3, .ref (b + 202)), (4, .int i)]) (hf : g_3 σ a1 a2 a3 a4 = some σr) (kk : ∀ (H : Heap) (locs : List Loc) (ls : Array Slot), wd D t b σr H → va_S (geA b) s.heap H locs → lv_has ls 7 [(0, .ref bA), (1, .ref (b + 0)), (2, .ref (b + 193)), (3, .ref (b + 202)), (4, .int i)] → W p l e room_1 s m #[Value.ref bA] below meth c H locs (cells + 16) (slots + 96) Q (F0 m 2838 ls [])) : W p l e room_1 s m #[Value.ref bA] below meth c H locs cells slots Q (F0 m 516 ls []) := by
  have hta := fun w h => hts w (List.mem_cons_of_mem _ h)
  unfold g_3 at hf
  refine lv_aload_n hx hb dL_law_516 rfl (lv_at hl 1 rfl) ?_
  refine lv_aload_n hx hb dL_law_517 rfl (lv_at hl 0 rfl) ?_
  refine lv_iload hx hb dL_law_518 (lv_at hl 4 rfl) ?_
  refine lv_iconst (v := 1) hx hb dL_law_520 (by decide) ?_
  refine lv_iadd hx hb dL_law_521 ?_
  refine va_sld hx hb hX hbl hbA hS hi1 dL_law_522 ?_
  rw [hx1]
  refine lv_aload_n hx hb dL_law_523 rfl (lv_at hl 3 rfl) ?_
  obtain ⟨y2, σ1, u3, hf⟩ := b2_e hf
  refine mSH (n := 3) (As := [.ref (b + 0), .int a1, .ref (b + 202)]) (rest := []) (c_L_turnStall l hfl D t b σ a1 y2 σ1 u3) hx hb hml hown hts hE hW hS q823 q824 q90 qw_L_turnStall hs_L_turnStall ⟨rfl, rfl⟩ ⟨Nat.le_of_ble_eq_true rfl, Nat.le_of_ble_eq_true rfl⟩ rfl rfl hl.1 (Nat.le_of_ble_eq_true rfl) ⟨by obtain ⟨hc1, hc2⟩ := hcl; omega, by obtain ⟨hc1, hc2⟩ := hcl; omega⟩ dL_law_524 (fun H locs hW hS => ?_)
  refine lv_istore (lv' := [(5, .int y2), (0, .ref bA), (1, .ref (b + 0)), (2, .ref (b + 193)), (3, .ref (b + 202)), (4, .int i)]) hx hb dL_law_527 hl (by decide) rfl (fun ls hl => ?_)
  refine lv_aload_n hx hb dL_law_529 rfl (lv_at hl 3 rfl) ?_
  refine lv_aload_n hx hb dL_law_530 rfl (lv_at hl 1 rfl) ?_
  refine lv_iload hx hb dL_law_531 (lv_at hl 5 rfl) ?_
  refine lv_iconst (v := 1) hx hb dL_law_533 (by decide) ?_
  refine lv_iadd hx hb dL_law_534 ?_
  refine va_sld hx hb hX hbl hbA hS hi1 dL_law_535 ?_
  rw [hx1]
  obtain ⟨y4, σ6, u5, hf⟩ := b2_e hf
  refine mV (k := 193) (q := (5, 0)) (C := RX5) (T := TX5) (N := 14) (ci := 5) (n := 1) (As := [.int a1]) (rest := []) (c_X5_turnStall l D t b σ1 a1 y4 σ6 u5) sh_193 (by decide) rfl rfl hx hb hml hown hts hE hW hS q1287 q1288 q1289 q96 q1290 hy_X5_turnStall ⟨rfl, rfl⟩ ⟨Nat.le_of_ble_eq_true rfl, Nat.le_of_ble_eq_true rfl⟩ rfl rfl hl.1 (Nat.le_of_ble_eq_true rfl) ⟨by obtain ⟨hc1, hc2⟩ := hcl; omega, by obtain ⟨hc1, hc2⟩ := hcl; omega⟩ dL_law_536 (fun H locs hW hS => ?_)
  refine lv_istore (lv' := [(6, .int y4), (5, .int y2), (0, .ref bA), (1, .ref (b + 0)), (2, .ref (b + 193)), (3, .ref (b + 202)), (4, .int i)]) hx hb dL_law_539 hl (by decide) rfl (fun ls hl => ?_)
  refine lv_aload_n hx hb dL_law_541 rfl (lv_at hl 4 rfl) ?_
  obtain ⟨y7, u8, hf⟩ := b1_e hf
  refine mV (k := 193) (q := (5, 0)) (C := RX5) (T := TX5) (N := 14) (ci := 5) (n := 0) (As := []) (rest := []) (c_X5_thrown l D t b σ6 y7 u8) sh_193 (by decide) rfl rfl hx hb hml hown hts hE hW hS q1224 q1225 q1226 q96 q1227 hy_X5_thrown ⟨rfl, rfl⟩ ⟨Nat.le_of_ble_eq_true rfl, Nat.le_of_ble_eq_true rfl⟩ rfl rfl hl.1 (Nat.le_of_ble_eq_true rfl) ⟨by obtain ⟨hc1, hc2⟩ := hcl; omega, by obtain ⟨hc1, hc2⟩ := hcl; omega⟩ dL_law_542 (fun H locs hW hS => ?_)
  refine lv_iload hx hb dL_law_545 (lv_at hl 1 rfl) ?_
  refine lv_icmp_eq (tgt := 552) hx hb dL_law_547 (by decide) (fun h9 => ?_) (fun h9 => ?_)
  · have hf := ifp h9 hf
    refine lv_iload hx hb dL_law_552 (lv_at hl 1 rfl) ?_
    refine lv_if_ne (tgt := 576) hx hb dL_law_554 (by decide) (fun h10 => ?_) (fun h10 => ?_)
    · have hf := ifn h10 hf
      refine lv_goto (tgt := 2838) hx hb dL_law_576 (by decide) ?_
      cases hf
      refine W.widen (k := cells + 16) (n := slots + 96) (by omega) (by omega) ?_
      exact kk _ _ _ hW hS (lv_sub hl [2, 3, 4, 5, 6] rfl)
    · have hf := ifp h10 hf
      refine lv_aload_n hx hb dL_law_557 rfl (lv_at hl 5 rfl) ?_
      refine lv_iconst (v := 0) hx hb dL_law_558 (by decide) ?_
      refine lald hx hb hE.1 hW sh_202 (vp_lit (by decide +kernel)) dL_law_559 ?_
      refine lv_iload hx hb dL_law_560 (lv_at hl 0 rfl) ?_
      refine lv_if_eq (tgt := 569) hx hb dL_law_562 (by decide) (fun h11 => ?_) (fun h11 => ?_)
      · have hf := ifp h11 hf
        refine lv_lconst (v := (0 : Int32).toInt64) hx hb dL_law_569 (by decide) ?_
        refine lcmp_if (tgt := 576) hx hb dL_law_570 dL_law_571 (by decide) (fun h12 => ?_) (fun h12 => ?_)
        · have hf := ifp h12 hf
          refine lv_goto (tgt := 2838) hx hb dL_law_576 (by decide) ?_
          cases hf
          refine W.widen (k := cells + 16) (n := slots + 96) (by omega) (by omega) ?_
          exact kk _ _ _ hW hS (lv_sub hl [2, 3, 4, 5, 6] rfl)
        · have hf := ifn h12 hf
          refine lv_iconst (v := 0) hx hb dL_law_574 (by decide) ?_
          cases hf
      · have hf := ifn h11 hf
        refine lv_lconst (v := (1 : Int32).toInt64) hx hb dL_law_565 (by decide) ?_
        refine lv_goto (tgt := 570) hx hb dL_law_566 (by decide) ?_
        refine lcmp_if (tgt := 576) hx hb dL_law_570 dL_law_571 (by decide) (fun h13 => ?_) (fun h13 => ?_)
        · have hf := ifp h13 hf
          refine lv_goto (tgt := 2838) hx hb dL_law_576 (by decide) ?_
          cases hf
          refine W.widen (k := cells + 16) (n := slots + 96) (by omega) (by omega) ?_
          exact kk _ _ _ hW hS (lv_sub hl [2, 3, 4, 5, 6] rfl)
        · have hf := ifn h13 hf
          refine lv_iconst (v := 0) hx hb dL_law_574 (by decide) ?_
          cases hf
  · have hf := ifn h9 hf
    refine lv_iconst (v := 0) hx hb dL_law_550 (by decide) ?_
    cases hf
def g_4 (σ : Sg) (a1 a2 a3 a4 : Int32) : Option Sg := b2 (f_L_restock σ a1 a2 a3 a4) fun y2 σ1 => b2 (f_X5_restock σ1 a1 a2 a3 a4) fun y4 σ6 => b1 (f_X5_thrown σ6) fun y7 => if y7 = y2 then (if y2 = 0 then (if (σ6 202 (0 : Int32).toNatClampNeg) = y4 then (some σ6) else (none)) else (some σ6)) else (none)
set_option maxHeartbeats 4000000 in
set_option maxRecDepth 100000 in
theorem k_4 {p : Program} {l : Launch} {e : Env} {s : State} {m : MethodId} {below : List Frame} {meth : Method} {c : Code} {bA L : Nat} {xs : Nat → Int32} {D : va_G} {t : Nat → ClassId} {b : Nat} (hfl : l.stackTraces = false) (hx : p.tables.exec = Jvm.exec) (hb : c.code = cL_law) (hml : c.maxLocals = 7) (hown : s.vm.findClass RL = some m.cls) {c9 : Cond} (hts : ∀ w ∈ c9 :: ALL, w.before #[Value.ref bA] s = true) (hE : EV D t b s) (hX : va_X bA L xs s s.heap) (hbl : bA < s.heap.size) (hbA : ¬ geA b bA) {i a1 a2 a3 a4 : Int32} (hi1 : vp_in (i + 1) L) (hi2 : vp_in (i + 2) L) (hi3 : vp_in (i + 3) L) (hi4 : vp_in (i + 4) L) (hx1 : xs (i + 1).toNatClampNeg = a1) (hx2 : xs (i + 2).toNatClampNeg = a2) (hx3 : xs (i + 3).toNatClampNeg = a3) (hx4 : xs (i + 4).toNatClampNeg = a4) {H : Heap} {locs : List Loc} {ls : Array Slot} {cells slots : Nat} {Q : State → Prop} (hcl : cells + 16 ≤ room_1.cells ∧ slots + 96 ≤ room_1.slots) {σ σr : Sg} (hW : wd D t b σ H) (hS : va_S (geA b) s.heap H locs) (hl : lv_has ls 7 [(0, .ref bA), (1, .ref (b + 0)), (2, .ref (b + 193)), (3, .ref (b + 202)), (4, .int i)]) (hf : g_4 σ a1 a2 a3 a4 = some σr) (kk : ∀ (H : Heap) (locs : List Loc) (ls : Array Slot), wd D t b σr H → va_S (geA b) s.heap H locs → lv_has ls 7 [(0, .ref bA), (1, .ref (b + 0)), (2, .ref (b + 193)), (3, .ref (b + 202)), (4, .int i)] → W p l e room_1 s m #[Value.ref bA] below meth c H locs (cells + 16) (slots + 96) Q (F0 m 2838 ls [])) : W p l e room_1 s m #[Value.ref bA] below meth c H locs cells slots Q (F0 m 579 ls []) := by
  have hta := fun w h => hts w (List.mem_cons_of_mem _ h)
  unfold g_4 at hf
  refine lv_aload_n hx hb dL_law_579 rfl (lv_at hl 1 rfl) ?_
  refine lv_aload_n hx hb dL_law_580 rfl (lv_at hl 0 rfl) ?_
  refine lv_iload hx hb dL_law_581 (lv_at hl 4 rfl) ?_
  refine lv_iconst (v := 1) hx hb dL_law_583 (by decide) ?_
  refine lv_iadd hx hb dL_law_584 ?_
  refine va_sld hx hb hX hbl hbA hS hi1 dL_law_585 ?_
  rw [hx1]
  refine lv_aload_n hx hb dL_law_586 rfl (lv_at hl 0 rfl) ?_
  refine lv_iload hx hb dL_law_587 (lv_at hl 4 rfl) ?_
  refine lv_iconst (v := 2) hx hb dL_law_589 (by decide) ?_
  refine lv_iadd hx hb dL_law_590 ?_
  refine va_sld hx hb hX hbl hbA hS hi2 dL_law_591 ?_
  rw [hx2]
  refine lv_aload_n hx hb dL_law_592 rfl (lv_at hl 0 rfl) ?_
  refine lv_iload hx hb dL_law_593 (lv_at hl 4 rfl) ?_
  refine lv_iconst (v := 3) hx hb dL_law_595 (by decide) ?_
  refine lv_iadd hx hb dL_law_596 ?_
  refine va_sld hx hb hX hbl hbA hS hi3 dL_law_597 ?_
  rw [hx3]
  refine lv_aload_n hx hb dL_law_598 rfl (lv_at hl 0 rfl) ?_
  refine lv_iload hx hb dL_law_599 (lv_at hl 4 rfl) ?_
  refine lv_iconst (v := 4) hx hb dL_law_601 (by decide) ?_
  refine lv_iadd hx hb dL_law_602 ?_
  refine va_sld hx hb hX hbl hbA hS hi4 dL_law_603 ?_
  rw [hx4]
  refine lv_aload_n hx hb dL_law_604 rfl (lv_at hl 3 rfl) ?_
  obtain ⟨y2, σ1, u3, hf⟩ := b2_e hf
  refine mSH (n := 6) (As := [.ref (b + 0), .int a1, .int a2, .int a3, .int a4, .ref (b + 202)]) (rest := []) (c_L_restock l hfl D t b σ a1 a2 a3 a4 y2 σ1 u3) hx hb hml hown hts hE hW hS q830 q831 q90 qw_L_restock hs_L_restock ⟨rfl, rfl⟩ ⟨Nat.le_of_ble_eq_true rfl, Nat.le_of_ble_eq_true rfl⟩ rfl rfl hl.1 (Nat.le_of_ble_eq_true rfl) ⟨by obtain ⟨hc1, hc2⟩ := hcl; omega, by obtain ⟨hc1, hc2⟩ := hcl; omega⟩ dL_law_605 (fun H locs hW hS => ?_)
  refine lv_istore (lv' := [(5, .int y2), (0, .ref bA), (1, .ref (b + 0)), (2, .ref (b + 193)), (3, .ref (b + 202)), (4, .int i)]) hx hb dL_law_608 hl (by decide) rfl (fun ls hl => ?_)
  refine lv_aload_n hx hb dL_law_610 rfl (lv_at hl 3 rfl) ?_
  refine lv_aload_n hx hb dL_law_611 rfl (lv_at hl 1 rfl) ?_
  refine lv_iload hx hb dL_law_612 (lv_at hl 5 rfl) ?_
  refine lv_iconst (v := 1) hx hb dL_law_614 (by decide) ?_
  refine lv_iadd hx hb dL_law_615 ?_
  refine va_sld hx hb hX hbl hbA hS hi1 dL_law_616 ?_
  rw [hx1]
  refine lv_aload_n hx hb dL_law_617 rfl (lv_at hl 1 rfl) ?_
  refine lv_iload hx hb dL_law_618 (lv_at hl 5 rfl) ?_
  refine lv_iconst (v := 2) hx hb dL_law_620 (by decide) ?_
  refine lv_iadd hx hb dL_law_621 ?_
  refine va_sld hx hb hX hbl hbA hS hi2 dL_law_622 ?_
  rw [hx2]
  refine lv_aload_n hx hb dL_law_623 rfl (lv_at hl 1 rfl) ?_
  refine lv_iload hx hb dL_law_624 (lv_at hl 5 rfl) ?_
  refine lv_iconst (v := 3) hx hb dL_law_626 (by decide) ?_
  refine lv_iadd hx hb dL_law_627 ?_
  refine va_sld hx hb hX hbl hbA hS hi3 dL_law_628 ?_
  rw [hx3]
  refine lv_aload_n hx hb dL_law_629 rfl (lv_at hl 1 rfl) ?_
  refine lv_iload hx hb dL_law_630 (lv_at hl 5 rfl) ?_
  refine lv_iconst (v := 4) hx hb dL_law_632 (by decide) ?_
  refine lv_iadd hx hb dL_law_633 ?_
  refine va_sld hx hb hX hbl hbA hS hi4 dL_law_634 ?_
  rw [hx4]
  obtain ⟨y4, σ6, u5, hf⟩ := b2_e hf
  refine mV (k := 193) (q := (5, 0)) (C := RX5) (T := TX5) (N := 14) (ci := 5) (n := 4) (As := [.int a1, .int a2, .int a3, .int a4]) (rest := []) (c_X5_restock l D t b σ1 a1 a2 a3 a4 y4 σ6 u5) sh_193 (by decide) rfl rfl hx hb hml hown hts hE hW hS q1291 q1292 q1293 q96 q1294 hy_X5_restock ⟨rfl, rfl⟩ ⟨Nat.le_of_ble_eq_true rfl, Nat.le_of_ble_eq_true rfl⟩ rfl rfl hl.1 (Nat.le_of_ble_eq_true rfl) ⟨by obtain ⟨hc1, hc2⟩ := hcl; omega, by obtain ⟨hc1, hc2⟩ := hcl; omega⟩ dL_law_635 (fun H locs hW hS => ?_)
  refine lv_istore (lv' := [(6, .int y4), (5, .int y2), (0, .ref bA), (1, .ref (b + 0)), (2, .ref (b + 193)), (3, .ref (b + 202)), (4, .int i)]) hx hb dL_law_638 hl (by decide) rfl (fun ls hl => ?_)
  refine lv_aload_n hx hb dL_law_640 rfl (lv_at hl 4 rfl) ?_
  obtain ⟨y7, u8, hf⟩ := b1_e hf
  refine mV (k := 193) (q := (5, 0)) (C := RX5) (T := TX5) (N := 14) (ci := 5) (n := 0) (As := []) (rest := []) (c_X5_thrown l D t b σ6 y7 u8) sh_193 (by decide) rfl rfl hx hb hml hown hts hE hW hS q1224 q1225 q1226 q96 q1227 hy_X5_thrown ⟨rfl, rfl⟩ ⟨Nat.le_of_ble_eq_true rfl, Nat.le_of_ble_eq_true rfl⟩ rfl rfl hl.1 (Nat.le_of_ble_eq_true rfl) ⟨by obtain ⟨hc1, hc2⟩ := hcl; omega, by obtain ⟨hc1, hc2⟩ := hcl; omega⟩ dL_law_641 (fun H locs hW hS => ?_)
  refine lv_iload hx hb dL_law_644 (lv_at hl 1 rfl) ?_
  refine lv_icmp_eq (tgt := 651) hx hb dL_law_646 (by decide) (fun h9 => ?_) (fun h9 => ?_)
  · have hf := ifp h9 hf
    refine lv_iload hx hb dL_law_651 (lv_at hl 1 rfl) ?_
    refine lv_if_ne (tgt := 668) hx hb dL_law_653 (by decide) (fun h10 => ?_) (fun h10 => ?_)
    · have hf := ifn h10 hf
      refine lv_goto (tgt := 2838) hx hb dL_law_668 (by decide) ?_
      cases hf
      refine W.widen (k := cells + 16) (n := slots + 96) (by omega) (by omega) ?_
      exact kk _ _ _ hW hS (lv_sub hl [2, 3, 4, 5, 6] rfl)
    · have hf := ifp h10 hf
      refine lv_aload_n hx hb dL_law_656 rfl (lv_at hl 5 rfl) ?_
      refine lv_iconst (v := 0) hx hb dL_law_657 (by decide) ?_
      refine lald hx hb hE.1 hW sh_202 (vp_lit (by decide +kernel)) dL_law_658 ?_
      refine lv_iload hx hb dL_law_659 (lv_at hl 0 rfl) ?_
      refine lv_i2l hx hb dL_law_661 rfl ?_
      refine lcmp_if (tgt := 668) hx hb dL_law_662 dL_law_663 (by decide) (fun h11 => ?_) (fun h11 => ?_)
      · have hf := ifp h11 hf
        refine lv_goto (tgt := 2838) hx hb dL_law_668 (by decide) ?_
        cases hf
        refine W.widen (k := cells + 16) (n := slots + 96) (by omega) (by omega) ?_
        exact kk _ _ _ hW hS (lv_sub hl [2, 3, 4, 5, 6] rfl)
      · have hf := ifn h11 hf
        refine lv_iconst (v := 0) hx hb dL_law_666 (by decide) ?_
        cases hf
  · have hf := ifn h9 hf
    refine lv_iconst (v := 0) hx hb dL_law_649 (by decide) ?_
    cases hf
def g_5 (σ : Sg) (a1 a2 a3 a4 : Int32) : Option Sg := b2 (f_L_fund σ a1 a2) fun y2 σ1 => b2 (f_X5_fund σ1 a1 a2) fun y4 σ6 => b1 (f_X5_thrown σ6) fun y7 => if y7 = y2 then (if y2 = 0 then (if (σ6 202 (0 : Int32).toNatClampNeg) = y4 then (some σ6) else (none)) else (some σ6)) else (none)
set_option maxHeartbeats 4000000 in
set_option maxRecDepth 100000 in
theorem k_5 {p : Program} {l : Launch} {e : Env} {s : State} {m : MethodId} {below : List Frame} {meth : Method} {c : Code} {bA L : Nat} {xs : Nat → Int32} {D : va_G} {t : Nat → ClassId} {b : Nat} (hfl : l.stackTraces = false) (hx : p.tables.exec = Jvm.exec) (hb : c.code = cL_law) (hml : c.maxLocals = 7) (hown : s.vm.findClass RL = some m.cls) {c9 : Cond} (hts : ∀ w ∈ c9 :: ALL, w.before #[Value.ref bA] s = true) (hE : EV D t b s) (hX : va_X bA L xs s s.heap) (hbl : bA < s.heap.size) (hbA : ¬ geA b bA) {i a1 a2 a3 a4 : Int32} (hi1 : vp_in (i + 1) L) (hi2 : vp_in (i + 2) L) (hi3 : vp_in (i + 3) L) (hi4 : vp_in (i + 4) L) (hx1 : xs (i + 1).toNatClampNeg = a1) (hx2 : xs (i + 2).toNatClampNeg = a2) (hx3 : xs (i + 3).toNatClampNeg = a3) (hx4 : xs (i + 4).toNatClampNeg = a4) {H : Heap} {locs : List Loc} {ls : Array Slot} {cells slots : Nat} {Q : State → Prop} (hcl : cells + 16 ≤ room_1.cells ∧ slots + 96 ≤ room_1.slots) {σ σr : Sg} (hW : wd D t b σ H) (hS : va_S (geA b) s.heap H locs) (hl : lv_has ls 7 [(0, .ref bA), (1, .ref (b + 0)), (2, .ref (b + 193)), (3, .ref (b + 202)), (4, .int i)]) (hf : g_5 σ a1 a2 a3 a4 = some σr) (kk : ∀ (H : Heap) (locs : List Loc) (ls : Array Slot), wd D t b σr H → va_S (geA b) s.heap H locs → lv_has ls 7 [(0, .ref bA), (1, .ref (b + 0)), (2, .ref (b + 193)), (3, .ref (b + 202)), (4, .int i)] → W p l e room_1 s m #[Value.ref bA] below meth c H locs (cells + 16) (slots + 96) Q (F0 m 2838 ls [])) : W p l e room_1 s m #[Value.ref bA] below meth c H locs cells slots Q (F0 m 671 ls []) := by
  have hta := fun w h => hts w (List.mem_cons_of_mem _ h)
  unfold g_5 at hf
  refine lv_aload_n hx hb dL_law_671 rfl (lv_at hl 1 rfl) ?_
  refine lv_aload_n hx hb dL_law_672 rfl (lv_at hl 0 rfl) ?_
  refine lv_iload hx hb dL_law_673 (lv_at hl 4 rfl) ?_
  refine lv_iconst (v := 1) hx hb dL_law_675 (by decide) ?_
  refine lv_iadd hx hb dL_law_676 ?_
  refine va_sld hx hb hX hbl hbA hS hi1 dL_law_677 ?_
  rw [hx1]
  refine lv_aload_n hx hb dL_law_678 rfl (lv_at hl 0 rfl) ?_
  refine lv_iload hx hb dL_law_679 (lv_at hl 4 rfl) ?_
  refine lv_iconst (v := 2) hx hb dL_law_681 (by decide) ?_
  refine lv_iadd hx hb dL_law_682 ?_
  refine va_sld hx hb hX hbl hbA hS hi2 dL_law_683 ?_
  rw [hx2]
  refine lv_aload_n hx hb dL_law_684 rfl (lv_at hl 3 rfl) ?_
  obtain ⟨y2, σ1, u3, hf⟩ := b2_e hf
  refine mSH (n := 4) (As := [.ref (b + 0), .int a1, .int a2, .ref (b + 202)]) (rest := []) (c_L_fund l hfl D t b σ a1 a2 y2 σ1 u3) hx hb hml hown hts hE hW hS q865 q866 q90 qw_L_fund hs_L_fund ⟨rfl, rfl⟩ ⟨Nat.le_of_ble_eq_true rfl, Nat.le_of_ble_eq_true rfl⟩ rfl rfl hl.1 (Nat.le_of_ble_eq_true rfl) ⟨by obtain ⟨hc1, hc2⟩ := hcl; omega, by obtain ⟨hc1, hc2⟩ := hcl; omega⟩ dL_law_685 (fun H locs hW hS => ?_)
  refine lv_istore (lv' := [(5, .int y2), (0, .ref bA), (1, .ref (b + 0)), (2, .ref (b + 193)), (3, .ref (b + 202)), (4, .int i)]) hx hb dL_law_688 hl (by decide) rfl (fun ls hl => ?_)
  refine lv_aload_n hx hb dL_law_690 rfl (lv_at hl 3 rfl) ?_
  refine lv_aload_n hx hb dL_law_691 rfl (lv_at hl 1 rfl) ?_
  refine lv_iload hx hb dL_law_692 (lv_at hl 5 rfl) ?_
  refine lv_iconst (v := 1) hx hb dL_law_694 (by decide) ?_
  refine lv_iadd hx hb dL_law_695 ?_
  refine va_sld hx hb hX hbl hbA hS hi1 dL_law_696 ?_
  rw [hx1]
  refine lv_aload_n hx hb dL_law_697 rfl (lv_at hl 1 rfl) ?_
  refine lv_iload hx hb dL_law_698 (lv_at hl 5 rfl) ?_
  refine lv_iconst (v := 2) hx hb dL_law_700 (by decide) ?_
  refine lv_iadd hx hb dL_law_701 ?_
  refine va_sld hx hb hX hbl hbA hS hi2 dL_law_702 ?_
  rw [hx2]
  obtain ⟨y4, σ6, u5, hf⟩ := b2_e hf
  refine mV (k := 193) (q := (5, 0)) (C := RX5) (T := TX5) (N := 14) (ci := 5) (n := 2) (As := [.int a1, .int a2]) (rest := []) (c_X5_fund l D t b σ1 a1 a2 y4 σ6 u5) sh_193 (by decide) rfl rfl hx hb hml hown hts hE hW hS q1317 q1318 q1319 q96 q1320 hy_X5_fund ⟨rfl, rfl⟩ ⟨Nat.le_of_ble_eq_true rfl, Nat.le_of_ble_eq_true rfl⟩ rfl rfl hl.1 (Nat.le_of_ble_eq_true rfl) ⟨by obtain ⟨hc1, hc2⟩ := hcl; omega, by obtain ⟨hc1, hc2⟩ := hcl; omega⟩ dL_law_703 (fun H locs hW hS => ?_)
  refine lv_istore (lv' := [(6, .int y4), (5, .int y2), (0, .ref bA), (1, .ref (b + 0)), (2, .ref (b + 193)), (3, .ref (b + 202)), (4, .int i)]) hx hb dL_law_706 hl (by decide) rfl (fun ls hl => ?_)
  refine lv_aload_n hx hb dL_law_708 rfl (lv_at hl 4 rfl) ?_
  obtain ⟨y7, u8, hf⟩ := b1_e hf
  refine mV (k := 193) (q := (5, 0)) (C := RX5) (T := TX5) (N := 14) (ci := 5) (n := 0) (As := []) (rest := []) (c_X5_thrown l D t b σ6 y7 u8) sh_193 (by decide) rfl rfl hx hb hml hown hts hE hW hS q1224 q1225 q1226 q96 q1227 hy_X5_thrown ⟨rfl, rfl⟩ ⟨Nat.le_of_ble_eq_true rfl, Nat.le_of_ble_eq_true rfl⟩ rfl rfl hl.1 (Nat.le_of_ble_eq_true rfl) ⟨by obtain ⟨hc1, hc2⟩ := hcl; omega, by obtain ⟨hc1, hc2⟩ := hcl; omega⟩ dL_law_709 (fun H locs hW hS => ?_)
  refine lv_iload hx hb dL_law_712 (lv_at hl 1 rfl) ?_
  refine lv_icmp_eq (tgt := 719) hx hb dL_law_714 (by decide) (fun h9 => ?_) (fun h9 => ?_)
  · have hf := ifp h9 hf
    refine lv_iload hx hb dL_law_719 (lv_at hl 1 rfl) ?_
    refine lv_if_ne (tgt := 736) hx hb dL_law_721 (by decide) (fun h10 => ?_) (fun h10 => ?_)
    · have hf := ifn h10 hf
      refine lv_goto (tgt := 2838) hx hb dL_law_736 (by decide) ?_
      cases hf
      refine W.widen (k := cells + 16) (n := slots + 96) (by omega) (by omega) ?_
      exact kk _ _ _ hW hS (lv_sub hl [2, 3, 4, 5, 6] rfl)
    · have hf := ifp h10 hf
      refine lv_aload_n hx hb dL_law_724 rfl (lv_at hl 5 rfl) ?_
      refine lv_iconst (v := 0) hx hb dL_law_725 (by decide) ?_
      refine lald hx hb hE.1 hW sh_202 (vp_lit (by decide +kernel)) dL_law_726 ?_
      refine lv_iload hx hb dL_law_727 (lv_at hl 0 rfl) ?_
      refine lv_i2l hx hb dL_law_729 rfl ?_
      refine lcmp_if (tgt := 736) hx hb dL_law_730 dL_law_731 (by decide) (fun h11 => ?_) (fun h11 => ?_)
      · have hf := ifp h11 hf
        refine lv_goto (tgt := 2838) hx hb dL_law_736 (by decide) ?_
        cases hf
        refine W.widen (k := cells + 16) (n := slots + 96) (by omega) (by omega) ?_
        exact kk _ _ _ hW hS (lv_sub hl [2, 3, 4, 5, 6] rfl)
      · have hf := ifn h11 hf
        refine lv_iconst (v := 0) hx hb dL_law_734 (by decide) ?_
        cases hf
  · have hf := ifn h9 hf
    refine lv_iconst (v := 0) hx hb dL_law_717 (by decide) ?_
    cases hf
def g_6 (σ : Sg) (a1 a2 a3 a4 : Int32) : Option Sg := b2 (f_L_collect σ a1) fun y2 σ1 => b2 (f_X5_collect σ1 a1) fun y4 σ6 => b1 (f_X5_thrown σ6) fun y7 => if y7 = y2 then (if y2 = 0 then (if (σ6 202 (0 : Int32).toNatClampNeg) = y4 then (some σ6) else (none)) else (some σ6)) else (none)
set_option maxHeartbeats 4000000 in
set_option maxRecDepth 100000 in
theorem k_6 {p : Program} {l : Launch} {e : Env} {s : State} {m : MethodId} {below : List Frame} {meth : Method} {c : Code} {bA L : Nat} {xs : Nat → Int32} {D : va_G} {t : Nat → ClassId} {b : Nat} (hfl : l.stackTraces = false) (hx : p.tables.exec = Jvm.exec) (hb : c.code = cL_law) (hml : c.maxLocals = 7) (hown : s.vm.findClass RL = some m.cls) {c9 : Cond} (hts : ∀ w ∈ c9 :: ALL, w.before #[Value.ref bA] s = true) (hE : EV D t b s) (hX : va_X bA L xs s s.heap) (hbl : bA < s.heap.size) (hbA : ¬ geA b bA) {i a1 a2 a3 a4 : Int32} (hi1 : vp_in (i + 1) L) (hi2 : vp_in (i + 2) L) (hi3 : vp_in (i + 3) L) (hi4 : vp_in (i + 4) L) (hx1 : xs (i + 1).toNatClampNeg = a1) (hx2 : xs (i + 2).toNatClampNeg = a2) (hx3 : xs (i + 3).toNatClampNeg = a3) (hx4 : xs (i + 4).toNatClampNeg = a4) {H : Heap} {locs : List Loc} {ls : Array Slot} {cells slots : Nat} {Q : State → Prop} (hcl : cells + 16 ≤ room_1.cells ∧ slots + 96 ≤ room_1.slots) {σ σr : Sg} (hW : wd D t b σ H) (hS : va_S (geA b) s.heap H locs) (hl : lv_has ls 7 [(0, .ref bA), (1, .ref (b + 0)), (2, .ref (b + 193)), (3, .ref (b + 202)), (4, .int i)]) (hf : g_6 σ a1 a2 a3 a4 = some σr) (kk : ∀ (H : Heap) (locs : List Loc) (ls : Array Slot), wd D t b σr H → va_S (geA b) s.heap H locs → lv_has ls 7 [(0, .ref bA), (1, .ref (b + 0)), (2, .ref (b + 193)), (3, .ref (b + 202)), (4, .int i)] → W p l e room_1 s m #[Value.ref bA] below meth c H locs (cells + 16) (slots + 96) Q (F0 m 2838 ls [])) : W p l e room_1 s m #[Value.ref bA] below meth c H locs cells slots Q (F0 m 739 ls []) := by
  have hta := fun w h => hts w (List.mem_cons_of_mem _ h)
  unfold g_6 at hf
  refine lv_aload_n hx hb dL_law_739 rfl (lv_at hl 1 rfl) ?_
  refine lv_aload_n hx hb dL_law_740 rfl (lv_at hl 0 rfl) ?_
  refine lv_iload hx hb dL_law_741 (lv_at hl 4 rfl) ?_
  refine lv_iconst (v := 1) hx hb dL_law_743 (by decide) ?_
  refine lv_iadd hx hb dL_law_744 ?_
  refine va_sld hx hb hX hbl hbA hS hi1 dL_law_745 ?_
  rw [hx1]
  refine lv_aload_n hx hb dL_law_746 rfl (lv_at hl 3 rfl) ?_
  obtain ⟨y2, σ1, u3, hf⟩ := b2_e hf
  refine mSH (n := 3) (As := [.ref (b + 0), .int a1, .ref (b + 202)]) (rest := []) (c_L_collect l hfl D t b σ a1 y2 σ1 u3) hx hb hml hown hts hE hW hS q882 q883 q90 qw_L_collect hs_L_collect ⟨rfl, rfl⟩ ⟨Nat.le_of_ble_eq_true rfl, Nat.le_of_ble_eq_true rfl⟩ rfl rfl hl.1 (Nat.le_of_ble_eq_true rfl) ⟨by obtain ⟨hc1, hc2⟩ := hcl; omega, by obtain ⟨hc1, hc2⟩ := hcl; omega⟩ dL_law_747 (fun H locs hW hS => ?_)
  refine lv_istore (lv' := [(5, .int y2), (0, .ref bA), (1, .ref (b + 0)), (2, .ref (b + 193)), (3, .ref (b + 202)), (4, .int i)]) hx hb dL_law_750 hl (by decide) rfl (fun ls hl => ?_)
  refine lv_aload_n hx hb dL_law_752 rfl (lv_at hl 3 rfl) ?_
  refine lv_aload_n hx hb dL_law_753 rfl (lv_at hl 1 rfl) ?_
  refine lv_iload hx hb dL_law_754 (lv_at hl 5 rfl) ?_
  refine lv_iconst (v := 1) hx hb dL_law_756 (by decide) ?_
  refine lv_iadd hx hb dL_law_757 ?_
  refine va_sld hx hb hX hbl hbA hS hi1 dL_law_758 ?_
  rw [hx1]
  obtain ⟨y4, σ6, u5, hf⟩ := b2_e hf
  refine mV (k := 193) (q := (5, 0)) (C := RX5) (T := TX5) (N := 14) (ci := 5) (n := 1) (As := [.int a1]) (rest := []) (c_X5_collect l D t b σ1 a1 y4 σ6 u5) sh_193 (by decide) rfl rfl hx hb hml hown hts hE hW hS q1329 q1330 q1331 q96 q1332 hy_X5_collect ⟨rfl, rfl⟩ ⟨Nat.le_of_ble_eq_true rfl, Nat.le_of_ble_eq_true rfl⟩ rfl rfl hl.1 (Nat.le_of_ble_eq_true rfl) ⟨by obtain ⟨hc1, hc2⟩ := hcl; omega, by obtain ⟨hc1, hc2⟩ := hcl; omega⟩ dL_law_759 (fun H locs hW hS => ?_)
  refine lv_istore (lv' := [(6, .int y4), (5, .int y2), (0, .ref bA), (1, .ref (b + 0)), (2, .ref (b + 193)), (3, .ref (b + 202)), (4, .int i)]) hx hb dL_law_762 hl (by decide) rfl (fun ls hl => ?_)
  refine lv_aload_n hx hb dL_law_764 rfl (lv_at hl 4 rfl) ?_
  obtain ⟨y7, u8, hf⟩ := b1_e hf
  refine mV (k := 193) (q := (5, 0)) (C := RX5) (T := TX5) (N := 14) (ci := 5) (n := 0) (As := []) (rest := []) (c_X5_thrown l D t b σ6 y7 u8) sh_193 (by decide) rfl rfl hx hb hml hown hts hE hW hS q1224 q1225 q1226 q96 q1227 hy_X5_thrown ⟨rfl, rfl⟩ ⟨Nat.le_of_ble_eq_true rfl, Nat.le_of_ble_eq_true rfl⟩ rfl rfl hl.1 (Nat.le_of_ble_eq_true rfl) ⟨by obtain ⟨hc1, hc2⟩ := hcl; omega, by obtain ⟨hc1, hc2⟩ := hcl; omega⟩ dL_law_765 (fun H locs hW hS => ?_)
  refine lv_iload hx hb dL_law_768 (lv_at hl 1 rfl) ?_
  refine lv_icmp_eq (tgt := 775) hx hb dL_law_770 (by decide) (fun h9 => ?_) (fun h9 => ?_)
  · have hf := ifp h9 hf
    refine lv_iload hx hb dL_law_775 (lv_at hl 1 rfl) ?_
    refine lv_if_ne (tgt := 792) hx hb dL_law_777 (by decide) (fun h10 => ?_) (fun h10 => ?_)
    · have hf := ifn h10 hf
      refine lv_goto (tgt := 2838) hx hb dL_law_792 (by decide) ?_
      cases hf
      refine W.widen (k := cells + 16) (n := slots + 96) (by omega) (by omega) ?_
      exact kk _ _ _ hW hS (lv_sub hl [2, 3, 4, 5, 6] rfl)
    · have hf := ifp h10 hf
      refine lv_aload_n hx hb dL_law_780 rfl (lv_at hl 5 rfl) ?_
      refine lv_iconst (v := 0) hx hb dL_law_781 (by decide) ?_
      refine lald hx hb hE.1 hW sh_202 (vp_lit (by decide +kernel)) dL_law_782 ?_
      refine lv_iload hx hb dL_law_783 (lv_at hl 0 rfl) ?_
      refine lv_i2l hx hb dL_law_785 rfl ?_
      refine lcmp_if (tgt := 792) hx hb dL_law_786 dL_law_787 (by decide) (fun h11 => ?_) (fun h11 => ?_)
      · have hf := ifp h11 hf
        refine lv_goto (tgt := 2838) hx hb dL_law_792 (by decide) ?_
        cases hf
        refine W.widen (k := cells + 16) (n := slots + 96) (by omega) (by omega) ?_
        exact kk _ _ _ hW hS (lv_sub hl [2, 3, 4, 5, 6] rfl)
      · have hf := ifn h11 hf
        refine lv_iconst (v := 0) hx hb dL_law_790 (by decide) ?_
        cases hf
  · have hf := ifn h9 hf
    refine lv_iconst (v := 0) hx hb dL_law_773 (by decide) ?_
    cases hf
def g_7 (σ : Sg) (a1 a2 a3 a4 : Int32) : Option Sg := b2 (f_L_come σ a1 a2 a3) fun y2 σ1 => b2 (f_X5_come σ1 a1 a2 a3) fun y4 σ6 => b1 (f_X5_thrown σ6) fun y7 => if y7 = y2 then (if y2 = 0 then (if (σ6 202 (0 : Int32).toNatClampNeg) = y4 then (some σ6) else (none)) else (some σ6)) else (none)
set_option maxHeartbeats 4000000 in
set_option maxRecDepth 100000 in
theorem k_7 {p : Program} {l : Launch} {e : Env} {s : State} {m : MethodId} {below : List Frame} {meth : Method} {c : Code} {bA L : Nat} {xs : Nat → Int32} {D : va_G} {t : Nat → ClassId} {b : Nat} (hfl : l.stackTraces = false) (hx : p.tables.exec = Jvm.exec) (hb : c.code = cL_law) (hml : c.maxLocals = 7) (hown : s.vm.findClass RL = some m.cls) {c9 : Cond} (hts : ∀ w ∈ c9 :: ALL, w.before #[Value.ref bA] s = true) (hE : EV D t b s) (hX : va_X bA L xs s s.heap) (hbl : bA < s.heap.size) (hbA : ¬ geA b bA) {i a1 a2 a3 a4 : Int32} (hi1 : vp_in (i + 1) L) (hi2 : vp_in (i + 2) L) (hi3 : vp_in (i + 3) L) (hi4 : vp_in (i + 4) L) (hx1 : xs (i + 1).toNatClampNeg = a1) (hx2 : xs (i + 2).toNatClampNeg = a2) (hx3 : xs (i + 3).toNatClampNeg = a3) (hx4 : xs (i + 4).toNatClampNeg = a4) {H : Heap} {locs : List Loc} {ls : Array Slot} {cells slots : Nat} {Q : State → Prop} (hcl : cells + 16 ≤ room_1.cells ∧ slots + 96 ≤ room_1.slots) {σ σr : Sg} (hW : wd D t b σ H) (hS : va_S (geA b) s.heap H locs) (hl : lv_has ls 7 [(0, .ref bA), (1, .ref (b + 0)), (2, .ref (b + 193)), (3, .ref (b + 202)), (4, .int i)]) (hf : g_7 σ a1 a2 a3 a4 = some σr) (kk : ∀ (H : Heap) (locs : List Loc) (ls : Array Slot), wd D t b σr H → va_S (geA b) s.heap H locs → lv_has ls 7 [(0, .ref bA), (1, .ref (b + 0)), (2, .ref (b + 193)), (3, .ref (b + 202)), (4, .int i)] → W p l e room_1 s m #[Value.ref bA] below meth c H locs (cells + 16) (slots + 96) Q (F0 m 2838 ls [])) : W p l e room_1 s m #[Value.ref bA] below meth c H locs cells slots Q (F0 m 795 ls []) := by
  have hta := fun w h => hts w (List.mem_cons_of_mem _ h)
  unfold g_7 at hf
  refine lv_aload_n hx hb dL_law_795 rfl (lv_at hl 1 rfl) ?_
  refine lv_aload_n hx hb dL_law_796 rfl (lv_at hl 0 rfl) ?_
  refine lv_iload hx hb dL_law_797 (lv_at hl 4 rfl) ?_
  refine lv_iconst (v := 1) hx hb dL_law_799 (by decide) ?_
  refine lv_iadd hx hb dL_law_800 ?_
  refine va_sld hx hb hX hbl hbA hS hi1 dL_law_801 ?_
  rw [hx1]
  refine lv_aload_n hx hb dL_law_802 rfl (lv_at hl 0 rfl) ?_
  refine lv_iload hx hb dL_law_803 (lv_at hl 4 rfl) ?_
  refine lv_iconst (v := 2) hx hb dL_law_805 (by decide) ?_
  refine lv_iadd hx hb dL_law_806 ?_
  refine va_sld hx hb hX hbl hbA hS hi2 dL_law_807 ?_
  rw [hx2]
  refine lv_aload_n hx hb dL_law_808 rfl (lv_at hl 0 rfl) ?_
  refine lv_iload hx hb dL_law_809 (lv_at hl 4 rfl) ?_
  refine lv_iconst (v := 3) hx hb dL_law_811 (by decide) ?_
  refine lv_iadd hx hb dL_law_812 ?_
  refine va_sld hx hb hX hbl hbA hS hi3 dL_law_813 ?_
  rw [hx3]
  refine lv_aload_n hx hb dL_law_814 rfl (lv_at hl 3 rfl) ?_
  obtain ⟨y2, σ1, u3, hf⟩ := b2_e hf
  refine mSH (n := 5) (As := [.ref (b + 0), .int a1, .int a2, .int a3, .ref (b + 202)]) (rest := []) (c_L_come l hfl D t b σ a1 a2 a3 y2 σ1 u3) hx hb hml hown hts hE hW hS q889 q890 q90 qw_L_come hs_L_come ⟨rfl, rfl⟩ ⟨Nat.le_of_ble_eq_true rfl, Nat.le_of_ble_eq_true rfl⟩ rfl rfl hl.1 (Nat.le_of_ble_eq_true rfl) ⟨by obtain ⟨hc1, hc2⟩ := hcl; omega, by obtain ⟨hc1, hc2⟩ := hcl; omega⟩ dL_law_815 (fun H locs hW hS => ?_)
  refine lv_istore (lv' := [(5, .int y2), (0, .ref bA), (1, .ref (b + 0)), (2, .ref (b + 193)), (3, .ref (b + 202)), (4, .int i)]) hx hb dL_law_818 hl (by decide) rfl (fun ls hl => ?_)
  refine lv_aload_n hx hb dL_law_820 rfl (lv_at hl 3 rfl) ?_
  refine lv_aload_n hx hb dL_law_821 rfl (lv_at hl 1 rfl) ?_
  refine lv_iload hx hb dL_law_822 (lv_at hl 5 rfl) ?_
  refine lv_iconst (v := 1) hx hb dL_law_824 (by decide) ?_
  refine lv_iadd hx hb dL_law_825 ?_
  refine va_sld hx hb hX hbl hbA hS hi1 dL_law_826 ?_
  rw [hx1]
  refine lv_aload_n hx hb dL_law_827 rfl (lv_at hl 1 rfl) ?_
  refine lv_iload hx hb dL_law_828 (lv_at hl 5 rfl) ?_
  refine lv_iconst (v := 2) hx hb dL_law_830 (by decide) ?_
  refine lv_iadd hx hb dL_law_831 ?_
  refine va_sld hx hb hX hbl hbA hS hi2 dL_law_832 ?_
  rw [hx2]
  refine lv_aload_n hx hb dL_law_833 rfl (lv_at hl 1 rfl) ?_
  refine lv_iload hx hb dL_law_834 (lv_at hl 5 rfl) ?_
  refine lv_iconst (v := 3) hx hb dL_law_836 (by decide) ?_
  refine lv_iadd hx hb dL_law_837 ?_
  refine va_sld hx hb hX hbl hbA hS hi3 dL_law_838 ?_
  rw [hx3]
  obtain ⟨y4, σ6, u5, hf⟩ := b2_e hf
  refine mV (k := 193) (q := (5, 0)) (C := RX5) (T := TX5) (N := 14) (ci := 5) (n := 3) (As := [.int a1, .int a2, .int a3]) (rest := []) (c_X5_come l D t b σ1 a1 a2 a3 y4 σ6 u5) sh_193 (by decide) rfl rfl hx hb hml hown hts hE hW hS q1333 q1334 q1335 q96 q1336 hy_X5_come ⟨rfl, rfl⟩ ⟨Nat.le_of_ble_eq_true rfl, Nat.le_of_ble_eq_true rfl⟩ rfl rfl hl.1 (Nat.le_of_ble_eq_true rfl) ⟨by obtain ⟨hc1, hc2⟩ := hcl; omega, by obtain ⟨hc1, hc2⟩ := hcl; omega⟩ dL_law_839 (fun H locs hW hS => ?_)
  refine lv_istore (lv' := [(6, .int y4), (5, .int y2), (0, .ref bA), (1, .ref (b + 0)), (2, .ref (b + 193)), (3, .ref (b + 202)), (4, .int i)]) hx hb dL_law_842 hl (by decide) rfl (fun ls hl => ?_)
  refine lv_aload_n hx hb dL_law_844 rfl (lv_at hl 4 rfl) ?_
  obtain ⟨y7, u8, hf⟩ := b1_e hf
  refine mV (k := 193) (q := (5, 0)) (C := RX5) (T := TX5) (N := 14) (ci := 5) (n := 0) (As := []) (rest := []) (c_X5_thrown l D t b σ6 y7 u8) sh_193 (by decide) rfl rfl hx hb hml hown hts hE hW hS q1224 q1225 q1226 q96 q1227 hy_X5_thrown ⟨rfl, rfl⟩ ⟨Nat.le_of_ble_eq_true rfl, Nat.le_of_ble_eq_true rfl⟩ rfl rfl hl.1 (Nat.le_of_ble_eq_true rfl) ⟨by obtain ⟨hc1, hc2⟩ := hcl; omega, by obtain ⟨hc1, hc2⟩ := hcl; omega⟩ dL_law_845 (fun H locs hW hS => ?_)
  refine lv_iload hx hb dL_law_848 (lv_at hl 1 rfl) ?_
  refine lv_icmp_eq (tgt := 855) hx hb dL_law_850 (by decide) (fun h9 => ?_) (fun h9 => ?_)
  · have hf := ifp h9 hf
    refine lv_iload hx hb dL_law_855 (lv_at hl 1 rfl) ?_
    refine lv_if_ne (tgt := 872) hx hb dL_law_857 (by decide) (fun h10 => ?_) (fun h10 => ?_)
    · have hf := ifn h10 hf
      refine lv_goto (tgt := 2838) hx hb dL_law_872 (by decide) ?_
      cases hf
      refine W.widen (k := cells + 16) (n := slots + 96) (by omega) (by omega) ?_
      exact kk _ _ _ hW hS (lv_sub hl [2, 3, 4, 5, 6] rfl)
    · have hf := ifp h10 hf
      refine lv_aload_n hx hb dL_law_860 rfl (lv_at hl 5 rfl) ?_
      refine lv_iconst (v := 0) hx hb dL_law_861 (by decide) ?_
      refine lald hx hb hE.1 hW sh_202 (vp_lit (by decide +kernel)) dL_law_862 ?_
      refine lv_iload hx hb dL_law_863 (lv_at hl 0 rfl) ?_
      refine lv_i2l hx hb dL_law_865 rfl ?_
      refine lcmp_if (tgt := 872) hx hb dL_law_866 dL_law_867 (by decide) (fun h11 => ?_) (fun h11 => ?_)
      · have hf := ifp h11 hf
        refine lv_goto (tgt := 2838) hx hb dL_law_872 (by decide) ?_
        cases hf
        refine W.widen (k := cells + 16) (n := slots + 96) (by omega) (by omega) ?_
        exact kk _ _ _ hW hS (lv_sub hl [2, 3, 4, 5, 6] rfl)
      · have hf := ifn h11 hf
        refine lv_iconst (v := 0) hx hb dL_law_870 (by decide) ?_
        cases hf
  · have hf := ifn h9 hf
    refine lv_iconst (v := 0) hx hb dL_law_853 (by decide) ?_
    cases hf
def g_8 (σ : Sg) (a1 a2 a3 a4 : Int32) : Option Sg := b2 (f_L_setRain σ a1 a2) fun y2 σ1 => b2 (f_X5_setRain σ1 a1 a2) fun y4 σ6 => b1 (f_X5_thrown σ6) fun y7 => if y7 = y2 then (if y2 = 0 then (if (σ6 202 (0 : Int32).toNatClampNeg) = y4 then (some σ6) else (none)) else (some σ6)) else (none)
set_option maxHeartbeats 4000000 in
set_option maxRecDepth 100000 in
theorem k_8 {p : Program} {l : Launch} {e : Env} {s : State} {m : MethodId} {below : List Frame} {meth : Method} {c : Code} {bA L : Nat} {xs : Nat → Int32} {D : va_G} {t : Nat → ClassId} {b : Nat} (hfl : l.stackTraces = false) (hx : p.tables.exec = Jvm.exec) (hb : c.code = cL_law) (hml : c.maxLocals = 7) (hown : s.vm.findClass RL = some m.cls) {c9 : Cond} (hts : ∀ w ∈ c9 :: ALL, w.before #[Value.ref bA] s = true) (hE : EV D t b s) (hX : va_X bA L xs s s.heap) (hbl : bA < s.heap.size) (hbA : ¬ geA b bA) {i a1 a2 a3 a4 : Int32} (hi1 : vp_in (i + 1) L) (hi2 : vp_in (i + 2) L) (hi3 : vp_in (i + 3) L) (hi4 : vp_in (i + 4) L) (hx1 : xs (i + 1).toNatClampNeg = a1) (hx2 : xs (i + 2).toNatClampNeg = a2) (hx3 : xs (i + 3).toNatClampNeg = a3) (hx4 : xs (i + 4).toNatClampNeg = a4) {H : Heap} {locs : List Loc} {ls : Array Slot} {cells slots : Nat} {Q : State → Prop} (hcl : cells + 16 ≤ room_1.cells ∧ slots + 96 ≤ room_1.slots) {σ σr : Sg} (hW : wd D t b σ H) (hS : va_S (geA b) s.heap H locs) (hl : lv_has ls 7 [(0, .ref bA), (1, .ref (b + 0)), (2, .ref (b + 193)), (3, .ref (b + 202)), (4, .int i)]) (hf : g_8 σ a1 a2 a3 a4 = some σr) (kk : ∀ (H : Heap) (locs : List Loc) (ls : Array Slot), wd D t b σr H → va_S (geA b) s.heap H locs → lv_has ls 7 [(0, .ref bA), (1, .ref (b + 0)), (2, .ref (b + 193)), (3, .ref (b + 202)), (4, .int i)] → W p l e room_1 s m #[Value.ref bA] below meth c H locs (cells + 16) (slots + 96) Q (F0 m 2838 ls [])) : W p l e room_1 s m #[Value.ref bA] below meth c H locs cells slots Q (F0 m 875 ls []) := by
  have hta := fun w h => hts w (List.mem_cons_of_mem _ h)
  unfold g_8 at hf
  refine lv_aload_n hx hb dL_law_875 rfl (lv_at hl 1 rfl) ?_
  refine lv_aload_n hx hb dL_law_876 rfl (lv_at hl 0 rfl) ?_
  refine lv_iload hx hb dL_law_877 (lv_at hl 4 rfl) ?_
  refine lv_iconst (v := 1) hx hb dL_law_879 (by decide) ?_
  refine lv_iadd hx hb dL_law_880 ?_
  refine va_sld hx hb hX hbl hbA hS hi1 dL_law_881 ?_
  rw [hx1]
  refine lv_aload_n hx hb dL_law_882 rfl (lv_at hl 0 rfl) ?_
  refine lv_iload hx hb dL_law_883 (lv_at hl 4 rfl) ?_
  refine lv_iconst (v := 2) hx hb dL_law_885 (by decide) ?_
  refine lv_iadd hx hb dL_law_886 ?_
  refine va_sld hx hb hX hbl hbA hS hi2 dL_law_887 ?_
  rw [hx2]
  refine lv_aload_n hx hb dL_law_888 rfl (lv_at hl 3 rfl) ?_
  obtain ⟨y2, σ1, u3, hf⟩ := b2_e hf
  refine mSH (n := 4) (As := [.ref (b + 0), .int a1, .int a2, .ref (b + 202)]) (rest := []) (c_L_setRain l hfl D t b σ a1 a2 y2 σ1 u3) hx hb hml hown hts hE hW hS q900 q901 q90 qw_L_setRain hs_L_setRain ⟨rfl, rfl⟩ ⟨Nat.le_of_ble_eq_true rfl, Nat.le_of_ble_eq_true rfl⟩ rfl rfl hl.1 (Nat.le_of_ble_eq_true rfl) ⟨by obtain ⟨hc1, hc2⟩ := hcl; omega, by obtain ⟨hc1, hc2⟩ := hcl; omega⟩ dL_law_889 (fun H locs hW hS => ?_)
  refine lv_istore (lv' := [(5, .int y2), (0, .ref bA), (1, .ref (b + 0)), (2, .ref (b + 193)), (3, .ref (b + 202)), (4, .int i)]) hx hb dL_law_892 hl (by decide) rfl (fun ls hl => ?_)
  refine lv_aload_n hx hb dL_law_894 rfl (lv_at hl 3 rfl) ?_
  refine lv_aload_n hx hb dL_law_895 rfl (lv_at hl 1 rfl) ?_
  refine lv_iload hx hb dL_law_896 (lv_at hl 5 rfl) ?_
  refine lv_iconst (v := 1) hx hb dL_law_898 (by decide) ?_
  refine lv_iadd hx hb dL_law_899 ?_
  refine va_sld hx hb hX hbl hbA hS hi1 dL_law_900 ?_
  rw [hx1]
  refine lv_aload_n hx hb dL_law_901 rfl (lv_at hl 1 rfl) ?_
  refine lv_iload hx hb dL_law_902 (lv_at hl 5 rfl) ?_
  refine lv_iconst (v := 2) hx hb dL_law_904 (by decide) ?_
  refine lv_iadd hx hb dL_law_905 ?_
  refine va_sld hx hb hX hbl hbA hS hi2 dL_law_906 ?_
  rw [hx2]
  obtain ⟨y4, σ6, u5, hf⟩ := b2_e hf
  refine mV (k := 193) (q := (5, 0)) (C := RX5) (T := TX5) (N := 14) (ci := 5) (n := 2) (As := [.int a1, .int a2]) (rest := []) (c_X5_setRain l D t b σ1 a1 a2 y4 σ6 u5) sh_193 (by decide) rfl rfl hx hb hml hown hts hE hW hS q1365 q1366 q1367 q96 q1368 hy_X5_setRain ⟨rfl, rfl⟩ ⟨Nat.le_of_ble_eq_true rfl, Nat.le_of_ble_eq_true rfl⟩ rfl rfl hl.1 (Nat.le_of_ble_eq_true rfl) ⟨by obtain ⟨hc1, hc2⟩ := hcl; omega, by obtain ⟨hc1, hc2⟩ := hcl; omega⟩ dL_law_907 (fun H locs hW hS => ?_)
  refine lv_istore (lv' := [(6, .int y4), (5, .int y2), (0, .ref bA), (1, .ref (b + 0)), (2, .ref (b + 193)), (3, .ref (b + 202)), (4, .int i)]) hx hb dL_law_910 hl (by decide) rfl (fun ls hl => ?_)
  refine lv_aload_n hx hb dL_law_912 rfl (lv_at hl 4 rfl) ?_
  obtain ⟨y7, u8, hf⟩ := b1_e hf
  refine mV (k := 193) (q := (5, 0)) (C := RX5) (T := TX5) (N := 14) (ci := 5) (n := 0) (As := []) (rest := []) (c_X5_thrown l D t b σ6 y7 u8) sh_193 (by decide) rfl rfl hx hb hml hown hts hE hW hS q1224 q1225 q1226 q96 q1227 hy_X5_thrown ⟨rfl, rfl⟩ ⟨Nat.le_of_ble_eq_true rfl, Nat.le_of_ble_eq_true rfl⟩ rfl rfl hl.1 (Nat.le_of_ble_eq_true rfl) ⟨by obtain ⟨hc1, hc2⟩ := hcl; omega, by obtain ⟨hc1, hc2⟩ := hcl; omega⟩ dL_law_913 (fun H locs hW hS => ?_)
  refine lv_iload hx hb dL_law_916 (lv_at hl 1 rfl) ?_
  refine lv_icmp_eq (tgt := 923) hx hb dL_law_918 (by decide) (fun h9 => ?_) (fun h9 => ?_)
  · have hf := ifp h9 hf
    refine lv_iload hx hb dL_law_923 (lv_at hl 1 rfl) ?_
    refine lv_if_ne (tgt := 940) hx hb dL_law_925 (by decide) (fun h10 => ?_) (fun h10 => ?_)
    · have hf := ifn h10 hf
      refine lv_goto (tgt := 2838) hx hb dL_law_940 (by decide) ?_
      cases hf
      refine W.widen (k := cells + 16) (n := slots + 96) (by omega) (by omega) ?_
      exact kk _ _ _ hW hS (lv_sub hl [2, 3, 4, 5, 6] rfl)
    · have hf := ifp h10 hf
      refine lv_aload_n hx hb dL_law_928 rfl (lv_at hl 5 rfl) ?_
      refine lv_iconst (v := 0) hx hb dL_law_929 (by decide) ?_
      refine lald hx hb hE.1 hW sh_202 (vp_lit (by decide +kernel)) dL_law_930 ?_
      refine lv_iload hx hb dL_law_931 (lv_at hl 0 rfl) ?_
      refine lv_i2l hx hb dL_law_933 rfl ?_
      refine lcmp_if (tgt := 940) hx hb dL_law_934 dL_law_935 (by decide) (fun h11 => ?_) (fun h11 => ?_)
      · have hf := ifp h11 hf
        refine lv_goto (tgt := 2838) hx hb dL_law_940 (by decide) ?_
        cases hf
        refine W.widen (k := cells + 16) (n := slots + 96) (by omega) (by omega) ?_
        exact kk _ _ _ hW hS (lv_sub hl [2, 3, 4, 5, 6] rfl)
      · have hf := ifn h11 hf
        refine lv_iconst (v := 0) hx hb dL_law_938 (by decide) ?_
        cases hf
  · have hf := ifn h9 hf
    refine lv_iconst (v := 0) hx hb dL_law_921 (by decide) ?_
    cases hf
def g_9 (σ : Sg) (a1 a2 a3 a4 : Int32) : Option Sg := b2 (f_L_pass σ a1) fun y2 σ1 => b2 (f_X5_pass σ1 a1) fun y4 σ6 => b1 (f_X5_thrown σ6) fun y7 => if y7 = y2 then (if y2 = 0 then (if (σ6 202 (0 : Int32).toNatClampNeg) = y4 then (some σ6) else (none)) else (some σ6)) else (none)
set_option maxHeartbeats 4000000 in
set_option maxRecDepth 100000 in
theorem k_9 {p : Program} {l : Launch} {e : Env} {s : State} {m : MethodId} {below : List Frame} {meth : Method} {c : Code} {bA L : Nat} {xs : Nat → Int32} {D : va_G} {t : Nat → ClassId} {b : Nat} (hfl : l.stackTraces = false) (hx : p.tables.exec = Jvm.exec) (hb : c.code = cL_law) (hml : c.maxLocals = 7) (hown : s.vm.findClass RL = some m.cls) {c9 : Cond} (hts : ∀ w ∈ c9 :: ALL, w.before #[Value.ref bA] s = true) (hE : EV D t b s) (hX : va_X bA L xs s s.heap) (hbl : bA < s.heap.size) (hbA : ¬ geA b bA) {i a1 a2 a3 a4 : Int32} (hi1 : vp_in (i + 1) L) (hi2 : vp_in (i + 2) L) (hi3 : vp_in (i + 3) L) (hi4 : vp_in (i + 4) L) (hx1 : xs (i + 1).toNatClampNeg = a1) (hx2 : xs (i + 2).toNatClampNeg = a2) (hx3 : xs (i + 3).toNatClampNeg = a3) (hx4 : xs (i + 4).toNatClampNeg = a4) {H : Heap} {locs : List Loc} {ls : Array Slot} {cells slots : Nat} {Q : State → Prop} (hcl : cells + 16 ≤ room_1.cells ∧ slots + 96 ≤ room_1.slots) {σ σr : Sg} (hW : wd D t b σ H) (hS : va_S (geA b) s.heap H locs) (hl : lv_has ls 7 [(0, .ref bA), (1, .ref (b + 0)), (2, .ref (b + 193)), (3, .ref (b + 202)), (4, .int i)]) (hf : g_9 σ a1 a2 a3 a4 = some σr) (kk : ∀ (H : Heap) (locs : List Loc) (ls : Array Slot), wd D t b σr H → va_S (geA b) s.heap H locs → lv_has ls 7 [(0, .ref bA), (1, .ref (b + 0)), (2, .ref (b + 193)), (3, .ref (b + 202)), (4, .int i)] → W p l e room_1 s m #[Value.ref bA] below meth c H locs (cells + 16) (slots + 96) Q (F0 m 2838 ls [])) : W p l e room_1 s m #[Value.ref bA] below meth c H locs cells slots Q (F0 m 943 ls []) := by
  have hta := fun w h => hts w (List.mem_cons_of_mem _ h)
  unfold g_9 at hf
  refine lv_aload_n hx hb dL_law_943 rfl (lv_at hl 1 rfl) ?_
  refine lv_aload_n hx hb dL_law_944 rfl (lv_at hl 0 rfl) ?_
  refine lv_iload hx hb dL_law_945 (lv_at hl 4 rfl) ?_
  refine lv_iconst (v := 1) hx hb dL_law_947 (by decide) ?_
  refine lv_iadd hx hb dL_law_948 ?_
  refine va_sld hx hb hX hbl hbA hS hi1 dL_law_949 ?_
  rw [hx1]
  refine lv_aload_n hx hb dL_law_950 rfl (lv_at hl 3 rfl) ?_
  obtain ⟨y2, σ1, u3, hf⟩ := b2_e hf
  refine mSH (n := 3) (As := [.ref (b + 0), .int a1, .ref (b + 202)]) (rest := []) (c_L_pass l hfl D t b σ a1 y2 σ1 u3) hx hb hml hown hts hE hW hS q913 q914 q90 qw_L_pass hs_L_pass ⟨rfl, rfl⟩ ⟨Nat.le_of_ble_eq_true rfl, Nat.le_of_ble_eq_true rfl⟩ rfl rfl hl.1 (Nat.le_of_ble_eq_true rfl) ⟨by obtain ⟨hc1, hc2⟩ := hcl; omega, by obtain ⟨hc1, hc2⟩ := hcl; omega⟩ dL_law_951 (fun H locs hW hS => ?_)
  refine lv_istore (lv' := [(5, .int y2), (0, .ref bA), (1, .ref (b + 0)), (2, .ref (b + 193)), (3, .ref (b + 202)), (4, .int i)]) hx hb dL_law_954 hl (by decide) rfl (fun ls hl => ?_)
  refine lv_aload_n hx hb dL_law_956 rfl (lv_at hl 3 rfl) ?_
  refine lv_aload_n hx hb dL_law_957 rfl (lv_at hl 1 rfl) ?_
  refine lv_iload hx hb dL_law_958 (lv_at hl 5 rfl) ?_
  refine lv_iconst (v := 1) hx hb dL_law_960 (by decide) ?_
  refine lv_iadd hx hb dL_law_961 ?_
  refine va_sld hx hb hX hbl hbA hS hi1 dL_law_962 ?_
  rw [hx1]
  obtain ⟨y4, σ6, u5, hf⟩ := b2_e hf
  refine mV (k := 193) (q := (5, 0)) (C := RX5) (T := TX5) (N := 14) (ci := 5) (n := 1) (As := [.int a1]) (rest := []) (c_X5_pass l D t b σ1 a1 y4 σ6 u5) sh_193 (by decide) rfl rfl hx hb hml hown hts hE hW hS q1376 q1377 q1378 q96 q1379 hy_X5_pass ⟨rfl, rfl⟩ ⟨Nat.le_of_ble_eq_true rfl, Nat.le_of_ble_eq_true rfl⟩ rfl rfl hl.1 (Nat.le_of_ble_eq_true rfl) ⟨by obtain ⟨hc1, hc2⟩ := hcl; omega, by obtain ⟨hc1, hc2⟩ := hcl; omega⟩ dL_law_963 (fun H locs hW hS => ?_)
  refine lv_istore (lv' := [(6, .int y4), (5, .int y2), (0, .ref bA), (1, .ref (b + 0)), (2, .ref (b + 193)), (3, .ref (b + 202)), (4, .int i)]) hx hb dL_law_966 hl (by decide) rfl (fun ls hl => ?_)
  refine lv_aload_n hx hb dL_law_968 rfl (lv_at hl 4 rfl) ?_
  obtain ⟨y7, u8, hf⟩ := b1_e hf
  refine mV (k := 193) (q := (5, 0)) (C := RX5) (T := TX5) (N := 14) (ci := 5) (n := 0) (As := []) (rest := []) (c_X5_thrown l D t b σ6 y7 u8) sh_193 (by decide) rfl rfl hx hb hml hown hts hE hW hS q1224 q1225 q1226 q96 q1227 hy_X5_thrown ⟨rfl, rfl⟩ ⟨Nat.le_of_ble_eq_true rfl, Nat.le_of_ble_eq_true rfl⟩ rfl rfl hl.1 (Nat.le_of_ble_eq_true rfl) ⟨by obtain ⟨hc1, hc2⟩ := hcl; omega, by obtain ⟨hc1, hc2⟩ := hcl; omega⟩ dL_law_969 (fun H locs hW hS => ?_)
  refine lv_iload hx hb dL_law_972 (lv_at hl 1 rfl) ?_
  refine lv_icmp_eq (tgt := 979) hx hb dL_law_974 (by decide) (fun h9 => ?_) (fun h9 => ?_)
  · have hf := ifp h9 hf
    refine lv_iload hx hb dL_law_979 (lv_at hl 1 rfl) ?_
    refine lv_if_ne (tgt := 996) hx hb dL_law_981 (by decide) (fun h10 => ?_) (fun h10 => ?_)
    · have hf := ifn h10 hf
      refine lv_goto (tgt := 2838) hx hb dL_law_996 (by decide) ?_
      cases hf
      refine W.widen (k := cells + 16) (n := slots + 96) (by omega) (by omega) ?_
      exact kk _ _ _ hW hS (lv_sub hl [2, 3, 4, 5, 6] rfl)
    · have hf := ifp h10 hf
      refine lv_aload_n hx hb dL_law_984 rfl (lv_at hl 5 rfl) ?_
      refine lv_iconst (v := 0) hx hb dL_law_985 (by decide) ?_
      refine lald hx hb hE.1 hW sh_202 (vp_lit (by decide +kernel)) dL_law_986 ?_
      refine lv_iload hx hb dL_law_987 (lv_at hl 0 rfl) ?_
      refine lv_i2l hx hb dL_law_989 rfl ?_
      refine lcmp_if (tgt := 996) hx hb dL_law_990 dL_law_991 (by decide) (fun h11 => ?_) (fun h11 => ?_)
      · have hf := ifp h11 hf
        refine lv_goto (tgt := 2838) hx hb dL_law_996 (by decide) ?_
        cases hf
        refine W.widen (k := cells + 16) (n := slots + 96) (by omega) (by omega) ?_
        exact kk _ _ _ hW hS (lv_sub hl [2, 3, 4, 5, 6] rfl)
      · have hf := ifn h11 hf
        refine lv_iconst (v := 0) hx hb dL_law_994 (by decide) ?_
        cases hf
  · have hf := ifn h9 hf
    refine lv_iconst (v := 0) hx hb dL_law_977 (by decide) ?_
    cases hf
def g_10 (σ : Sg) (a1 a2 a3 a4 : Int32) : Option Sg := b2 (f_L_type σ (a1.toUInt32 % 65536).toInt32) fun y2 σ1 => b2 (f_X5_type σ1 (a1.toUInt32 % 65536).toInt32) fun y4 σ6 => b1 (f_X5_thrown σ6) fun y7 => if y7 = y2 then (if y2 = 0 then (if (σ6 202 (0 : Int32).toNatClampNeg) = y4 then (some σ6) else (none)) else (some σ6)) else (none)
set_option maxHeartbeats 4000000 in
set_option maxRecDepth 100000 in
theorem k_10 {p : Program} {l : Launch} {e : Env} {s : State} {m : MethodId} {below : List Frame} {meth : Method} {c : Code} {bA L : Nat} {xs : Nat → Int32} {D : va_G} {t : Nat → ClassId} {b : Nat} (hfl : l.stackTraces = false) (hx : p.tables.exec = Jvm.exec) (hb : c.code = cL_law) (hml : c.maxLocals = 7) (hown : s.vm.findClass RL = some m.cls) {c9 : Cond} (hts : ∀ w ∈ c9 :: ALL, w.before #[Value.ref bA] s = true) (hE : EV D t b s) (hX : va_X bA L xs s s.heap) (hbl : bA < s.heap.size) (hbA : ¬ geA b bA) {i a1 a2 a3 a4 : Int32} (hi1 : vp_in (i + 1) L) (hi2 : vp_in (i + 2) L) (hi3 : vp_in (i + 3) L) (hi4 : vp_in (i + 4) L) (hx1 : xs (i + 1).toNatClampNeg = a1) (hx2 : xs (i + 2).toNatClampNeg = a2) (hx3 : xs (i + 3).toNatClampNeg = a3) (hx4 : xs (i + 4).toNatClampNeg = a4) {H : Heap} {locs : List Loc} {ls : Array Slot} {cells slots : Nat} {Q : State → Prop} (hcl : cells + 16 ≤ room_1.cells ∧ slots + 96 ≤ room_1.slots) {σ σr : Sg} (hW : wd D t b σ H) (hS : va_S (geA b) s.heap H locs) (hl : lv_has ls 7 [(0, .ref bA), (1, .ref (b + 0)), (2, .ref (b + 193)), (3, .ref (b + 202)), (4, .int i)]) (hf : g_10 σ a1 a2 a3 a4 = some σr) (kk : ∀ (H : Heap) (locs : List Loc) (ls : Array Slot), wd D t b σr H → va_S (geA b) s.heap H locs → lv_has ls 7 [(0, .ref bA), (1, .ref (b + 0)), (2, .ref (b + 193)), (3, .ref (b + 202)), (4, .int i)] → W p l e room_1 s m #[Value.ref bA] below meth c H locs (cells + 16) (slots + 96) Q (F0 m 2838 ls [])) : W p l e room_1 s m #[Value.ref bA] below meth c H locs cells slots Q (F0 m 999 ls []) := by
  have hta := fun w h => hts w (List.mem_cons_of_mem _ h)
  unfold g_10 at hf
  refine lv_aload_n hx hb dL_law_999 rfl (lv_at hl 1 rfl) ?_
  refine lv_aload_n hx hb dL_law_1000 rfl (lv_at hl 0 rfl) ?_
  refine lv_iload hx hb dL_law_1001 (lv_at hl 4 rfl) ?_
  refine lv_iconst (v := 1) hx hb dL_law_1003 (by decide) ?_
  refine lv_iadd hx hb dL_law_1004 ?_
  refine va_sld hx hb hX hbl hbA hS hi1 dL_law_1005 ?_
  rw [hx1]
  refine lv_i2c hx hb dL_law_1006 rfl ?_
  refine lv_aload_n hx hb dL_law_1007 rfl (lv_at hl 3 rfl) ?_
  obtain ⟨y2, σ1, u3, hf⟩ := b2_e hf
  refine mSH (n := 3) (As := [.ref (b + 0), .int (a1.toUInt32 % 65536).toInt32, .ref (b + 202)]) (rest := []) (c_L_type l hfl D t b σ (a1.toUInt32 % 65536).toInt32 y2 σ1 u3) hx hb hml hown hts hE hW hS q926 q927 q90 qw_L_type hs_L_type ⟨rfl, rfl⟩ ⟨Nat.le_of_ble_eq_true rfl, Nat.le_of_ble_eq_true rfl⟩ rfl rfl hl.1 (Nat.le_of_ble_eq_true rfl) ⟨by obtain ⟨hc1, hc2⟩ := hcl; omega, by obtain ⟨hc1, hc2⟩ := hcl; omega⟩ dL_law_1008 (fun H locs hW hS => ?_)
  refine lv_istore (lv' := [(5, .int y2), (0, .ref bA), (1, .ref (b + 0)), (2, .ref (b + 193)), (3, .ref (b + 202)), (4, .int i)]) hx hb dL_law_1011 hl (by decide) rfl (fun ls hl => ?_)
  refine lv_aload_n hx hb dL_law_1013 rfl (lv_at hl 3 rfl) ?_
  refine lv_aload_n hx hb dL_law_1014 rfl (lv_at hl 1 rfl) ?_
  refine lv_iload hx hb dL_law_1015 (lv_at hl 5 rfl) ?_
  refine lv_iconst (v := 1) hx hb dL_law_1017 (by decide) ?_
  refine lv_iadd hx hb dL_law_1018 ?_
  refine va_sld hx hb hX hbl hbA hS hi1 dL_law_1019 ?_
  rw [hx1]
  refine lv_i2c hx hb dL_law_1020 rfl ?_
  obtain ⟨y4, σ6, u5, hf⟩ := b2_e hf
  refine mV (k := 193) (q := (5, 0)) (C := RX5) (T := TX5) (N := 14) (ci := 5) (n := 1) (As := [.int (a1.toUInt32 % 65536).toInt32]) (rest := []) (c_X5_type l D t b σ1 (a1.toUInt32 % 65536).toInt32 y4 σ6 u5) sh_193 (by decide) rfl rfl hx hb hml hown hts hE hW hS q1460 q1461 q1462 q96 q1463 hy_X5_type ⟨rfl, rfl⟩ ⟨Nat.le_of_ble_eq_true rfl, Nat.le_of_ble_eq_true rfl⟩ rfl rfl hl.1 (Nat.le_of_ble_eq_true rfl) ⟨by obtain ⟨hc1, hc2⟩ := hcl; omega, by obtain ⟨hc1, hc2⟩ := hcl; omega⟩ dL_law_1021 (fun H locs hW hS => ?_)
  refine lv_istore (lv' := [(6, .int y4), (5, .int y2), (0, .ref bA), (1, .ref (b + 0)), (2, .ref (b + 193)), (3, .ref (b + 202)), (4, .int i)]) hx hb dL_law_1024 hl (by decide) rfl (fun ls hl => ?_)
  refine lv_aload_n hx hb dL_law_1026 rfl (lv_at hl 4 rfl) ?_
  obtain ⟨y7, u8, hf⟩ := b1_e hf
  refine mV (k := 193) (q := (5, 0)) (C := RX5) (T := TX5) (N := 14) (ci := 5) (n := 0) (As := []) (rest := []) (c_X5_thrown l D t b σ6 y7 u8) sh_193 (by decide) rfl rfl hx hb hml hown hts hE hW hS q1224 q1225 q1226 q96 q1227 hy_X5_thrown ⟨rfl, rfl⟩ ⟨Nat.le_of_ble_eq_true rfl, Nat.le_of_ble_eq_true rfl⟩ rfl rfl hl.1 (Nat.le_of_ble_eq_true rfl) ⟨by obtain ⟨hc1, hc2⟩ := hcl; omega, by obtain ⟨hc1, hc2⟩ := hcl; omega⟩ dL_law_1027 (fun H locs hW hS => ?_)
  refine lv_iload hx hb dL_law_1030 (lv_at hl 1 rfl) ?_
  refine lv_icmp_eq (tgt := 1037) hx hb dL_law_1032 (by decide) (fun h9 => ?_) (fun h9 => ?_)
  · have hf := ifp h9 hf
    refine lv_iload hx hb dL_law_1037 (lv_at hl 1 rfl) ?_
    refine lv_if_ne (tgt := 1054) hx hb dL_law_1039 (by decide) (fun h10 => ?_) (fun h10 => ?_)
    · have hf := ifn h10 hf
      refine lv_goto (tgt := 2838) hx hb dL_law_1054 (by decide) ?_
      cases hf
      refine W.widen (k := cells + 16) (n := slots + 96) (by omega) (by omega) ?_
      exact kk _ _ _ hW hS (lv_sub hl [2, 3, 4, 5, 6] rfl)
    · have hf := ifp h10 hf
      refine lv_aload_n hx hb dL_law_1042 rfl (lv_at hl 5 rfl) ?_
      refine lv_iconst (v := 0) hx hb dL_law_1043 (by decide) ?_
      refine lald hx hb hE.1 hW sh_202 (vp_lit (by decide +kernel)) dL_law_1044 ?_
      refine lv_iload hx hb dL_law_1045 (lv_at hl 0 rfl) ?_
      refine lv_i2l hx hb dL_law_1047 rfl ?_
      refine lcmp_if (tgt := 1054) hx hb dL_law_1048 dL_law_1049 (by decide) (fun h11 => ?_) (fun h11 => ?_)
      · have hf := ifp h11 hf
        refine lv_goto (tgt := 2838) hx hb dL_law_1054 (by decide) ?_
        cases hf
        refine W.widen (k := cells + 16) (n := slots + 96) (by omega) (by omega) ?_
        exact kk _ _ _ hW hS (lv_sub hl [2, 3, 4, 5, 6] rfl)
      · have hf := ifn h11 hf
        refine lv_iconst (v := 0) hx hb dL_law_1052 (by decide) ?_
        cases hf
  · have hf := ifn h9 hf
    refine lv_iconst (v := 0) hx hb dL_law_1035 (by decide) ?_
    cases hf
def g_11 (σ : Sg) (a1 a2 a3 a4 : Int32) : Option Sg := b2 (f_X4_clearText σ) fun y1 σ3 => b2 (f_X5_clearText σ3) fun y4 σ6 => if y1 = y4 then (some σ6) else (none)
set_option maxHeartbeats 4000000 in
set_option maxRecDepth 100000 in
theorem k_11 {p : Program} {l : Launch} {e : Env} {s : State} {m : MethodId} {below : List Frame} {meth : Method} {c : Code} {bA L : Nat} {xs : Nat → Int32} {D : va_G} {t : Nat → ClassId} {b : Nat} (hfl : l.stackTraces = false) (hx : p.tables.exec = Jvm.exec) (hb : c.code = cL_law) (hml : c.maxLocals = 7) (hown : s.vm.findClass RL = some m.cls) {c9 : Cond} (hts : ∀ w ∈ c9 :: ALL, w.before #[Value.ref bA] s = true) (hE : EV D t b s) (hX : va_X bA L xs s s.heap) (hbl : bA < s.heap.size) (hbA : ¬ geA b bA) {i a1 a2 a3 a4 : Int32} (hi1 : vp_in (i + 1) L) (hi2 : vp_in (i + 2) L) (hi3 : vp_in (i + 3) L) (hi4 : vp_in (i + 4) L) (hx1 : xs (i + 1).toNatClampNeg = a1) (hx2 : xs (i + 2).toNatClampNeg = a2) (hx3 : xs (i + 3).toNatClampNeg = a3) (hx4 : xs (i + 4).toNatClampNeg = a4) {H : Heap} {locs : List Loc} {ls : Array Slot} {cells slots : Nat} {Q : State → Prop} (hcl : cells + 16 ≤ room_1.cells ∧ slots + 96 ≤ room_1.slots) {σ σr : Sg} (hW : wd D t b σ H) (hS : va_S (geA b) s.heap H locs) (hl : lv_has ls 7 [(0, .ref bA), (1, .ref (b + 0)), (2, .ref (b + 193)), (3, .ref (b + 202)), (4, .int i)]) (hf : g_11 σ a1 a2 a3 a4 = some σr) (kk : ∀ (H : Heap) (locs : List Loc) (ls : Array Slot), wd D t b σr H → va_S (geA b) s.heap H locs → lv_has ls 7 [(0, .ref bA), (1, .ref (b + 0)), (2, .ref (b + 193)), (3, .ref (b + 202)), (4, .int i)] → W p l e room_1 s m #[Value.ref bA] below meth c H locs (cells + 16) (slots + 96) Q (F0 m 2838 ls [])) : W p l e room_1 s m #[Value.ref bA] below meth c H locs cells slots Q (F0 m 1057 ls []) := by
  have hta := fun w h => hts w (List.mem_cons_of_mem _ h)
  unfold g_11 at hf
  refine lv_aload_n hx hb dL_law_1057 rfl (lv_at hl 1 rfl) ?_
  obtain ⟨y1, σ3, u2, hf⟩ := b2_e hf
  refine mV (k := 0) (q := (0, 0)) (C := RX4) (T := TX4) (N := 8) (ci := 4) (n := 0) (As := []) (rest := []) (c_X4_clearText l D t b σ y1 σ3 u2) sh_0 (by decide) rfl rfl hx hb hml hown hts hE hW hS q357 q358 q359 q91 q360 hy_X4_clearText ⟨rfl, rfl⟩ ⟨Nat.le_of_ble_eq_true rfl, Nat.le_of_ble_eq_true rfl⟩ rfl rfl hl.1 (Nat.le_of_ble_eq_true rfl) ⟨by obtain ⟨hc1, hc2⟩ := hcl; omega, by obtain ⟨hc1, hc2⟩ := hcl; omega⟩ dL_law_1058 (fun H locs hW hS => ?_)
  refine lv_aload_n hx hb dL_law_1061 rfl (lv_at hl 2 rfl) ?_
  obtain ⟨y4, σ6, u5, hf⟩ := b2_e hf
  refine mV (k := 193) (q := (5, 0)) (C := RX5) (T := TX5) (N := 14) (ci := 5) (n := 0) (As := []) (rest := [.int y1]) (c_X5_clearText l D t b σ3 y4 σ6 u5) sh_193 (by decide) rfl rfl hx hb hml hown hts hE hW hS q1464 q1465 q1466 q96 q1467 hy_X5_clearText ⟨rfl, rfl⟩ ⟨Nat.le_of_ble_eq_true rfl, Nat.le_of_ble_eq_true rfl⟩ rfl rfl hl.1 (Nat.le_of_ble_eq_true rfl) ⟨by obtain ⟨hc1, hc2⟩ := hcl; omega, by obtain ⟨hc1, hc2⟩ := hcl; omega⟩ dL_law_1062 (fun H locs hW hS => ?_)
  refine lv_icmp_eq (tgt := 2838) hx hb dL_law_1065 (by decide) (fun h7 => ?_) (fun h7 => ?_)
  · have hf := ifp h7 hf
    cases hf
    refine W.widen (k := cells + 16) (n := slots + 96) (by omega) (by omega) ?_
    exact kk _ _ _ hW hS (lv_sub hl [0, 1, 2, 3, 4] rfl)
  · have hf := ifn h7 hf
    refine lv_iconst (v := 0) hx hb dL_law_1068 (by decide) ?_
    cases hf
def g_12 (σ : Sg) (a1 a2 a3 a4 : Int32) : Option Sg := b2 (f_X4_textError σ) fun y1 σ3 => b2 (f_X5_textError σ3) fun y4 σ6 => if y1 = y4 then (some σ6) else (none)
set_option maxHeartbeats 4000000 in
set_option maxRecDepth 100000 in
theorem k_12 {p : Program} {l : Launch} {e : Env} {s : State} {m : MethodId} {below : List Frame} {meth : Method} {c : Code} {bA L : Nat} {xs : Nat → Int32} {D : va_G} {t : Nat → ClassId} {b : Nat} (hfl : l.stackTraces = false) (hx : p.tables.exec = Jvm.exec) (hb : c.code = cL_law) (hml : c.maxLocals = 7) (hown : s.vm.findClass RL = some m.cls) {c9 : Cond} (hts : ∀ w ∈ c9 :: ALL, w.before #[Value.ref bA] s = true) (hE : EV D t b s) (hX : va_X bA L xs s s.heap) (hbl : bA < s.heap.size) (hbA : ¬ geA b bA) {i a1 a2 a3 a4 : Int32} (hi1 : vp_in (i + 1) L) (hi2 : vp_in (i + 2) L) (hi3 : vp_in (i + 3) L) (hi4 : vp_in (i + 4) L) (hx1 : xs (i + 1).toNatClampNeg = a1) (hx2 : xs (i + 2).toNatClampNeg = a2) (hx3 : xs (i + 3).toNatClampNeg = a3) (hx4 : xs (i + 4).toNatClampNeg = a4) {H : Heap} {locs : List Loc} {ls : Array Slot} {cells slots : Nat} {Q : State → Prop} (hcl : cells + 16 ≤ room_1.cells ∧ slots + 96 ≤ room_1.slots) {σ σr : Sg} (hW : wd D t b σ H) (hS : va_S (geA b) s.heap H locs) (hl : lv_has ls 7 [(0, .ref bA), (1, .ref (b + 0)), (2, .ref (b + 193)), (3, .ref (b + 202)), (4, .int i)]) (hf : g_12 σ a1 a2 a3 a4 = some σr) (kk : ∀ (H : Heap) (locs : List Loc) (ls : Array Slot), wd D t b σr H → va_S (geA b) s.heap H locs → lv_has ls 7 [(0, .ref bA), (1, .ref (b + 0)), (2, .ref (b + 193)), (3, .ref (b + 202)), (4, .int i)] → W p l e room_1 s m #[Value.ref bA] below meth c H locs (cells + 16) (slots + 96) Q (F0 m 2838 ls [])) : W p l e room_1 s m #[Value.ref bA] below meth c H locs cells slots Q (F0 m 1070 ls []) := by
  have hta := fun w h => hts w (List.mem_cons_of_mem _ h)
  unfold g_12 at hf
  refine lv_aload_n hx hb dL_law_1070 rfl (lv_at hl 1 rfl) ?_
  obtain ⟨y1, σ3, u2, hf⟩ := b2_e hf
  refine mV (k := 0) (q := (0, 0)) (C := RX4) (T := TX4) (N := 8) (ci := 4) (n := 0) (As := []) (rest := []) (c_X4_textError l D t b σ y1 σ3 u2) sh_0 (by decide) rfl rfl hx hb hml hown hts hE hW hS q361 q362 q363 q91 q364 hy_X4_textError ⟨rfl, rfl⟩ ⟨Nat.le_of_ble_eq_true rfl, Nat.le_of_ble_eq_true rfl⟩ rfl rfl hl.1 (Nat.le_of_ble_eq_true rfl) ⟨by obtain ⟨hc1, hc2⟩ := hcl; omega, by obtain ⟨hc1, hc2⟩ := hcl; omega⟩ dL_law_1071 (fun H locs hW hS => ?_)
  refine lv_aload_n hx hb dL_law_1074 rfl (lv_at hl 2 rfl) ?_
  obtain ⟨y4, σ6, u5, hf⟩ := b2_e hf
  refine mV (k := 193) (q := (5, 0)) (C := RX5) (T := TX5) (N := 14) (ci := 5) (n := 0) (As := []) (rest := [.int y1]) (c_X5_textError l D t b σ3 y4 σ6 u5) sh_193 (by decide) rfl rfl hx hb hml hown hts hE hW hS q1468 q1469 q1470 q96 q1471 hy_X5_textError ⟨rfl, rfl⟩ ⟨Nat.le_of_ble_eq_true rfl, Nat.le_of_ble_eq_true rfl⟩ rfl rfl hl.1 (Nat.le_of_ble_eq_true rfl) ⟨by obtain ⟨hc1, hc2⟩ := hcl; omega, by obtain ⟨hc1, hc2⟩ := hcl; omega⟩ dL_law_1075 (fun H locs hW hS => ?_)
  refine lv_icmp_eq (tgt := 2838) hx hb dL_law_1078 (by decide) (fun h7 => ?_) (fun h7 => ?_)
  · have hf := ifp h7 hf
    cases hf
    refine W.widen (k := cells + 16) (n := slots + 96) (by omega) (by omega) ?_
    exact kk _ _ _ hW hS (lv_sub hl [0, 1, 2, 3, 4] rfl)
  · have hf := ifn h7 hf
    refine lv_iconst (v := 0) hx hb dL_law_1081 (by decide) ?_
    cases hf
def g_13 (σ : Sg) (a1 a2 a3 a4 : Int32) : Option Sg := b2 (f_L_impossibleOrder σ) fun y2 σ1 => b2 (f_X5_impossibleOrder σ1) fun y4 σ6 => b1 (f_X5_thrown σ6) fun y7 => if y7 = y2 then (if y2 = 0 then (if (σ6 202 (0 : Int32).toNatClampNeg) = y4 then (some σ6) else (none)) else (some σ6)) else (none)
set_option maxHeartbeats 4000000 in
set_option maxRecDepth 100000 in
theorem k_13 {p : Program} {l : Launch} {e : Env} {s : State} {m : MethodId} {below : List Frame} {meth : Method} {c : Code} {bA L : Nat} {xs : Nat → Int32} {D : va_G} {t : Nat → ClassId} {b : Nat} (hfl : l.stackTraces = false) (hx : p.tables.exec = Jvm.exec) (hb : c.code = cL_law) (hml : c.maxLocals = 7) (hown : s.vm.findClass RL = some m.cls) {c9 : Cond} (hts : ∀ w ∈ c9 :: ALL, w.before #[Value.ref bA] s = true) (hE : EV D t b s) (hX : va_X bA L xs s s.heap) (hbl : bA < s.heap.size) (hbA : ¬ geA b bA) {i a1 a2 a3 a4 : Int32} (hi1 : vp_in (i + 1) L) (hi2 : vp_in (i + 2) L) (hi3 : vp_in (i + 3) L) (hi4 : vp_in (i + 4) L) (hx1 : xs (i + 1).toNatClampNeg = a1) (hx2 : xs (i + 2).toNatClampNeg = a2) (hx3 : xs (i + 3).toNatClampNeg = a3) (hx4 : xs (i + 4).toNatClampNeg = a4) {H : Heap} {locs : List Loc} {ls : Array Slot} {cells slots : Nat} {Q : State → Prop} (hcl : cells + 16 ≤ room_1.cells ∧ slots + 96 ≤ room_1.slots) {σ σr : Sg} (hW : wd D t b σ H) (hS : va_S (geA b) s.heap H locs) (hl : lv_has ls 7 [(0, .ref bA), (1, .ref (b + 0)), (2, .ref (b + 193)), (3, .ref (b + 202)), (4, .int i)]) (hf : g_13 σ a1 a2 a3 a4 = some σr) (kk : ∀ (H : Heap) (locs : List Loc) (ls : Array Slot), wd D t b σr H → va_S (geA b) s.heap H locs → lv_has ls 7 [(0, .ref bA), (1, .ref (b + 0)), (2, .ref (b + 193)), (3, .ref (b + 202)), (4, .int i)] → W p l e room_1 s m #[Value.ref bA] below meth c H locs (cells + 16) (slots + 96) Q (F0 m 2838 ls [])) : W p l e room_1 s m #[Value.ref bA] below meth c H locs cells slots Q (F0 m 1083 ls []) := by
  have hta := fun w h => hts w (List.mem_cons_of_mem _ h)
  unfold g_13 at hf
  refine lv_aload_n hx hb dL_law_1083 rfl (lv_at hl 1 rfl) ?_
  refine lv_aload_n hx hb dL_law_1084 rfl (lv_at hl 3 rfl) ?_
  obtain ⟨y2, σ1, u3, hf⟩ := b2_e hf
  refine mSH (n := 2) (As := [.ref (b + 0), .ref (b + 202)]) (rest := []) (c_L_impossibleOrder l hfl D t b σ y2 σ1 u3) hx hb hml hown hts hE hW hS q938 q939 q90 qw_L_impossibleOrder hs_L_impossibleOrder ⟨rfl, rfl⟩ ⟨Nat.le_of_ble_eq_true rfl, Nat.le_of_ble_eq_true rfl⟩ rfl rfl hl.1 (Nat.le_of_ble_eq_true rfl) ⟨by obtain ⟨hc1, hc2⟩ := hcl; omega, by obtain ⟨hc1, hc2⟩ := hcl; omega⟩ dL_law_1085 (fun H locs hW hS => ?_)
  refine lv_istore (lv' := [(5, .int y2), (0, .ref bA), (1, .ref (b + 0)), (2, .ref (b + 193)), (3, .ref (b + 202)), (4, .int i)]) hx hb dL_law_1088 hl (by decide) rfl (fun ls hl => ?_)
  refine lv_aload_n hx hb dL_law_1090 rfl (lv_at hl 3 rfl) ?_
  obtain ⟨y4, σ6, u5, hf⟩ := b2_e hf
  refine mV (k := 193) (q := (5, 0)) (C := RX5) (T := TX5) (N := 14) (ci := 5) (n := 0) (As := []) (rest := []) (c_X5_impossibleOrder l D t b σ1 y4 σ6 u5) sh_193 (by decide) rfl rfl hx hb hml hown hts hE hW hS q1500 q1501 q1502 q96 q1503 hy_X5_impossibleOrder ⟨rfl, rfl⟩ ⟨Nat.le_of_ble_eq_true rfl, Nat.le_of_ble_eq_true rfl⟩ rfl rfl hl.1 (Nat.le_of_ble_eq_true rfl) ⟨by obtain ⟨hc1, hc2⟩ := hcl; omega, by obtain ⟨hc1, hc2⟩ := hcl; omega⟩ dL_law_1091 (fun H locs hW hS => ?_)
  refine lv_istore (lv' := [(6, .int y4), (5, .int y2), (0, .ref bA), (1, .ref (b + 0)), (2, .ref (b + 193)), (3, .ref (b + 202)), (4, .int i)]) hx hb dL_law_1094 hl (by decide) rfl (fun ls hl => ?_)
  refine lv_aload_n hx hb dL_law_1096 rfl (lv_at hl 4 rfl) ?_
  obtain ⟨y7, u8, hf⟩ := b1_e hf
  refine mV (k := 193) (q := (5, 0)) (C := RX5) (T := TX5) (N := 14) (ci := 5) (n := 0) (As := []) (rest := []) (c_X5_thrown l D t b σ6 y7 u8) sh_193 (by decide) rfl rfl hx hb hml hown hts hE hW hS q1224 q1225 q1226 q96 q1227 hy_X5_thrown ⟨rfl, rfl⟩ ⟨Nat.le_of_ble_eq_true rfl, Nat.le_of_ble_eq_true rfl⟩ rfl rfl hl.1 (Nat.le_of_ble_eq_true rfl) ⟨by obtain ⟨hc1, hc2⟩ := hcl; omega, by obtain ⟨hc1, hc2⟩ := hcl; omega⟩ dL_law_1097 (fun H locs hW hS => ?_)
  refine lv_iload hx hb dL_law_1100 (lv_at hl 1 rfl) ?_
  refine lv_icmp_eq (tgt := 1107) hx hb dL_law_1102 (by decide) (fun h9 => ?_) (fun h9 => ?_)
  · have hf := ifp h9 hf
    refine lv_iload hx hb dL_law_1107 (lv_at hl 1 rfl) ?_
    refine lv_if_ne (tgt := 1124) hx hb dL_law_1109 (by decide) (fun h10 => ?_) (fun h10 => ?_)
    · have hf := ifn h10 hf
      refine lv_goto (tgt := 2838) hx hb dL_law_1124 (by decide) ?_
      cases hf
      refine W.widen (k := cells + 16) (n := slots + 96) (by omega) (by omega) ?_
      exact kk _ _ _ hW hS (lv_sub hl [2, 3, 4, 5, 6] rfl)
    · have hf := ifp h10 hf
      refine lv_aload_n hx hb dL_law_1112 rfl (lv_at hl 5 rfl) ?_
      refine lv_iconst (v := 0) hx hb dL_law_1113 (by decide) ?_
      refine lald hx hb hE.1 hW sh_202 (vp_lit (by decide +kernel)) dL_law_1114 ?_
      refine lv_iload hx hb dL_law_1115 (lv_at hl 0 rfl) ?_
      refine lv_i2l hx hb dL_law_1117 rfl ?_
      refine lcmp_if (tgt := 1124) hx hb dL_law_1118 dL_law_1119 (by decide) (fun h11 => ?_) (fun h11 => ?_)
      · have hf := ifp h11 hf
        refine lv_goto (tgt := 2838) hx hb dL_law_1124 (by decide) ?_
        cases hf
        refine W.widen (k := cells + 16) (n := slots + 96) (by omega) (by omega) ?_
        exact kk _ _ _ hW hS (lv_sub hl [2, 3, 4, 5, 6] rfl)
      · have hf := ifn h11 hf
        refine lv_iconst (v := 0) hx hb dL_law_1122 (by decide) ?_
        cases hf
  · have hf := ifn h9 hf
    refine lv_iconst (v := 0) hx hb dL_law_1105 (by decide) ?_
    cases hf
def g_14 (σ : Sg) (a1 a2 a3 a4 : Int32) : Option Sg := b2 (f_L_carryOut σ) fun y2 σ1 => b2 (f_X5_carryOut σ1) fun y4 σ6 => b1 (f_X5_thrown σ6) fun y7 => if y7 = y2 then (if y2 = 0 then (if (σ6 202 (0 : Int32).toNatClampNeg) = y4 then (some σ6) else (none)) else (some σ6)) else (none)
set_option maxHeartbeats 4000000 in
set_option maxRecDepth 100000 in
theorem k_14 {p : Program} {l : Launch} {e : Env} {s : State} {m : MethodId} {below : List Frame} {meth : Method} {c : Code} {bA L : Nat} {xs : Nat → Int32} {D : va_G} {t : Nat → ClassId} {b : Nat} (hfl : l.stackTraces = false) (hx : p.tables.exec = Jvm.exec) (hb : c.code = cL_law) (hml : c.maxLocals = 7) (hown : s.vm.findClass RL = some m.cls) {c9 : Cond} (hts : ∀ w ∈ c9 :: ALL, w.before #[Value.ref bA] s = true) (hE : EV D t b s) (hX : va_X bA L xs s s.heap) (hbl : bA < s.heap.size) (hbA : ¬ geA b bA) {i a1 a2 a3 a4 : Int32} (hi1 : vp_in (i + 1) L) (hi2 : vp_in (i + 2) L) (hi3 : vp_in (i + 3) L) (hi4 : vp_in (i + 4) L) (hx1 : xs (i + 1).toNatClampNeg = a1) (hx2 : xs (i + 2).toNatClampNeg = a2) (hx3 : xs (i + 3).toNatClampNeg = a3) (hx4 : xs (i + 4).toNatClampNeg = a4) {H : Heap} {locs : List Loc} {ls : Array Slot} {cells slots : Nat} {Q : State → Prop} (hcl : cells + 16 ≤ room_1.cells ∧ slots + 96 ≤ room_1.slots) {σ σr : Sg} (hW : wd D t b σ H) (hS : va_S (geA b) s.heap H locs) (hl : lv_has ls 7 [(0, .ref bA), (1, .ref (b + 0)), (2, .ref (b + 193)), (3, .ref (b + 202)), (4, .int i)]) (hf : g_14 σ a1 a2 a3 a4 = some σr) (kk : ∀ (H : Heap) (locs : List Loc) (ls : Array Slot), wd D t b σr H → va_S (geA b) s.heap H locs → lv_has ls 7 [(0, .ref bA), (1, .ref (b + 0)), (2, .ref (b + 193)), (3, .ref (b + 202)), (4, .int i)] → W p l e room_1 s m #[Value.ref bA] below meth c H locs (cells + 16) (slots + 96) Q (F0 m 2838 ls [])) : W p l e room_1 s m #[Value.ref bA] below meth c H locs cells slots Q (F0 m 1127 ls []) := by
  have hta := fun w h => hts w (List.mem_cons_of_mem _ h)
  unfold g_14 at hf
  refine lv_aload_n hx hb dL_law_1127 rfl (lv_at hl 1 rfl) ?_
  refine lv_aload_n hx hb dL_law_1128 rfl (lv_at hl 3 rfl) ?_
  obtain ⟨y2, σ1, u3, hf⟩ := b2_e hf
  refine mSH (n := 2) (As := [.ref (b + 0), .ref (b + 202)]) (rest := []) (c_L_carryOut l hfl D t b σ y2 σ1 u3) hx hb hml hown hts hE hW hS q968 q969 q90 qw_L_carryOut hs_L_carryOut ⟨rfl, rfl⟩ ⟨Nat.le_of_ble_eq_true rfl, Nat.le_of_ble_eq_true rfl⟩ rfl rfl hl.1 (Nat.le_of_ble_eq_true rfl) ⟨by obtain ⟨hc1, hc2⟩ := hcl; omega, by obtain ⟨hc1, hc2⟩ := hcl; omega⟩ dL_law_1129 (fun H locs hW hS => ?_)
  refine lv_istore (lv' := [(5, .int y2), (0, .ref bA), (1, .ref (b + 0)), (2, .ref (b + 193)), (3, .ref (b + 202)), (4, .int i)]) hx hb dL_law_1132 hl (by decide) rfl (fun ls hl => ?_)
  refine lv_aload_n hx hb dL_law_1134 rfl (lv_at hl 3 rfl) ?_
  obtain ⟨y4, σ6, u5, hf⟩ := b2_e hf
  refine mV (k := 193) (q := (5, 0)) (C := RX5) (T := TX5) (N := 14) (ci := 5) (n := 0) (As := []) (rest := []) (c_X5_carryOut l D t b σ1 y4 σ6 u5) sh_193 (by decide) rfl rfl hx hb hml hown hts hE hW hS q1512 q1513 q1514 q96 q1515 hy_X5_carryOut ⟨rfl, rfl⟩ ⟨Nat.le_of_ble_eq_true rfl, Nat.le_of_ble_eq_true rfl⟩ rfl rfl hl.1 (Nat.le_of_ble_eq_true rfl) ⟨by obtain ⟨hc1, hc2⟩ := hcl; omega, by obtain ⟨hc1, hc2⟩ := hcl; omega⟩ dL_law_1135 (fun H locs hW hS => ?_)
  refine lv_istore (lv' := [(6, .int y4), (5, .int y2), (0, .ref bA), (1, .ref (b + 0)), (2, .ref (b + 193)), (3, .ref (b + 202)), (4, .int i)]) hx hb dL_law_1138 hl (by decide) rfl (fun ls hl => ?_)
  refine lv_aload_n hx hb dL_law_1140 rfl (lv_at hl 4 rfl) ?_
  obtain ⟨y7, u8, hf⟩ := b1_e hf
  refine mV (k := 193) (q := (5, 0)) (C := RX5) (T := TX5) (N := 14) (ci := 5) (n := 0) (As := []) (rest := []) (c_X5_thrown l D t b σ6 y7 u8) sh_193 (by decide) rfl rfl hx hb hml hown hts hE hW hS q1224 q1225 q1226 q96 q1227 hy_X5_thrown ⟨rfl, rfl⟩ ⟨Nat.le_of_ble_eq_true rfl, Nat.le_of_ble_eq_true rfl⟩ rfl rfl hl.1 (Nat.le_of_ble_eq_true rfl) ⟨by obtain ⟨hc1, hc2⟩ := hcl; omega, by obtain ⟨hc1, hc2⟩ := hcl; omega⟩ dL_law_1141 (fun H locs hW hS => ?_)
  refine lv_iload hx hb dL_law_1144 (lv_at hl 1 rfl) ?_
  refine lv_icmp_eq (tgt := 1151) hx hb dL_law_1146 (by decide) (fun h9 => ?_) (fun h9 => ?_)
  · have hf := ifp h9 hf
    refine lv_iload hx hb dL_law_1151 (lv_at hl 1 rfl) ?_
    refine lv_if_ne (tgt := 1168) hx hb dL_law_1153 (by decide) (fun h10 => ?_) (fun h10 => ?_)
    · have hf := ifn h10 hf
      refine lv_goto (tgt := 2838) hx hb dL_law_1168 (by decide) ?_
      cases hf
      refine W.widen (k := cells + 16) (n := slots + 96) (by omega) (by omega) ?_
      exact kk _ _ _ hW hS (lv_sub hl [2, 3, 4, 5, 6] rfl)
    · have hf := ifp h10 hf
      refine lv_aload_n hx hb dL_law_1156 rfl (lv_at hl 5 rfl) ?_
      refine lv_iconst (v := 0) hx hb dL_law_1157 (by decide) ?_
      refine lald hx hb hE.1 hW sh_202 (vp_lit (by decide +kernel)) dL_law_1158 ?_
      refine lv_iload hx hb dL_law_1159 (lv_at hl 0 rfl) ?_
      refine lv_i2l hx hb dL_law_1161 rfl ?_
      refine lcmp_if (tgt := 1168) hx hb dL_law_1162 dL_law_1163 (by decide) (fun h11 => ?_) (fun h11 => ?_)
      · have hf := ifp h11 hf
        refine lv_goto (tgt := 2838) hx hb dL_law_1168 (by decide) ?_
        cases hf
        refine W.widen (k := cells + 16) (n := slots + 96) (by omega) (by omega) ?_
        exact kk _ _ _ hW hS (lv_sub hl [2, 3, 4, 5, 6] rfl)
      · have hf := ifn h11 hf
        refine lv_iconst (v := 0) hx hb dL_law_1166 (by decide) ?_
        cases hf
  · have hf := ifn h9 hf
    refine lv_iconst (v := 0) hx hb dL_law_1149 (by decide) ?_
    cases hf
def g_15 (σ : Sg) (a1 a2 a3 a4 : Int32) : Option Sg := b2 (f_L_undo σ) fun y2 σ1 => b2 (f_X5_undo σ1) fun y4 σ6 => b1 (f_X5_thrown σ6) fun y7 => if y7 = y2 then (if y2 = 0 then (if (σ6 202 (0 : Int32).toNatClampNeg) = y4 then (some σ6) else (none)) else (some σ6)) else (none)
set_option maxHeartbeats 4000000 in
set_option maxRecDepth 100000 in
theorem k_15 {p : Program} {l : Launch} {e : Env} {s : State} {m : MethodId} {below : List Frame} {meth : Method} {c : Code} {bA L : Nat} {xs : Nat → Int32} {D : va_G} {t : Nat → ClassId} {b : Nat} (hfl : l.stackTraces = false) (hx : p.tables.exec = Jvm.exec) (hb : c.code = cL_law) (hml : c.maxLocals = 7) (hown : s.vm.findClass RL = some m.cls) {c9 : Cond} (hts : ∀ w ∈ c9 :: ALL, w.before #[Value.ref bA] s = true) (hE : EV D t b s) (hX : va_X bA L xs s s.heap) (hbl : bA < s.heap.size) (hbA : ¬ geA b bA) {i a1 a2 a3 a4 : Int32} (hi1 : vp_in (i + 1) L) (hi2 : vp_in (i + 2) L) (hi3 : vp_in (i + 3) L) (hi4 : vp_in (i + 4) L) (hx1 : xs (i + 1).toNatClampNeg = a1) (hx2 : xs (i + 2).toNatClampNeg = a2) (hx3 : xs (i + 3).toNatClampNeg = a3) (hx4 : xs (i + 4).toNatClampNeg = a4) {H : Heap} {locs : List Loc} {ls : Array Slot} {cells slots : Nat} {Q : State → Prop} (hcl : cells + 16 ≤ room_1.cells ∧ slots + 96 ≤ room_1.slots) {σ σr : Sg} (hW : wd D t b σ H) (hS : va_S (geA b) s.heap H locs) (hl : lv_has ls 7 [(0, .ref bA), (1, .ref (b + 0)), (2, .ref (b + 193)), (3, .ref (b + 202)), (4, .int i)]) (hf : g_15 σ a1 a2 a3 a4 = some σr) (kk : ∀ (H : Heap) (locs : List Loc) (ls : Array Slot), wd D t b σr H → va_S (geA b) s.heap H locs → lv_has ls 7 [(0, .ref bA), (1, .ref (b + 0)), (2, .ref (b + 193)), (3, .ref (b + 202)), (4, .int i)] → W p l e room_1 s m #[Value.ref bA] below meth c H locs (cells + 16) (slots + 96) Q (F0 m 2838 ls [])) : W p l e room_1 s m #[Value.ref bA] below meth c H locs cells slots Q (F0 m 1171 ls []) := by
  have hta := fun w h => hts w (List.mem_cons_of_mem _ h)
  unfold g_15 at hf
  refine lv_aload_n hx hb dL_law_1171 rfl (lv_at hl 1 rfl) ?_
  refine lv_aload_n hx hb dL_law_1172 rfl (lv_at hl 3 rfl) ?_
  obtain ⟨y2, σ1, u3, hf⟩ := b2_e hf
  refine mSH (n := 2) (As := [.ref (b + 0), .ref (b + 202)]) (rest := []) (c_L_undo l hfl D t b σ y2 σ1 u3) hx hb hml hown hts hE hW hS q976 q977 q90 qw_L_undo hs_L_undo ⟨rfl, rfl⟩ ⟨Nat.le_of_ble_eq_true rfl, Nat.le_of_ble_eq_true rfl⟩ rfl rfl hl.1 (Nat.le_of_ble_eq_true rfl) ⟨by obtain ⟨hc1, hc2⟩ := hcl; omega, by obtain ⟨hc1, hc2⟩ := hcl; omega⟩ dL_law_1173 (fun H locs hW hS => ?_)
  refine lv_istore (lv' := [(5, .int y2), (0, .ref bA), (1, .ref (b + 0)), (2, .ref (b + 193)), (3, .ref (b + 202)), (4, .int i)]) hx hb dL_law_1176 hl (by decide) rfl (fun ls hl => ?_)
  refine lv_aload_n hx hb dL_law_1178 rfl (lv_at hl 3 rfl) ?_
  obtain ⟨y4, σ6, u5, hf⟩ := b2_e hf
  refine mV (k := 193) (q := (5, 0)) (C := RX5) (T := TX5) (N := 14) (ci := 5) (n := 0) (As := []) (rest := []) (c_X5_undo l D t b σ1 y4 σ6 u5) sh_193 (by decide) rfl rfl hx hb hml hown hts hE hW hS q1520 q1521 q1522 q96 q1523 hy_X5_undo ⟨rfl, rfl⟩ ⟨Nat.le_of_ble_eq_true rfl, Nat.le_of_ble_eq_true rfl⟩ rfl rfl hl.1 (Nat.le_of_ble_eq_true rfl) ⟨by obtain ⟨hc1, hc2⟩ := hcl; omega, by obtain ⟨hc1, hc2⟩ := hcl; omega⟩ dL_law_1179 (fun H locs hW hS => ?_)
  refine lv_istore (lv' := [(6, .int y4), (5, .int y2), (0, .ref bA), (1, .ref (b + 0)), (2, .ref (b + 193)), (3, .ref (b + 202)), (4, .int i)]) hx hb dL_law_1182 hl (by decide) rfl (fun ls hl => ?_)
  refine lv_aload_n hx hb dL_law_1184 rfl (lv_at hl 4 rfl) ?_
  obtain ⟨y7, u8, hf⟩ := b1_e hf
  refine mV (k := 193) (q := (5, 0)) (C := RX5) (T := TX5) (N := 14) (ci := 5) (n := 0) (As := []) (rest := []) (c_X5_thrown l D t b σ6 y7 u8) sh_193 (by decide) rfl rfl hx hb hml hown hts hE hW hS q1224 q1225 q1226 q96 q1227 hy_X5_thrown ⟨rfl, rfl⟩ ⟨Nat.le_of_ble_eq_true rfl, Nat.le_of_ble_eq_true rfl⟩ rfl rfl hl.1 (Nat.le_of_ble_eq_true rfl) ⟨by obtain ⟨hc1, hc2⟩ := hcl; omega, by obtain ⟨hc1, hc2⟩ := hcl; omega⟩ dL_law_1185 (fun H locs hW hS => ?_)
  refine lv_iload hx hb dL_law_1188 (lv_at hl 1 rfl) ?_
  refine lv_icmp_eq (tgt := 1195) hx hb dL_law_1190 (by decide) (fun h9 => ?_) (fun h9 => ?_)
  · have hf := ifp h9 hf
    refine lv_iload hx hb dL_law_1195 (lv_at hl 1 rfl) ?_
    refine lv_if_ne (tgt := 1212) hx hb dL_law_1197 (by decide) (fun h10 => ?_) (fun h10 => ?_)
    · have hf := ifn h10 hf
      refine lv_goto (tgt := 2838) hx hb dL_law_1212 (by decide) ?_
      cases hf
      refine W.widen (k := cells + 16) (n := slots + 96) (by omega) (by omega) ?_
      exact kk _ _ _ hW hS (lv_sub hl [2, 3, 4, 5, 6] rfl)
    · have hf := ifp h10 hf
      refine lv_aload_n hx hb dL_law_1200 rfl (lv_at hl 5 rfl) ?_
      refine lv_iconst (v := 0) hx hb dL_law_1201 (by decide) ?_
      refine lald hx hb hE.1 hW sh_202 (vp_lit (by decide +kernel)) dL_law_1202 ?_
      refine lv_iload hx hb dL_law_1203 (lv_at hl 0 rfl) ?_
      refine lv_i2l hx hb dL_law_1205 rfl ?_
      refine lcmp_if (tgt := 1212) hx hb dL_law_1206 dL_law_1207 (by decide) (fun h11 => ?_) (fun h11 => ?_)
      · have hf := ifp h11 hf
        refine lv_goto (tgt := 2838) hx hb dL_law_1212 (by decide) ?_
        cases hf
        refine W.widen (k := cells + 16) (n := slots + 96) (by omega) (by omega) ?_
        exact kk _ _ _ hW hS (lv_sub hl [2, 3, 4, 5, 6] rfl)
      · have hf := ifn h11 hf
        refine lv_iconst (v := 0) hx hb dL_law_1210 (by decide) ?_
        cases hf
  · have hf := ifn h9 hf
    refine lv_iconst (v := 0) hx hb dL_law_1193 (by decide) ?_
    cases hf
def g_16 (σ : Sg) (a1 a2 a3 a4 : Int32) : Option Sg := b2 (f_X4_takeSnapshot σ) fun y1 σ3 => b2 (f_X5_takeSnapshot σ3) fun y4 σ6 => if y1 = y4 then (some σ6) else (none)
set_option maxHeartbeats 4000000 in
set_option maxRecDepth 100000 in
theorem k_16 {p : Program} {l : Launch} {e : Env} {s : State} {m : MethodId} {below : List Frame} {meth : Method} {c : Code} {bA L : Nat} {xs : Nat → Int32} {D : va_G} {t : Nat → ClassId} {b : Nat} (hfl : l.stackTraces = false) (hx : p.tables.exec = Jvm.exec) (hb : c.code = cL_law) (hml : c.maxLocals = 7) (hown : s.vm.findClass RL = some m.cls) {c9 : Cond} (hts : ∀ w ∈ c9 :: ALL, w.before #[Value.ref bA] s = true) (hE : EV D t b s) (hX : va_X bA L xs s s.heap) (hbl : bA < s.heap.size) (hbA : ¬ geA b bA) {i a1 a2 a3 a4 : Int32} (hi1 : vp_in (i + 1) L) (hi2 : vp_in (i + 2) L) (hi3 : vp_in (i + 3) L) (hi4 : vp_in (i + 4) L) (hx1 : xs (i + 1).toNatClampNeg = a1) (hx2 : xs (i + 2).toNatClampNeg = a2) (hx3 : xs (i + 3).toNatClampNeg = a3) (hx4 : xs (i + 4).toNatClampNeg = a4) {H : Heap} {locs : List Loc} {ls : Array Slot} {cells slots : Nat} {Q : State → Prop} (hcl : cells + 16 ≤ room_1.cells ∧ slots + 96 ≤ room_1.slots) {σ σr : Sg} (hW : wd D t b σ H) (hS : va_S (geA b) s.heap H locs) (hl : lv_has ls 7 [(0, .ref bA), (1, .ref (b + 0)), (2, .ref (b + 193)), (3, .ref (b + 202)), (4, .int i)]) (hf : g_16 σ a1 a2 a3 a4 = some σr) (kk : ∀ (H : Heap) (locs : List Loc) (ls : Array Slot), wd D t b σr H → va_S (geA b) s.heap H locs → lv_has ls 7 [(0, .ref bA), (1, .ref (b + 0)), (2, .ref (b + 193)), (3, .ref (b + 202)), (4, .int i)] → W p l e room_1 s m #[Value.ref bA] below meth c H locs (cells + 16) (slots + 96) Q (F0 m 2838 ls [])) : W p l e room_1 s m #[Value.ref bA] below meth c H locs cells slots Q (F0 m 1215 ls []) := by
  have hta := fun w h => hts w (List.mem_cons_of_mem _ h)
  unfold g_16 at hf
  refine lv_aload_n hx hb dL_law_1215 rfl (lv_at hl 1 rfl) ?_
  obtain ⟨y1, σ3, u2, hf⟩ := b2_e hf
  refine mV (k := 0) (q := (0, 0)) (C := RX4) (T := TX4) (N := 8) (ci := 4) (n := 0) (As := []) (rest := []) (c_X4_takeSnapshot l D t b σ y1 σ3 u2) sh_0 (by decide) rfl rfl hx hb hml hown hts hE hW hS q421 q422 q423 q91 q424 hy_X4_takeSnapshot ⟨rfl, rfl⟩ ⟨Nat.le_of_ble_eq_true rfl, Nat.le_of_ble_eq_true rfl⟩ rfl rfl hl.1 (Nat.le_of_ble_eq_true rfl) ⟨by obtain ⟨hc1, hc2⟩ := hcl; omega, by obtain ⟨hc1, hc2⟩ := hcl; omega⟩ dL_law_1216 (fun H locs hW hS => ?_)
  refine lv_aload_n hx hb dL_law_1219 rfl (lv_at hl 2 rfl) ?_
  obtain ⟨y4, σ6, u5, hf⟩ := b2_e hf
  refine mV (k := 193) (q := (5, 0)) (C := RX5) (T := TX5) (N := 14) (ci := 5) (n := 0) (As := []) (rest := [.int y1]) (c_X5_takeSnapshot l D t b σ3 y4 σ6 u5) sh_193 (by decide) rfl rfl hx hb hml hown hts hE hW hS q1524 q1525 q1526 q96 q1527 hy_X5_takeSnapshot ⟨rfl, rfl⟩ ⟨Nat.le_of_ble_eq_true rfl, Nat.le_of_ble_eq_true rfl⟩ rfl rfl hl.1 (Nat.le_of_ble_eq_true rfl) ⟨by obtain ⟨hc1, hc2⟩ := hcl; omega, by obtain ⟨hc1, hc2⟩ := hcl; omega⟩ dL_law_1220 (fun H locs hW hS => ?_)
  refine lv_icmp_eq (tgt := 2838) hx hb dL_law_1223 (by decide) (fun h7 => ?_) (fun h7 => ?_)
  · have hf := ifp h7 hf
    cases hf
    refine W.widen (k := cells + 16) (n := slots + 96) (by omega) (by omega) ?_
    exact kk _ _ _ hW hS (lv_sub hl [0, 1, 2, 3, 4] rfl)
  · have hf := ifn h7 hf
    refine lv_iconst (v := 0) hx hb dL_law_1226 (by decide) ?_
    cases hf
def g_17 (σ : Sg) (a1 a2 a3 a4 : Int32) : Option Sg := b2 (f_L_restoreSnapshot σ) fun y2 σ1 => b2 (f_X5_restoreSnapshot σ1) fun y4 σ6 => b1 (f_X5_thrown σ6) fun y7 => if y7 = y2 then (if y2 = 0 then (if (σ6 202 (0 : Int32).toNatClampNeg) = y4 then (some σ6) else (none)) else (some σ6)) else (none)
set_option maxHeartbeats 4000000 in
set_option maxRecDepth 100000 in
theorem k_17 {p : Program} {l : Launch} {e : Env} {s : State} {m : MethodId} {below : List Frame} {meth : Method} {c : Code} {bA L : Nat} {xs : Nat → Int32} {D : va_G} {t : Nat → ClassId} {b : Nat} (hfl : l.stackTraces = false) (hx : p.tables.exec = Jvm.exec) (hb : c.code = cL_law) (hml : c.maxLocals = 7) (hown : s.vm.findClass RL = some m.cls) {c9 : Cond} (hts : ∀ w ∈ c9 :: ALL, w.before #[Value.ref bA] s = true) (hE : EV D t b s) (hX : va_X bA L xs s s.heap) (hbl : bA < s.heap.size) (hbA : ¬ geA b bA) {i a1 a2 a3 a4 : Int32} (hi1 : vp_in (i + 1) L) (hi2 : vp_in (i + 2) L) (hi3 : vp_in (i + 3) L) (hi4 : vp_in (i + 4) L) (hx1 : xs (i + 1).toNatClampNeg = a1) (hx2 : xs (i + 2).toNatClampNeg = a2) (hx3 : xs (i + 3).toNatClampNeg = a3) (hx4 : xs (i + 4).toNatClampNeg = a4) {H : Heap} {locs : List Loc} {ls : Array Slot} {cells slots : Nat} {Q : State → Prop} (hcl : cells + 16 ≤ room_1.cells ∧ slots + 96 ≤ room_1.slots) {σ σr : Sg} (hW : wd D t b σ H) (hS : va_S (geA b) s.heap H locs) (hl : lv_has ls 7 [(0, .ref bA), (1, .ref (b + 0)), (2, .ref (b + 193)), (3, .ref (b + 202)), (4, .int i)]) (hf : g_17 σ a1 a2 a3 a4 = some σr) (kk : ∀ (H : Heap) (locs : List Loc) (ls : Array Slot), wd D t b σr H → va_S (geA b) s.heap H locs → lv_has ls 7 [(0, .ref bA), (1, .ref (b + 0)), (2, .ref (b + 193)), (3, .ref (b + 202)), (4, .int i)] → W p l e room_1 s m #[Value.ref bA] below meth c H locs (cells + 16) (slots + 96) Q (F0 m 2838 ls [])) : W p l e room_1 s m #[Value.ref bA] below meth c H locs cells slots Q (F0 m 1228 ls []) := by
  have hta := fun w h => hts w (List.mem_cons_of_mem _ h)
  unfold g_17 at hf
  refine lv_aload_n hx hb dL_law_1228 rfl (lv_at hl 1 rfl) ?_
  refine lv_aload_n hx hb dL_law_1229 rfl (lv_at hl 3 rfl) ?_
  obtain ⟨y2, σ1, u3, hf⟩ := b2_e hf
  refine mSH (n := 2) (As := [.ref (b + 0), .ref (b + 202)]) (rest := []) (c_L_restoreSnapshot l hfl D t b σ y2 σ1 u3) hx hb hml hown hts hE hW hS q984 q985 q90 qw_L_restoreSnapshot hs_L_restoreSnapshot ⟨rfl, rfl⟩ ⟨Nat.le_of_ble_eq_true rfl, Nat.le_of_ble_eq_true rfl⟩ rfl rfl hl.1 (Nat.le_of_ble_eq_true rfl) ⟨by obtain ⟨hc1, hc2⟩ := hcl; omega, by obtain ⟨hc1, hc2⟩ := hcl; omega⟩ dL_law_1230 (fun H locs hW hS => ?_)
  refine lv_istore (lv' := [(5, .int y2), (0, .ref bA), (1, .ref (b + 0)), (2, .ref (b + 193)), (3, .ref (b + 202)), (4, .int i)]) hx hb dL_law_1233 hl (by decide) rfl (fun ls hl => ?_)
  refine lv_aload_n hx hb dL_law_1235 rfl (lv_at hl 3 rfl) ?_
  obtain ⟨y4, σ6, u5, hf⟩ := b2_e hf
  refine mV (k := 193) (q := (5, 0)) (C := RX5) (T := TX5) (N := 14) (ci := 5) (n := 0) (As := []) (rest := []) (c_X5_restoreSnapshot l D t b σ1 y4 σ6 u5) sh_193 (by decide) rfl rfl hx hb hml hown hts hE hW hS q1528 q1529 q1530 q96 q1531 hy_X5_restoreSnapshot ⟨rfl, rfl⟩ ⟨Nat.le_of_ble_eq_true rfl, Nat.le_of_ble_eq_true rfl⟩ rfl rfl hl.1 (Nat.le_of_ble_eq_true rfl) ⟨by obtain ⟨hc1, hc2⟩ := hcl; omega, by obtain ⟨hc1, hc2⟩ := hcl; omega⟩ dL_law_1236 (fun H locs hW hS => ?_)
  refine lv_istore (lv' := [(6, .int y4), (5, .int y2), (0, .ref bA), (1, .ref (b + 0)), (2, .ref (b + 193)), (3, .ref (b + 202)), (4, .int i)]) hx hb dL_law_1239 hl (by decide) rfl (fun ls hl => ?_)
  refine lv_aload_n hx hb dL_law_1241 rfl (lv_at hl 4 rfl) ?_
  obtain ⟨y7, u8, hf⟩ := b1_e hf
  refine mV (k := 193) (q := (5, 0)) (C := RX5) (T := TX5) (N := 14) (ci := 5) (n := 0) (As := []) (rest := []) (c_X5_thrown l D t b σ6 y7 u8) sh_193 (by decide) rfl rfl hx hb hml hown hts hE hW hS q1224 q1225 q1226 q96 q1227 hy_X5_thrown ⟨rfl, rfl⟩ ⟨Nat.le_of_ble_eq_true rfl, Nat.le_of_ble_eq_true rfl⟩ rfl rfl hl.1 (Nat.le_of_ble_eq_true rfl) ⟨by obtain ⟨hc1, hc2⟩ := hcl; omega, by obtain ⟨hc1, hc2⟩ := hcl; omega⟩ dL_law_1242 (fun H locs hW hS => ?_)
  refine lv_iload hx hb dL_law_1245 (lv_at hl 1 rfl) ?_
  refine lv_icmp_eq (tgt := 1252) hx hb dL_law_1247 (by decide) (fun h9 => ?_) (fun h9 => ?_)
  · have hf := ifp h9 hf
    refine lv_iload hx hb dL_law_1252 (lv_at hl 1 rfl) ?_
    refine lv_if_ne (tgt := 1269) hx hb dL_law_1254 (by decide) (fun h10 => ?_) (fun h10 => ?_)
    · have hf := ifn h10 hf
      refine lv_goto (tgt := 2838) hx hb dL_law_1269 (by decide) ?_
      cases hf
      refine W.widen (k := cells + 16) (n := slots + 96) (by omega) (by omega) ?_
      exact kk _ _ _ hW hS (lv_sub hl [2, 3, 4, 5, 6] rfl)
    · have hf := ifp h10 hf
      refine lv_aload_n hx hb dL_law_1257 rfl (lv_at hl 5 rfl) ?_
      refine lv_iconst (v := 0) hx hb dL_law_1258 (by decide) ?_
      refine lald hx hb hE.1 hW sh_202 (vp_lit (by decide +kernel)) dL_law_1259 ?_
      refine lv_iload hx hb dL_law_1260 (lv_at hl 0 rfl) ?_
      refine lv_i2l hx hb dL_law_1262 rfl ?_
      refine lcmp_if (tgt := 1269) hx hb dL_law_1263 dL_law_1264 (by decide) (fun h11 => ?_) (fun h11 => ?_)
      · have hf := ifp h11 hf
        refine lv_goto (tgt := 2838) hx hb dL_law_1269 (by decide) ?_
        cases hf
        refine W.widen (k := cells + 16) (n := slots + 96) (by omega) (by omega) ?_
        exact kk _ _ _ hW hS (lv_sub hl [2, 3, 4, 5, 6] rfl)
      · have hf := ifn h11 hf
        refine lv_iconst (v := 0) hx hb dL_law_1267 (by decide) ?_
        cases hf
  · have hf := ifn h9 hf
    refine lv_iconst (v := 0) hx hb dL_law_1250 (by decide) ?_
    cases hf
def g_18 (σ : Sg) (a1 a2 a3 a4 : Int32) : Option Sg := b1 (f_X4_stalls σ) fun y1 => b2 (f_X5_stalls σ) fun y3 σ5 => if y1 = y3 then (some σ5) else (none)
set_option maxHeartbeats 4000000 in
set_option maxRecDepth 100000 in
theorem k_18 {p : Program} {l : Launch} {e : Env} {s : State} {m : MethodId} {below : List Frame} {meth : Method} {c : Code} {bA L : Nat} {xs : Nat → Int32} {D : va_G} {t : Nat → ClassId} {b : Nat} (hfl : l.stackTraces = false) (hx : p.tables.exec = Jvm.exec) (hb : c.code = cL_law) (hml : c.maxLocals = 7) (hown : s.vm.findClass RL = some m.cls) {c9 : Cond} (hts : ∀ w ∈ c9 :: ALL, w.before #[Value.ref bA] s = true) (hE : EV D t b s) (hX : va_X bA L xs s s.heap) (hbl : bA < s.heap.size) (hbA : ¬ geA b bA) {i a1 a2 a3 a4 : Int32} (hi1 : vp_in (i + 1) L) (hi2 : vp_in (i + 2) L) (hi3 : vp_in (i + 3) L) (hi4 : vp_in (i + 4) L) (hx1 : xs (i + 1).toNatClampNeg = a1) (hx2 : xs (i + 2).toNatClampNeg = a2) (hx3 : xs (i + 3).toNatClampNeg = a3) (hx4 : xs (i + 4).toNatClampNeg = a4) {H : Heap} {locs : List Loc} {ls : Array Slot} {cells slots : Nat} {Q : State → Prop} (hcl : cells + 16 ≤ room_1.cells ∧ slots + 96 ≤ room_1.slots) {σ σr : Sg} (hW : wd D t b σ H) (hS : va_S (geA b) s.heap H locs) (hl : lv_has ls 7 [(0, .ref bA), (1, .ref (b + 0)), (2, .ref (b + 193)), (3, .ref (b + 202)), (4, .int i)]) (hf : g_18 σ a1 a2 a3 a4 = some σr) (kk : ∀ (H : Heap) (locs : List Loc) (ls : Array Slot), wd D t b σr H → va_S (geA b) s.heap H locs → lv_has ls 7 [(0, .ref bA), (1, .ref (b + 0)), (2, .ref (b + 193)), (3, .ref (b + 202)), (4, .int i)] → W p l e room_1 s m #[Value.ref bA] below meth c H locs (cells + 16) (slots + 96) Q (F0 m 2838 ls [])) : W p l e room_1 s m #[Value.ref bA] below meth c H locs cells slots Q (F0 m 1272 ls []) := by
  have hta := fun w h => hts w (List.mem_cons_of_mem _ h)
  unfold g_18 at hf
  refine lv_aload_n hx hb dL_law_1272 rfl (lv_at hl 1 rfl) ?_
  obtain ⟨y1, u2, hf⟩ := b1_e hf
  refine mV (k := 0) (q := (0, 0)) (C := RX4) (T := TX4) (N := 8) (ci := 4) (n := 0) (As := []) (rest := []) (c_X4_stalls l D t b σ y1 u2) sh_0 (by decide) rfl rfl hx hb hml hown hts hE hW hS q442 q443 q444 q91 q445 hy_X4_stalls ⟨rfl, rfl⟩ ⟨Nat.le_of_ble_eq_true rfl, Nat.le_of_ble_eq_true rfl⟩ rfl rfl hl.1 (Nat.le_of_ble_eq_true rfl) ⟨by obtain ⟨hc1, hc2⟩ := hcl; omega, by obtain ⟨hc1, hc2⟩ := hcl; omega⟩ dL_law_1273 (fun H locs hW hS => ?_)
  refine lv_aload_n hx hb dL_law_1276 rfl (lv_at hl 2 rfl) ?_
  obtain ⟨y3, σ5, u4, hf⟩ := b2_e hf
  refine mV (k := 193) (q := (5, 0)) (C := RX5) (T := TX5) (N := 14) (ci := 5) (n := 0) (As := []) (rest := [.int y1]) (c_X5_stalls l D t b σ y3 σ5 u4) sh_193 (by decide) rfl rfl hx hb hml hown hts hE hW hS q1532 q1533 q1534 q96 q1535 hy_X5_stalls ⟨rfl, rfl⟩ ⟨Nat.le_of_ble_eq_true rfl, Nat.le_of_ble_eq_true rfl⟩ rfl rfl hl.1 (Nat.le_of_ble_eq_true rfl) ⟨by obtain ⟨hc1, hc2⟩ := hcl; omega, by obtain ⟨hc1, hc2⟩ := hcl; omega⟩ dL_law_1277 (fun H locs hW hS => ?_)
  refine lv_icmp_eq (tgt := 2838) hx hb dL_law_1280 (by decide) (fun h6 => ?_) (fun h6 => ?_)
  · have hf := ifp h6 hf
    cases hf
    refine W.widen (k := cells + 16) (n := slots + 96) (by omega) (by omega) ?_
    exact kk _ _ _ hW hS (lv_sub hl [0, 1, 2, 3, 4] rfl)
  · have hf := ifn h6 hf
    refine lv_iconst (v := 0) hx hb dL_law_1283 (by decide) ?_
    cases hf
def g_19 (σ : Sg) (a1 a2 a3 a4 : Int32) : Option Sg := b2 (f_L_pitchOf σ a1) fun y2 σ1 => b2 (f_X5_pitchOf σ1 a1) fun y4 σ6 => b1 (f_X5_thrown σ6) fun y7 => if y7 = y2 then (if y2 = 0 then (if (σ6 202 (0 : Int32).toNatClampNeg) = y4 then (some σ6) else (none)) else (some σ6)) else (none)
set_option maxHeartbeats 4000000 in
set_option maxRecDepth 100000 in
theorem k_19 {p : Program} {l : Launch} {e : Env} {s : State} {m : MethodId} {below : List Frame} {meth : Method} {c : Code} {bA L : Nat} {xs : Nat → Int32} {D : va_G} {t : Nat → ClassId} {b : Nat} (hfl : l.stackTraces = false) (hx : p.tables.exec = Jvm.exec) (hb : c.code = cL_law) (hml : c.maxLocals = 7) (hown : s.vm.findClass RL = some m.cls) {c9 : Cond} (hts : ∀ w ∈ c9 :: ALL, w.before #[Value.ref bA] s = true) (hE : EV D t b s) (hX : va_X bA L xs s s.heap) (hbl : bA < s.heap.size) (hbA : ¬ geA b bA) {i a1 a2 a3 a4 : Int32} (hi1 : vp_in (i + 1) L) (hi2 : vp_in (i + 2) L) (hi3 : vp_in (i + 3) L) (hi4 : vp_in (i + 4) L) (hx1 : xs (i + 1).toNatClampNeg = a1) (hx2 : xs (i + 2).toNatClampNeg = a2) (hx3 : xs (i + 3).toNatClampNeg = a3) (hx4 : xs (i + 4).toNatClampNeg = a4) {H : Heap} {locs : List Loc} {ls : Array Slot} {cells slots : Nat} {Q : State → Prop} (hcl : cells + 16 ≤ room_1.cells ∧ slots + 96 ≤ room_1.slots) {σ σr : Sg} (hW : wd D t b σ H) (hS : va_S (geA b) s.heap H locs) (hl : lv_has ls 7 [(0, .ref bA), (1, .ref (b + 0)), (2, .ref (b + 193)), (3, .ref (b + 202)), (4, .int i)]) (hf : g_19 σ a1 a2 a3 a4 = some σr) (kk : ∀ (H : Heap) (locs : List Loc) (ls : Array Slot), wd D t b σr H → va_S (geA b) s.heap H locs → lv_has ls 7 [(0, .ref bA), (1, .ref (b + 0)), (2, .ref (b + 193)), (3, .ref (b + 202)), (4, .int i)] → W p l e room_1 s m #[Value.ref bA] below meth c H locs (cells + 16) (slots + 96) Q (F0 m 2838 ls [])) : W p l e room_1 s m #[Value.ref bA] below meth c H locs cells slots Q (F0 m 1285 ls []) := by
  have hta := fun w h => hts w (List.mem_cons_of_mem _ h)
  unfold g_19 at hf
  refine lv_aload_n hx hb dL_law_1285 rfl (lv_at hl 1 rfl) ?_
  refine lv_aload_n hx hb dL_law_1286 rfl (lv_at hl 0 rfl) ?_
  refine lv_iload hx hb dL_law_1287 (lv_at hl 4 rfl) ?_
  refine lv_iconst (v := 1) hx hb dL_law_1289 (by decide) ?_
  refine lv_iadd hx hb dL_law_1290 ?_
  refine va_sld hx hb hX hbl hbA hS hi1 dL_law_1291 ?_
  rw [hx1]
  refine lv_aload_n hx hb dL_law_1292 rfl (lv_at hl 3 rfl) ?_
  obtain ⟨y2, σ1, u3, hf⟩ := b2_e hf
  refine mSH (n := 3) (As := [.ref (b + 0), .int a1, .ref (b + 202)]) (rest := []) (c_L_pitchOf l hfl D t b σ a1 y2 σ1 u3) hx hb hml hown hts hE hW hS q992 q993 q90 qw_L_pitchOf hs_L_pitchOf ⟨rfl, rfl⟩ ⟨Nat.le_of_ble_eq_true rfl, Nat.le_of_ble_eq_true rfl⟩ rfl rfl hl.1 (Nat.le_of_ble_eq_true rfl) ⟨by obtain ⟨hc1, hc2⟩ := hcl; omega, by obtain ⟨hc1, hc2⟩ := hcl; omega⟩ dL_law_1293 (fun H locs hW hS => ?_)
  refine lv_istore (lv' := [(5, .int y2), (0, .ref bA), (1, .ref (b + 0)), (2, .ref (b + 193)), (3, .ref (b + 202)), (4, .int i)]) hx hb dL_law_1296 hl (by decide) rfl (fun ls hl => ?_)
  refine lv_aload_n hx hb dL_law_1298 rfl (lv_at hl 3 rfl) ?_
  refine lv_aload_n hx hb dL_law_1299 rfl (lv_at hl 1 rfl) ?_
  refine lv_iload hx hb dL_law_1300 (lv_at hl 5 rfl) ?_
  refine lv_iconst (v := 1) hx hb dL_law_1302 (by decide) ?_
  refine lv_iadd hx hb dL_law_1303 ?_
  refine va_sld hx hb hX hbl hbA hS hi1 dL_law_1304 ?_
  rw [hx1]
  obtain ⟨y4, σ6, u5, hf⟩ := b2_e hf
  refine mV (k := 193) (q := (5, 0)) (C := RX5) (T := TX5) (N := 14) (ci := 5) (n := 1) (As := [.int a1]) (rest := []) (c_X5_pitchOf l D t b σ1 a1 y4 σ6 u5) sh_193 (by decide) rfl rfl hx hb hml hown hts hE hW hS q1540 q1541 q1542 q96 q1543 hy_X5_pitchOf ⟨rfl, rfl⟩ ⟨Nat.le_of_ble_eq_true rfl, Nat.le_of_ble_eq_true rfl⟩ rfl rfl hl.1 (Nat.le_of_ble_eq_true rfl) ⟨by obtain ⟨hc1, hc2⟩ := hcl; omega, by obtain ⟨hc1, hc2⟩ := hcl; omega⟩ dL_law_1305 (fun H locs hW hS => ?_)
  refine lv_istore (lv' := [(6, .int y4), (5, .int y2), (0, .ref bA), (1, .ref (b + 0)), (2, .ref (b + 193)), (3, .ref (b + 202)), (4, .int i)]) hx hb dL_law_1308 hl (by decide) rfl (fun ls hl => ?_)
  refine lv_aload_n hx hb dL_law_1310 rfl (lv_at hl 4 rfl) ?_
  obtain ⟨y7, u8, hf⟩ := b1_e hf
  refine mV (k := 193) (q := (5, 0)) (C := RX5) (T := TX5) (N := 14) (ci := 5) (n := 0) (As := []) (rest := []) (c_X5_thrown l D t b σ6 y7 u8) sh_193 (by decide) rfl rfl hx hb hml hown hts hE hW hS q1224 q1225 q1226 q96 q1227 hy_X5_thrown ⟨rfl, rfl⟩ ⟨Nat.le_of_ble_eq_true rfl, Nat.le_of_ble_eq_true rfl⟩ rfl rfl hl.1 (Nat.le_of_ble_eq_true rfl) ⟨by obtain ⟨hc1, hc2⟩ := hcl; omega, by obtain ⟨hc1, hc2⟩ := hcl; omega⟩ dL_law_1311 (fun H locs hW hS => ?_)
  refine lv_iload hx hb dL_law_1314 (lv_at hl 1 rfl) ?_
  refine lv_icmp_eq (tgt := 1321) hx hb dL_law_1316 (by decide) (fun h9 => ?_) (fun h9 => ?_)
  · have hf := ifp h9 hf
    refine lv_iload hx hb dL_law_1321 (lv_at hl 1 rfl) ?_
    refine lv_if_ne (tgt := 1338) hx hb dL_law_1323 (by decide) (fun h10 => ?_) (fun h10 => ?_)
    · have hf := ifn h10 hf
      refine lv_goto (tgt := 2838) hx hb dL_law_1338 (by decide) ?_
      cases hf
      refine W.widen (k := cells + 16) (n := slots + 96) (by omega) (by omega) ?_
      exact kk _ _ _ hW hS (lv_sub hl [2, 3, 4, 5, 6] rfl)
    · have hf := ifp h10 hf
      refine lv_aload_n hx hb dL_law_1326 rfl (lv_at hl 5 rfl) ?_
      refine lv_iconst (v := 0) hx hb dL_law_1327 (by decide) ?_
      refine lald hx hb hE.1 hW sh_202 (vp_lit (by decide +kernel)) dL_law_1328 ?_
      refine lv_iload hx hb dL_law_1329 (lv_at hl 0 rfl) ?_
      refine lv_i2l hx hb dL_law_1331 rfl ?_
      refine lcmp_if (tgt := 1338) hx hb dL_law_1332 dL_law_1333 (by decide) (fun h11 => ?_) (fun h11 => ?_)
      · have hf := ifp h11 hf
        refine lv_goto (tgt := 2838) hx hb dL_law_1338 (by decide) ?_
        cases hf
        refine W.widen (k := cells + 16) (n := slots + 96) (by omega) (by omega) ?_
        exact kk _ _ _ hW hS (lv_sub hl [2, 3, 4, 5, 6] rfl)
      · have hf := ifn h11 hf
        refine lv_iconst (v := 0) hx hb dL_law_1336 (by decide) ?_
        cases hf
  · have hf := ifn h9 hf
    refine lv_iconst (v := 0) hx hb dL_law_1319 (by decide) ?_
    cases hf
def g_20 (σ : Sg) (a1 a2 a3 a4 : Int32) : Option Sg := b2 (f_L_stallOn σ a1) fun y2 σ1 => b2 (f_X5_stallOn σ1 a1) fun y4 σ6 => b1 (f_X5_thrown σ6) fun y7 => if y7 = y2 then (if y2 = 0 then (if (σ6 202 (0 : Int32).toNatClampNeg) = y4 then (some σ6) else (none)) else (some σ6)) else (none)
set_option maxHeartbeats 4000000 in
set_option maxRecDepth 100000 in
theorem k_20 {p : Program} {l : Launch} {e : Env} {s : State} {m : MethodId} {below : List Frame} {meth : Method} {c : Code} {bA L : Nat} {xs : Nat → Int32} {D : va_G} {t : Nat → ClassId} {b : Nat} (hfl : l.stackTraces = false) (hx : p.tables.exec = Jvm.exec) (hb : c.code = cL_law) (hml : c.maxLocals = 7) (hown : s.vm.findClass RL = some m.cls) {c9 : Cond} (hts : ∀ w ∈ c9 :: ALL, w.before #[Value.ref bA] s = true) (hE : EV D t b s) (hX : va_X bA L xs s s.heap) (hbl : bA < s.heap.size) (hbA : ¬ geA b bA) {i a1 a2 a3 a4 : Int32} (hi1 : vp_in (i + 1) L) (hi2 : vp_in (i + 2) L) (hi3 : vp_in (i + 3) L) (hi4 : vp_in (i + 4) L) (hx1 : xs (i + 1).toNatClampNeg = a1) (hx2 : xs (i + 2).toNatClampNeg = a2) (hx3 : xs (i + 3).toNatClampNeg = a3) (hx4 : xs (i + 4).toNatClampNeg = a4) {H : Heap} {locs : List Loc} {ls : Array Slot} {cells slots : Nat} {Q : State → Prop} (hcl : cells + 16 ≤ room_1.cells ∧ slots + 96 ≤ room_1.slots) {σ σr : Sg} (hW : wd D t b σ H) (hS : va_S (geA b) s.heap H locs) (hl : lv_has ls 7 [(0, .ref bA), (1, .ref (b + 0)), (2, .ref (b + 193)), (3, .ref (b + 202)), (4, .int i)]) (hf : g_20 σ a1 a2 a3 a4 = some σr) (kk : ∀ (H : Heap) (locs : List Loc) (ls : Array Slot), wd D t b σr H → va_S (geA b) s.heap H locs → lv_has ls 7 [(0, .ref bA), (1, .ref (b + 0)), (2, .ref (b + 193)), (3, .ref (b + 202)), (4, .int i)] → W p l e room_1 s m #[Value.ref bA] below meth c H locs (cells + 16) (slots + 96) Q (F0 m 2838 ls [])) : W p l e room_1 s m #[Value.ref bA] below meth c H locs cells slots Q (F0 m 1341 ls []) := by
  have hta := fun w h => hts w (List.mem_cons_of_mem _ h)
  unfold g_20 at hf
  refine lv_aload_n hx hb dL_law_1341 rfl (lv_at hl 1 rfl) ?_
  refine lv_aload_n hx hb dL_law_1342 rfl (lv_at hl 0 rfl) ?_
  refine lv_iload hx hb dL_law_1343 (lv_at hl 4 rfl) ?_
  refine lv_iconst (v := 1) hx hb dL_law_1345 (by decide) ?_
  refine lv_iadd hx hb dL_law_1346 ?_
  refine va_sld hx hb hX hbl hbA hS hi1 dL_law_1347 ?_
  rw [hx1]
  refine lv_aload_n hx hb dL_law_1348 rfl (lv_at hl 3 rfl) ?_
  obtain ⟨y2, σ1, u3, hf⟩ := b2_e hf
  refine mSH (n := 3) (As := [.ref (b + 0), .int a1, .ref (b + 202)]) (rest := []) (c_L_stallOn l hfl D t b σ a1 y2 σ1 u3) hx hb hml hown hts hE hW hS q999 q1000 q90 qw_L_stallOn hs_L_stallOn ⟨rfl, rfl⟩ ⟨Nat.le_of_ble_eq_true rfl, Nat.le_of_ble_eq_true rfl⟩ rfl rfl hl.1 (Nat.le_of_ble_eq_true rfl) ⟨by obtain ⟨hc1, hc2⟩ := hcl; omega, by obtain ⟨hc1, hc2⟩ := hcl; omega⟩ dL_law_1349 (fun H locs hW hS => ?_)
  refine lv_istore (lv' := [(5, .int y2), (0, .ref bA), (1, .ref (b + 0)), (2, .ref (b + 193)), (3, .ref (b + 202)), (4, .int i)]) hx hb dL_law_1352 hl (by decide) rfl (fun ls hl => ?_)
  refine lv_aload_n hx hb dL_law_1354 rfl (lv_at hl 3 rfl) ?_
  refine lv_aload_n hx hb dL_law_1355 rfl (lv_at hl 1 rfl) ?_
  refine lv_iload hx hb dL_law_1356 (lv_at hl 5 rfl) ?_
  refine lv_iconst (v := 1) hx hb dL_law_1358 (by decide) ?_
  refine lv_iadd hx hb dL_law_1359 ?_
  refine va_sld hx hb hX hbl hbA hS hi1 dL_law_1360 ?_
  rw [hx1]
  obtain ⟨y4, σ6, u5, hf⟩ := b2_e hf
  refine mV (k := 193) (q := (5, 0)) (C := RX5) (T := TX5) (N := 14) (ci := 5) (n := 1) (As := [.int a1]) (rest := []) (c_X5_stallOn l D t b σ1 a1 y4 σ6 u5) sh_193 (by decide) rfl rfl hx hb hml hown hts hE hW hS q1548 q1549 q1550 q96 q1551 hy_X5_stallOn ⟨rfl, rfl⟩ ⟨Nat.le_of_ble_eq_true rfl, Nat.le_of_ble_eq_true rfl⟩ rfl rfl hl.1 (Nat.le_of_ble_eq_true rfl) ⟨by obtain ⟨hc1, hc2⟩ := hcl; omega, by obtain ⟨hc1, hc2⟩ := hcl; omega⟩ dL_law_1361 (fun H locs hW hS => ?_)
  refine lv_istore (lv' := [(6, .int y4), (5, .int y2), (0, .ref bA), (1, .ref (b + 0)), (2, .ref (b + 193)), (3, .ref (b + 202)), (4, .int i)]) hx hb dL_law_1364 hl (by decide) rfl (fun ls hl => ?_)
  refine lv_aload_n hx hb dL_law_1366 rfl (lv_at hl 4 rfl) ?_
  obtain ⟨y7, u8, hf⟩ := b1_e hf
  refine mV (k := 193) (q := (5, 0)) (C := RX5) (T := TX5) (N := 14) (ci := 5) (n := 0) (As := []) (rest := []) (c_X5_thrown l D t b σ6 y7 u8) sh_193 (by decide) rfl rfl hx hb hml hown hts hE hW hS q1224 q1225 q1226 q96 q1227 hy_X5_thrown ⟨rfl, rfl⟩ ⟨Nat.le_of_ble_eq_true rfl, Nat.le_of_ble_eq_true rfl⟩ rfl rfl hl.1 (Nat.le_of_ble_eq_true rfl) ⟨by obtain ⟨hc1, hc2⟩ := hcl; omega, by obtain ⟨hc1, hc2⟩ := hcl; omega⟩ dL_law_1367 (fun H locs hW hS => ?_)
  refine lv_iload hx hb dL_law_1370 (lv_at hl 1 rfl) ?_
  refine lv_icmp_eq (tgt := 1377) hx hb dL_law_1372 (by decide) (fun h9 => ?_) (fun h9 => ?_)
  · have hf := ifp h9 hf
    refine lv_iload hx hb dL_law_1377 (lv_at hl 1 rfl) ?_
    refine lv_if_ne (tgt := 1394) hx hb dL_law_1379 (by decide) (fun h10 => ?_) (fun h10 => ?_)
    · have hf := ifn h10 hf
      refine lv_goto (tgt := 2838) hx hb dL_law_1394 (by decide) ?_
      cases hf
      refine W.widen (k := cells + 16) (n := slots + 96) (by omega) (by omega) ?_
      exact kk _ _ _ hW hS (lv_sub hl [2, 3, 4, 5, 6] rfl)
    · have hf := ifp h10 hf
      refine lv_aload_n hx hb dL_law_1382 rfl (lv_at hl 5 rfl) ?_
      refine lv_iconst (v := 0) hx hb dL_law_1383 (by decide) ?_
      refine lald hx hb hE.1 hW sh_202 (vp_lit (by decide +kernel)) dL_law_1384 ?_
      refine lv_iload hx hb dL_law_1385 (lv_at hl 0 rfl) ?_
      refine lv_i2l hx hb dL_law_1387 rfl ?_
      refine lcmp_if (tgt := 1394) hx hb dL_law_1388 dL_law_1389 (by decide) (fun h11 => ?_) (fun h11 => ?_)
      · have hf := ifp h11 hf
        refine lv_goto (tgt := 2838) hx hb dL_law_1394 (by decide) ?_
        cases hf
        refine W.widen (k := cells + 16) (n := slots + 96) (by omega) (by omega) ?_
        exact kk _ _ _ hW hS (lv_sub hl [2, 3, 4, 5, 6] rfl)
      · have hf := ifn h11 hf
        refine lv_iconst (v := 0) hx hb dL_law_1392 (by decide) ?_
        cases hf
  · have hf := ifn h9 hf
    refine lv_iconst (v := 0) hx hb dL_law_1375 (by decide) ?_
    cases hf
def g_21 (σ : Sg) (a1 a2 a3 a4 : Int32) : Option Sg := b2 (f_L_priceOf σ a1) fun y2 σ1 => b2 (f_X5_priceOf σ1 a1) fun y4 σ6 => b1 (f_X5_thrown σ6) fun y7 => if y7 = y2 then (if y2 = 0 then (if (σ6 202 (0 : Int32).toNatClampNeg) = y4 then (some σ6) else (none)) else (some σ6)) else (none)
set_option maxHeartbeats 4000000 in
set_option maxRecDepth 100000 in
theorem k_21 {p : Program} {l : Launch} {e : Env} {s : State} {m : MethodId} {below : List Frame} {meth : Method} {c : Code} {bA L : Nat} {xs : Nat → Int32} {D : va_G} {t : Nat → ClassId} {b : Nat} (hfl : l.stackTraces = false) (hx : p.tables.exec = Jvm.exec) (hb : c.code = cL_law) (hml : c.maxLocals = 7) (hown : s.vm.findClass RL = some m.cls) {c9 : Cond} (hts : ∀ w ∈ c9 :: ALL, w.before #[Value.ref bA] s = true) (hE : EV D t b s) (hX : va_X bA L xs s s.heap) (hbl : bA < s.heap.size) (hbA : ¬ geA b bA) {i a1 a2 a3 a4 : Int32} (hi1 : vp_in (i + 1) L) (hi2 : vp_in (i + 2) L) (hi3 : vp_in (i + 3) L) (hi4 : vp_in (i + 4) L) (hx1 : xs (i + 1).toNatClampNeg = a1) (hx2 : xs (i + 2).toNatClampNeg = a2) (hx3 : xs (i + 3).toNatClampNeg = a3) (hx4 : xs (i + 4).toNatClampNeg = a4) {H : Heap} {locs : List Loc} {ls : Array Slot} {cells slots : Nat} {Q : State → Prop} (hcl : cells + 16 ≤ room_1.cells ∧ slots + 96 ≤ room_1.slots) {σ σr : Sg} (hW : wd D t b σ H) (hS : va_S (geA b) s.heap H locs) (hl : lv_has ls 7 [(0, .ref bA), (1, .ref (b + 0)), (2, .ref (b + 193)), (3, .ref (b + 202)), (4, .int i)]) (hf : g_21 σ a1 a2 a3 a4 = some σr) (kk : ∀ (H : Heap) (locs : List Loc) (ls : Array Slot), wd D t b σr H → va_S (geA b) s.heap H locs → lv_has ls 7 [(0, .ref bA), (1, .ref (b + 0)), (2, .ref (b + 193)), (3, .ref (b + 202)), (4, .int i)] → W p l e room_1 s m #[Value.ref bA] below meth c H locs (cells + 16) (slots + 96) Q (F0 m 2838 ls [])) : W p l e room_1 s m #[Value.ref bA] below meth c H locs cells slots Q (F0 m 1397 ls []) := by
  have hta := fun w h => hts w (List.mem_cons_of_mem _ h)
  unfold g_21 at hf
  refine lv_aload_n hx hb dL_law_1397 rfl (lv_at hl 1 rfl) ?_
  refine lv_aload_n hx hb dL_law_1398 rfl (lv_at hl 0 rfl) ?_
  refine lv_iload hx hb dL_law_1399 (lv_at hl 4 rfl) ?_
  refine lv_iconst (v := 1) hx hb dL_law_1401 (by decide) ?_
  refine lv_iadd hx hb dL_law_1402 ?_
  refine va_sld hx hb hX hbl hbA hS hi1 dL_law_1403 ?_
  rw [hx1]
  refine lv_aload_n hx hb dL_law_1404 rfl (lv_at hl 3 rfl) ?_
  obtain ⟨y2, σ1, u3, hf⟩ := b2_e hf
  refine mSH (n := 3) (As := [.ref (b + 0), .int a1, .ref (b + 202)]) (rest := []) (c_L_priceOf l hfl D t b σ a1 y2 σ1 u3) hx hb hml hown hts hE hW hS q1007 q1008 q90 qw_L_priceOf hs_L_priceOf ⟨rfl, rfl⟩ ⟨Nat.le_of_ble_eq_true rfl, Nat.le_of_ble_eq_true rfl⟩ rfl rfl hl.1 (Nat.le_of_ble_eq_true rfl) ⟨by obtain ⟨hc1, hc2⟩ := hcl; omega, by obtain ⟨hc1, hc2⟩ := hcl; omega⟩ dL_law_1405 (fun H locs hW hS => ?_)
  refine lv_istore (lv' := [(5, .int y2), (0, .ref bA), (1, .ref (b + 0)), (2, .ref (b + 193)), (3, .ref (b + 202)), (4, .int i)]) hx hb dL_law_1408 hl (by decide) rfl (fun ls hl => ?_)
  refine lv_aload_n hx hb dL_law_1410 rfl (lv_at hl 3 rfl) ?_
  refine lv_aload_n hx hb dL_law_1411 rfl (lv_at hl 1 rfl) ?_
  refine lv_iload hx hb dL_law_1412 (lv_at hl 5 rfl) ?_
  refine lv_iconst (v := 1) hx hb dL_law_1414 (by decide) ?_
  refine lv_iadd hx hb dL_law_1415 ?_
  refine va_sld hx hb hX hbl hbA hS hi1 dL_law_1416 ?_
  rw [hx1]
  obtain ⟨y4, σ6, u5, hf⟩ := b2_e hf
  refine mV (k := 193) (q := (5, 0)) (C := RX5) (T := TX5) (N := 14) (ci := 5) (n := 1) (As := [.int a1]) (rest := []) (c_X5_priceOf l D t b σ1 a1 y4 σ6 u5) sh_193 (by decide) rfl rfl hx hb hml hown hts hE hW hS q1552 q1553 q1554 q96 q1555 hy_X5_priceOf ⟨rfl, rfl⟩ ⟨Nat.le_of_ble_eq_true rfl, Nat.le_of_ble_eq_true rfl⟩ rfl rfl hl.1 (Nat.le_of_ble_eq_true rfl) ⟨by obtain ⟨hc1, hc2⟩ := hcl; omega, by obtain ⟨hc1, hc2⟩ := hcl; omega⟩ dL_law_1417 (fun H locs hW hS => ?_)
  refine lv_istore (lv' := [(6, .int y4), (5, .int y2), (0, .ref bA), (1, .ref (b + 0)), (2, .ref (b + 193)), (3, .ref (b + 202)), (4, .int i)]) hx hb dL_law_1420 hl (by decide) rfl (fun ls hl => ?_)
  refine lv_aload_n hx hb dL_law_1422 rfl (lv_at hl 4 rfl) ?_
  obtain ⟨y7, u8, hf⟩ := b1_e hf
  refine mV (k := 193) (q := (5, 0)) (C := RX5) (T := TX5) (N := 14) (ci := 5) (n := 0) (As := []) (rest := []) (c_X5_thrown l D t b σ6 y7 u8) sh_193 (by decide) rfl rfl hx hb hml hown hts hE hW hS q1224 q1225 q1226 q96 q1227 hy_X5_thrown ⟨rfl, rfl⟩ ⟨Nat.le_of_ble_eq_true rfl, Nat.le_of_ble_eq_true rfl⟩ rfl rfl hl.1 (Nat.le_of_ble_eq_true rfl) ⟨by obtain ⟨hc1, hc2⟩ := hcl; omega, by obtain ⟨hc1, hc2⟩ := hcl; omega⟩ dL_law_1423 (fun H locs hW hS => ?_)
  refine lv_iload hx hb dL_law_1426 (lv_at hl 1 rfl) ?_
  refine lv_icmp_eq (tgt := 1433) hx hb dL_law_1428 (by decide) (fun h9 => ?_) (fun h9 => ?_)
  · have hf := ifp h9 hf
    refine lv_iload hx hb dL_law_1433 (lv_at hl 1 rfl) ?_
    refine lv_if_ne (tgt := 1450) hx hb dL_law_1435 (by decide) (fun h10 => ?_) (fun h10 => ?_)
    · have hf := ifn h10 hf
      refine lv_goto (tgt := 2838) hx hb dL_law_1450 (by decide) ?_
      cases hf
      refine W.widen (k := cells + 16) (n := slots + 96) (by omega) (by omega) ?_
      exact kk _ _ _ hW hS (lv_sub hl [2, 3, 4, 5, 6] rfl)
    · have hf := ifp h10 hf
      refine lv_aload_n hx hb dL_law_1438 rfl (lv_at hl 5 rfl) ?_
      refine lv_iconst (v := 0) hx hb dL_law_1439 (by decide) ?_
      refine lald hx hb hE.1 hW sh_202 (vp_lit (by decide +kernel)) dL_law_1440 ?_
      refine lv_iload hx hb dL_law_1441 (lv_at hl 0 rfl) ?_
      refine lv_i2l hx hb dL_law_1443 rfl ?_
      refine lcmp_if (tgt := 1450) hx hb dL_law_1444 dL_law_1445 (by decide) (fun h11 => ?_) (fun h11 => ?_)
      · have hf := ifp h11 hf
        refine lv_goto (tgt := 2838) hx hb dL_law_1450 (by decide) ?_
        cases hf
        refine W.widen (k := cells + 16) (n := slots + 96) (by omega) (by omega) ?_
        exact kk _ _ _ hW hS (lv_sub hl [2, 3, 4, 5, 6] rfl)
      · have hf := ifn h11 hf
        refine lv_iconst (v := 0) hx hb dL_law_1448 (by decide) ?_
        cases hf
  · have hf := ifn h9 hf
    refine lv_iconst (v := 0) hx hb dL_law_1431 (by decide) ?_
    cases hf
def g_22 (σ : Sg) (a1 a2 a3 a4 : Int32) : Option Sg := b2 (f_L_isOpen σ a1) fun y2 σ1 => b2 (f_X5_isOpen σ1 a1) fun y4 σ6 => b1 (f_X5_thrown σ6) fun y7 => if y7 = y2 then (if y2 = 0 then (if y4 = 0 then (if (σ6 202 (0 : Int32).toNatClampNeg) = 0 then (some σ6) else (none)) else (if (σ6 202 (0 : Int32).toNatClampNeg) = 1 then (some σ6) else (none))) else (some σ6)) else (none)
set_option maxHeartbeats 4000000 in
set_option maxRecDepth 100000 in
theorem k_22 {p : Program} {l : Launch} {e : Env} {s : State} {m : MethodId} {below : List Frame} {meth : Method} {c : Code} {bA L : Nat} {xs : Nat → Int32} {D : va_G} {t : Nat → ClassId} {b : Nat} (hfl : l.stackTraces = false) (hx : p.tables.exec = Jvm.exec) (hb : c.code = cL_law) (hml : c.maxLocals = 7) (hown : s.vm.findClass RL = some m.cls) {c9 : Cond} (hts : ∀ w ∈ c9 :: ALL, w.before #[Value.ref bA] s = true) (hE : EV D t b s) (hX : va_X bA L xs s s.heap) (hbl : bA < s.heap.size) (hbA : ¬ geA b bA) {i a1 a2 a3 a4 : Int32} (hi1 : vp_in (i + 1) L) (hi2 : vp_in (i + 2) L) (hi3 : vp_in (i + 3) L) (hi4 : vp_in (i + 4) L) (hx1 : xs (i + 1).toNatClampNeg = a1) (hx2 : xs (i + 2).toNatClampNeg = a2) (hx3 : xs (i + 3).toNatClampNeg = a3) (hx4 : xs (i + 4).toNatClampNeg = a4) {H : Heap} {locs : List Loc} {ls : Array Slot} {cells slots : Nat} {Q : State → Prop} (hcl : cells + 16 ≤ room_1.cells ∧ slots + 96 ≤ room_1.slots) {σ σr : Sg} (hW : wd D t b σ H) (hS : va_S (geA b) s.heap H locs) (hl : lv_has ls 7 [(0, .ref bA), (1, .ref (b + 0)), (2, .ref (b + 193)), (3, .ref (b + 202)), (4, .int i)]) (hf : g_22 σ a1 a2 a3 a4 = some σr) (kk : ∀ (H : Heap) (locs : List Loc) (ls : Array Slot), wd D t b σr H → va_S (geA b) s.heap H locs → lv_has ls 7 [(0, .ref bA), (1, .ref (b + 0)), (2, .ref (b + 193)), (3, .ref (b + 202)), (4, .int i)] → W p l e room_1 s m #[Value.ref bA] below meth c H locs (cells + 16) (slots + 96) Q (F0 m 2838 ls [])) : W p l e room_1 s m #[Value.ref bA] below meth c H locs cells slots Q (F0 m 1453 ls []) := by
  have hta := fun w h => hts w (List.mem_cons_of_mem _ h)
  unfold g_22 at hf
  refine lv_aload_n hx hb dL_law_1453 rfl (lv_at hl 1 rfl) ?_
  refine lv_aload_n hx hb dL_law_1454 rfl (lv_at hl 0 rfl) ?_
  refine lv_iload hx hb dL_law_1455 (lv_at hl 4 rfl) ?_
  refine lv_iconst (v := 1) hx hb dL_law_1457 (by decide) ?_
  refine lv_iadd hx hb dL_law_1458 ?_
  refine va_sld hx hb hX hbl hbA hS hi1 dL_law_1459 ?_
  rw [hx1]
  refine lv_aload_n hx hb dL_law_1460 rfl (lv_at hl 3 rfl) ?_
  obtain ⟨y2, σ1, u3, hf⟩ := b2_e hf
  refine mSH (n := 3) (As := [.ref (b + 0), .int a1, .ref (b + 202)]) (rest := []) (c_L_isOpen l hfl D t b σ a1 y2 σ1 u3) hx hb hml hown hts hE hW hS q1014 q1015 q90 qw_L_isOpen hs_L_isOpen ⟨rfl, rfl⟩ ⟨Nat.le_of_ble_eq_true rfl, Nat.le_of_ble_eq_true rfl⟩ rfl rfl hl.1 (Nat.le_of_ble_eq_true rfl) ⟨by obtain ⟨hc1, hc2⟩ := hcl; omega, by obtain ⟨hc1, hc2⟩ := hcl; omega⟩ dL_law_1461 (fun H locs hW hS => ?_)
  refine lv_istore (lv' := [(5, .int y2), (0, .ref bA), (1, .ref (b + 0)), (2, .ref (b + 193)), (3, .ref (b + 202)), (4, .int i)]) hx hb dL_law_1464 hl (by decide) rfl (fun ls hl => ?_)
  refine lv_aload_n hx hb dL_law_1466 rfl (lv_at hl 3 rfl) ?_
  refine lv_aload_n hx hb dL_law_1467 rfl (lv_at hl 1 rfl) ?_
  refine lv_iload hx hb dL_law_1468 (lv_at hl 5 rfl) ?_
  refine lv_iconst (v := 1) hx hb dL_law_1470 (by decide) ?_
  refine lv_iadd hx hb dL_law_1471 ?_
  refine va_sld hx hb hX hbl hbA hS hi1 dL_law_1472 ?_
  rw [hx1]
  obtain ⟨y4, σ6, u5, hf⟩ := b2_e hf
  refine mV (k := 193) (q := (5, 0)) (C := RX5) (T := TX5) (N := 14) (ci := 5) (n := 1) (As := [.int a1]) (rest := []) (c_X5_isOpen l D t b σ1 a1 y4 σ6 u5) sh_193 (by decide) rfl rfl hx hb hml hown hts hE hW hS q1556 q1557 q1558 q96 q1559 hy_X5_isOpen ⟨rfl, rfl⟩ ⟨Nat.le_of_ble_eq_true rfl, Nat.le_of_ble_eq_true rfl⟩ rfl rfl hl.1 (Nat.le_of_ble_eq_true rfl) ⟨by obtain ⟨hc1, hc2⟩ := hcl; omega, by obtain ⟨hc1, hc2⟩ := hcl; omega⟩ dL_law_1473 (fun H locs hW hS => ?_)
  refine lv_istore (lv' := [(6, .int y4), (5, .int y2), (0, .ref bA), (1, .ref (b + 0)), (2, .ref (b + 193)), (3, .ref (b + 202)), (4, .int i)]) hx hb dL_law_1476 hl (by decide) rfl (fun ls hl => ?_)
  refine lv_aload_n hx hb dL_law_1478 rfl (lv_at hl 4 rfl) ?_
  obtain ⟨y7, u8, hf⟩ := b1_e hf
  refine mV (k := 193) (q := (5, 0)) (C := RX5) (T := TX5) (N := 14) (ci := 5) (n := 0) (As := []) (rest := []) (c_X5_thrown l D t b σ6 y7 u8) sh_193 (by decide) rfl rfl hx hb hml hown hts hE hW hS q1224 q1225 q1226 q96 q1227 hy_X5_thrown ⟨rfl, rfl⟩ ⟨Nat.le_of_ble_eq_true rfl, Nat.le_of_ble_eq_true rfl⟩ rfl rfl hl.1 (Nat.le_of_ble_eq_true rfl) ⟨by obtain ⟨hc1, hc2⟩ := hcl; omega, by obtain ⟨hc1, hc2⟩ := hcl; omega⟩ dL_law_1479 (fun H locs hW hS => ?_)
  refine lv_iload hx hb dL_law_1482 (lv_at hl 1 rfl) ?_
  refine lv_icmp_eq (tgt := 1489) hx hb dL_law_1484 (by decide) (fun h9 => ?_) (fun h9 => ?_)
  · have hf := ifp h9 hf
    refine lv_iload hx hb dL_law_1489 (lv_at hl 1 rfl) ?_
    refine lv_if_ne (tgt := 1513) hx hb dL_law_1491 (by decide) (fun h10 => ?_) (fun h10 => ?_)
    · have hf := ifn h10 hf
      refine lv_goto (tgt := 2838) hx hb dL_law_1513 (by decide) ?_
      cases hf
      refine W.widen (k := cells + 16) (n := slots + 96) (by omega) (by omega) ?_
      exact kk _ _ _ hW hS (lv_sub hl [2, 3, 4, 5, 6] rfl)
    · have hf := ifp h10 hf
      refine lv_aload_n hx hb dL_law_1494 rfl (lv_at hl 5 rfl) ?_
      refine lv_iconst (v := 0) hx hb dL_law_1495 (by decide) ?_
      refine lald hx hb hE.1 hW sh_202 (vp_lit (by decide +kernel)) dL_law_1496 ?_
      refine lv_iload hx hb dL_law_1497 (lv_at hl 0 rfl) ?_
      refine lv_if_eq (tgt := 1506) hx hb dL_law_1499 (by decide) (fun h11 => ?_) (fun h11 => ?_)
      · have hf := ifp h11 hf
        refine lv_lconst (v := (0 : Int32).toInt64) hx hb dL_law_1506 (by decide) ?_
        refine lcmp_if (tgt := 1513) hx hb dL_law_1507 dL_law_1508 (by decide) (fun h12 => ?_) (fun h12 => ?_)
        · have hf := ifp h12 hf
          refine lv_goto (tgt := 2838) hx hb dL_law_1513 (by decide) ?_
          cases hf
          refine W.widen (k := cells + 16) (n := slots + 96) (by omega) (by omega) ?_
          exact kk _ _ _ hW hS (lv_sub hl [2, 3, 4, 5, 6] rfl)
        · have hf := ifn h12 hf
          refine lv_iconst (v := 0) hx hb dL_law_1511 (by decide) ?_
          cases hf
      · have hf := ifn h11 hf
        refine lv_lconst (v := (1 : Int32).toInt64) hx hb dL_law_1502 (by decide) ?_
        refine lv_goto (tgt := 1507) hx hb dL_law_1503 (by decide) ?_
        refine lcmp_if (tgt := 1513) hx hb dL_law_1507 dL_law_1508 (by decide) (fun h13 => ?_) (fun h13 => ?_)
        · have hf := ifp h13 hf
          refine lv_goto (tgt := 2838) hx hb dL_law_1513 (by decide) ?_
          cases hf
          refine W.widen (k := cells + 16) (n := slots + 96) (by omega) (by omega) ?_
          exact kk _ _ _ hW hS (lv_sub hl [2, 3, 4, 5, 6] rfl)
        · have hf := ifn h13 hf
          refine lv_iconst (v := 0) hx hb dL_law_1511 (by decide) ?_
          cases hf
  · have hf := ifn h9 hf
    refine lv_iconst (v := 0) hx hb dL_law_1487 (by decide) ?_
    cases hf
def g_23 (σ : Sg) (a1 a2 a3 a4 : Int32) : Option Sg := b2 (f_L_purseOfStall σ a1) fun y2 σ1 => b2 (f_X5_purseOfStall σ1 a1) fun y4 σ6 => b1 (f_X5_thrown σ6) fun y7 => if y7 = y2 then (if y2 = 0 then (if (σ6 202 (0 : Int32).toNatClampNeg) = y4 then (some σ6) else (none)) else (some σ6)) else (none)
set_option maxHeartbeats 4000000 in
set_option maxRecDepth 100000 in
theorem k_23 {p : Program} {l : Launch} {e : Env} {s : State} {m : MethodId} {below : List Frame} {meth : Method} {c : Code} {bA L : Nat} {xs : Nat → Int32} {D : va_G} {t : Nat → ClassId} {b : Nat} (hfl : l.stackTraces = false) (hx : p.tables.exec = Jvm.exec) (hb : c.code = cL_law) (hml : c.maxLocals = 7) (hown : s.vm.findClass RL = some m.cls) {c9 : Cond} (hts : ∀ w ∈ c9 :: ALL, w.before #[Value.ref bA] s = true) (hE : EV D t b s) (hX : va_X bA L xs s s.heap) (hbl : bA < s.heap.size) (hbA : ¬ geA b bA) {i a1 a2 a3 a4 : Int32} (hi1 : vp_in (i + 1) L) (hi2 : vp_in (i + 2) L) (hi3 : vp_in (i + 3) L) (hi4 : vp_in (i + 4) L) (hx1 : xs (i + 1).toNatClampNeg = a1) (hx2 : xs (i + 2).toNatClampNeg = a2) (hx3 : xs (i + 3).toNatClampNeg = a3) (hx4 : xs (i + 4).toNatClampNeg = a4) {H : Heap} {locs : List Loc} {ls : Array Slot} {cells slots : Nat} {Q : State → Prop} (hcl : cells + 16 ≤ room_1.cells ∧ slots + 96 ≤ room_1.slots) {σ σr : Sg} (hW : wd D t b σ H) (hS : va_S (geA b) s.heap H locs) (hl : lv_has ls 7 [(0, .ref bA), (1, .ref (b + 0)), (2, .ref (b + 193)), (3, .ref (b + 202)), (4, .int i)]) (hf : g_23 σ a1 a2 a3 a4 = some σr) (kk : ∀ (H : Heap) (locs : List Loc) (ls : Array Slot), wd D t b σr H → va_S (geA b) s.heap H locs → lv_has ls 7 [(0, .ref bA), (1, .ref (b + 0)), (2, .ref (b + 193)), (3, .ref (b + 202)), (4, .int i)] → W p l e room_1 s m #[Value.ref bA] below meth c H locs (cells + 16) (slots + 96) Q (F0 m 2838 ls [])) : W p l e room_1 s m #[Value.ref bA] below meth c H locs cells slots Q (F0 m 1516 ls []) := by
  have hta := fun w h => hts w (List.mem_cons_of_mem _ h)
  unfold g_23 at hf
  refine lv_aload_n hx hb dL_law_1516 rfl (lv_at hl 1 rfl) ?_
  refine lv_aload_n hx hb dL_law_1517 rfl (lv_at hl 0 rfl) ?_
  refine lv_iload hx hb dL_law_1518 (lv_at hl 4 rfl) ?_
  refine lv_iconst (v := 1) hx hb dL_law_1520 (by decide) ?_
  refine lv_iadd hx hb dL_law_1521 ?_
  refine va_sld hx hb hX hbl hbA hS hi1 dL_law_1522 ?_
  rw [hx1]
  refine lv_aload_n hx hb dL_law_1523 rfl (lv_at hl 3 rfl) ?_
  obtain ⟨y2, σ1, u3, hf⟩ := b2_e hf
  refine mSH (n := 3) (As := [.ref (b + 0), .int a1, .ref (b + 202)]) (rest := []) (c_L_purseOfStall l hfl D t b σ a1 y2 σ1 u3) hx hb hml hown hts hE hW hS q1021 q1022 q90 qw_L_purseOfStall hs_L_purseOfStall ⟨rfl, rfl⟩ ⟨Nat.le_of_ble_eq_true rfl, Nat.le_of_ble_eq_true rfl⟩ rfl rfl hl.1 (Nat.le_of_ble_eq_true rfl) ⟨by obtain ⟨hc1, hc2⟩ := hcl; omega, by obtain ⟨hc1, hc2⟩ := hcl; omega⟩ dL_law_1524 (fun H locs hW hS => ?_)
  refine lv_istore (lv' := [(5, .int y2), (0, .ref bA), (1, .ref (b + 0)), (2, .ref (b + 193)), (3, .ref (b + 202)), (4, .int i)]) hx hb dL_law_1527 hl (by decide) rfl (fun ls hl => ?_)
  refine lv_aload_n hx hb dL_law_1529 rfl (lv_at hl 3 rfl) ?_
  refine lv_aload_n hx hb dL_law_1530 rfl (lv_at hl 1 rfl) ?_
  refine lv_iload hx hb dL_law_1531 (lv_at hl 5 rfl) ?_
  refine lv_iconst (v := 1) hx hb dL_law_1533 (by decide) ?_
  refine lv_iadd hx hb dL_law_1534 ?_
  refine va_sld hx hb hX hbl hbA hS hi1 dL_law_1535 ?_
  rw [hx1]
  obtain ⟨y4, σ6, u5, hf⟩ := b2_e hf
  refine mV (k := 193) (q := (5, 0)) (C := RX5) (T := TX5) (N := 14) (ci := 5) (n := 1) (As := [.int a1]) (rest := []) (c_X5_purseOfStall l D t b σ1 a1 y4 σ6 u5) sh_193 (by decide) rfl rfl hx hb hml hown hts hE hW hS q1560 q1561 q1562 q96 q1563 hy_X5_purseOfStall ⟨rfl, rfl⟩ ⟨Nat.le_of_ble_eq_true rfl, Nat.le_of_ble_eq_true rfl⟩ rfl rfl hl.1 (Nat.le_of_ble_eq_true rfl) ⟨by obtain ⟨hc1, hc2⟩ := hcl; omega, by obtain ⟨hc1, hc2⟩ := hcl; omega⟩ dL_law_1536 (fun H locs hW hS => ?_)
  refine lv_istore (lv' := [(6, .int y4), (5, .int y2), (0, .ref bA), (1, .ref (b + 0)), (2, .ref (b + 193)), (3, .ref (b + 202)), (4, .int i)]) hx hb dL_law_1539 hl (by decide) rfl (fun ls hl => ?_)
  refine lv_aload_n hx hb dL_law_1541 rfl (lv_at hl 4 rfl) ?_
  obtain ⟨y7, u8, hf⟩ := b1_e hf
  refine mV (k := 193) (q := (5, 0)) (C := RX5) (T := TX5) (N := 14) (ci := 5) (n := 0) (As := []) (rest := []) (c_X5_thrown l D t b σ6 y7 u8) sh_193 (by decide) rfl rfl hx hb hml hown hts hE hW hS q1224 q1225 q1226 q96 q1227 hy_X5_thrown ⟨rfl, rfl⟩ ⟨Nat.le_of_ble_eq_true rfl, Nat.le_of_ble_eq_true rfl⟩ rfl rfl hl.1 (Nat.le_of_ble_eq_true rfl) ⟨by obtain ⟨hc1, hc2⟩ := hcl; omega, by obtain ⟨hc1, hc2⟩ := hcl; omega⟩ dL_law_1542 (fun H locs hW hS => ?_)
  refine lv_iload hx hb dL_law_1545 (lv_at hl 1 rfl) ?_
  refine lv_icmp_eq (tgt := 1552) hx hb dL_law_1547 (by decide) (fun h9 => ?_) (fun h9 => ?_)
  · have hf := ifp h9 hf
    refine lv_iload hx hb dL_law_1552 (lv_at hl 1 rfl) ?_
    refine lv_if_ne (tgt := 1569) hx hb dL_law_1554 (by decide) (fun h10 => ?_) (fun h10 => ?_)
    · have hf := ifn h10 hf
      refine lv_goto (tgt := 2838) hx hb dL_law_1569 (by decide) ?_
      cases hf
      refine W.widen (k := cells + 16) (n := slots + 96) (by omega) (by omega) ?_
      exact kk _ _ _ hW hS (lv_sub hl [2, 3, 4, 5, 6] rfl)
    · have hf := ifp h10 hf
      refine lv_aload_n hx hb dL_law_1557 rfl (lv_at hl 5 rfl) ?_
      refine lv_iconst (v := 0) hx hb dL_law_1558 (by decide) ?_
      refine lald hx hb hE.1 hW sh_202 (vp_lit (by decide +kernel)) dL_law_1559 ?_
      refine lv_iload hx hb dL_law_1560 (lv_at hl 0 rfl) ?_
      refine lv_i2l hx hb dL_law_1562 rfl ?_
      refine lcmp_if (tgt := 1569) hx hb dL_law_1563 dL_law_1564 (by decide) (fun h11 => ?_) (fun h11 => ?_)
      · have hf := ifp h11 hf
        refine lv_goto (tgt := 2838) hx hb dL_law_1569 (by decide) ?_
        cases hf
        refine W.widen (k := cells + 16) (n := slots + 96) (by omega) (by omega) ?_
        exact kk _ _ _ hW hS (lv_sub hl [2, 3, 4, 5, 6] rfl)
      · have hf := ifn h11 hf
        refine lv_iconst (v := 0) hx hb dL_law_1567 (by decide) ?_
        cases hf
  · have hf := ifn h9 hf
    refine lv_iconst (v := 0) hx hb dL_law_1550 (by decide) ?_
    cases hf
def g_24 (σ : Sg) (a1 a2 a3 a4 : Int32) : Option Sg := b2 (f_L_playsOf σ a1) fun y2 σ1 => b2 (f_X5_playsOf σ1 a1) fun y4 σ6 => b1 (f_X5_thrown σ6) fun y7 => if y7 = y2 then (if y2 = 0 then (if (σ6 202 (0 : Int32).toNatClampNeg) = y4 then (some σ6) else (none)) else (some σ6)) else (none)
set_option maxHeartbeats 4000000 in
set_option maxRecDepth 100000 in
theorem k_24 {p : Program} {l : Launch} {e : Env} {s : State} {m : MethodId} {below : List Frame} {meth : Method} {c : Code} {bA L : Nat} {xs : Nat → Int32} {D : va_G} {t : Nat → ClassId} {b : Nat} (hfl : l.stackTraces = false) (hx : p.tables.exec = Jvm.exec) (hb : c.code = cL_law) (hml : c.maxLocals = 7) (hown : s.vm.findClass RL = some m.cls) {c9 : Cond} (hts : ∀ w ∈ c9 :: ALL, w.before #[Value.ref bA] s = true) (hE : EV D t b s) (hX : va_X bA L xs s s.heap) (hbl : bA < s.heap.size) (hbA : ¬ geA b bA) {i a1 a2 a3 a4 : Int32} (hi1 : vp_in (i + 1) L) (hi2 : vp_in (i + 2) L) (hi3 : vp_in (i + 3) L) (hi4 : vp_in (i + 4) L) (hx1 : xs (i + 1).toNatClampNeg = a1) (hx2 : xs (i + 2).toNatClampNeg = a2) (hx3 : xs (i + 3).toNatClampNeg = a3) (hx4 : xs (i + 4).toNatClampNeg = a4) {H : Heap} {locs : List Loc} {ls : Array Slot} {cells slots : Nat} {Q : State → Prop} (hcl : cells + 16 ≤ room_1.cells ∧ slots + 96 ≤ room_1.slots) {σ σr : Sg} (hW : wd D t b σ H) (hS : va_S (geA b) s.heap H locs) (hl : lv_has ls 7 [(0, .ref bA), (1, .ref (b + 0)), (2, .ref (b + 193)), (3, .ref (b + 202)), (4, .int i)]) (hf : g_24 σ a1 a2 a3 a4 = some σr) (kk : ∀ (H : Heap) (locs : List Loc) (ls : Array Slot), wd D t b σr H → va_S (geA b) s.heap H locs → lv_has ls 7 [(0, .ref bA), (1, .ref (b + 0)), (2, .ref (b + 193)), (3, .ref (b + 202)), (4, .int i)] → W p l e room_1 s m #[Value.ref bA] below meth c H locs (cells + 16) (slots + 96) Q (F0 m 2838 ls [])) : W p l e room_1 s m #[Value.ref bA] below meth c H locs cells slots Q (F0 m 1572 ls []) := by
  have hta := fun w h => hts w (List.mem_cons_of_mem _ h)
  unfold g_24 at hf
  refine lv_aload_n hx hb dL_law_1572 rfl (lv_at hl 1 rfl) ?_
  refine lv_aload_n hx hb dL_law_1573 rfl (lv_at hl 0 rfl) ?_
  refine lv_iload hx hb dL_law_1574 (lv_at hl 4 rfl) ?_
  refine lv_iconst (v := 1) hx hb dL_law_1576 (by decide) ?_
  refine lv_iadd hx hb dL_law_1577 ?_
  refine va_sld hx hb hX hbl hbA hS hi1 dL_law_1578 ?_
  rw [hx1]
  refine lv_aload_n hx hb dL_law_1579 rfl (lv_at hl 3 rfl) ?_
  obtain ⟨y2, σ1, u3, hf⟩ := b2_e hf
  refine mSH (n := 3) (As := [.ref (b + 0), .int a1, .ref (b + 202)]) (rest := []) (c_L_playsOf l hfl D t b σ a1 y2 σ1 u3) hx hb hml hown hts hE hW hS q1028 q1029 q90 qw_L_playsOf hs_L_playsOf ⟨rfl, rfl⟩ ⟨Nat.le_of_ble_eq_true rfl, Nat.le_of_ble_eq_true rfl⟩ rfl rfl hl.1 (Nat.le_of_ble_eq_true rfl) ⟨by obtain ⟨hc1, hc2⟩ := hcl; omega, by obtain ⟨hc1, hc2⟩ := hcl; omega⟩ dL_law_1580 (fun H locs hW hS => ?_)
  refine lv_istore (lv' := [(5, .int y2), (0, .ref bA), (1, .ref (b + 0)), (2, .ref (b + 193)), (3, .ref (b + 202)), (4, .int i)]) hx hb dL_law_1583 hl (by decide) rfl (fun ls hl => ?_)
  refine lv_aload_n hx hb dL_law_1585 rfl (lv_at hl 3 rfl) ?_
  refine lv_aload_n hx hb dL_law_1586 rfl (lv_at hl 1 rfl) ?_
  refine lv_iload hx hb dL_law_1587 (lv_at hl 5 rfl) ?_
  refine lv_iconst (v := 1) hx hb dL_law_1589 (by decide) ?_
  refine lv_iadd hx hb dL_law_1590 ?_
  refine va_sld hx hb hX hbl hbA hS hi1 dL_law_1591 ?_
  rw [hx1]
  obtain ⟨y4, σ6, u5, hf⟩ := b2_e hf
  refine mV (k := 193) (q := (5, 0)) (C := RX5) (T := TX5) (N := 14) (ci := 5) (n := 1) (As := [.int a1]) (rest := []) (c_X5_playsOf l D t b σ1 a1 y4 σ6 u5) sh_193 (by decide) rfl rfl hx hb hml hown hts hE hW hS q1564 q1565 q1566 q96 q1567 hy_X5_playsOf ⟨rfl, rfl⟩ ⟨Nat.le_of_ble_eq_true rfl, Nat.le_of_ble_eq_true rfl⟩ rfl rfl hl.1 (Nat.le_of_ble_eq_true rfl) ⟨by obtain ⟨hc1, hc2⟩ := hcl; omega, by obtain ⟨hc1, hc2⟩ := hcl; omega⟩ dL_law_1592 (fun H locs hW hS => ?_)
  refine lv_istore (lv' := [(6, .int y4), (5, .int y2), (0, .ref bA), (1, .ref (b + 0)), (2, .ref (b + 193)), (3, .ref (b + 202)), (4, .int i)]) hx hb dL_law_1595 hl (by decide) rfl (fun ls hl => ?_)
  refine lv_aload_n hx hb dL_law_1597 rfl (lv_at hl 4 rfl) ?_
  obtain ⟨y7, u8, hf⟩ := b1_e hf
  refine mV (k := 193) (q := (5, 0)) (C := RX5) (T := TX5) (N := 14) (ci := 5) (n := 0) (As := []) (rest := []) (c_X5_thrown l D t b σ6 y7 u8) sh_193 (by decide) rfl rfl hx hb hml hown hts hE hW hS q1224 q1225 q1226 q96 q1227 hy_X5_thrown ⟨rfl, rfl⟩ ⟨Nat.le_of_ble_eq_true rfl, Nat.le_of_ble_eq_true rfl⟩ rfl rfl hl.1 (Nat.le_of_ble_eq_true rfl) ⟨by obtain ⟨hc1, hc2⟩ := hcl; omega, by obtain ⟨hc1, hc2⟩ := hcl; omega⟩ dL_law_1598 (fun H locs hW hS => ?_)
  refine lv_iload hx hb dL_law_1601 (lv_at hl 1 rfl) ?_
  refine lv_icmp_eq (tgt := 1608) hx hb dL_law_1603 (by decide) (fun h9 => ?_) (fun h9 => ?_)
  · have hf := ifp h9 hf
    refine lv_iload hx hb dL_law_1608 (lv_at hl 1 rfl) ?_
    refine lv_if_ne (tgt := 1625) hx hb dL_law_1610 (by decide) (fun h10 => ?_) (fun h10 => ?_)
    · have hf := ifn h10 hf
      refine lv_goto (tgt := 2838) hx hb dL_law_1625 (by decide) ?_
      cases hf
      refine W.widen (k := cells + 16) (n := slots + 96) (by omega) (by omega) ?_
      exact kk _ _ _ hW hS (lv_sub hl [2, 3, 4, 5, 6] rfl)
    · have hf := ifp h10 hf
      refine lv_aload_n hx hb dL_law_1613 rfl (lv_at hl 5 rfl) ?_
      refine lv_iconst (v := 0) hx hb dL_law_1614 (by decide) ?_
      refine lald hx hb hE.1 hW sh_202 (vp_lit (by decide +kernel)) dL_law_1615 ?_
      refine lv_iload hx hb dL_law_1616 (lv_at hl 0 rfl) ?_
      refine lv_i2l hx hb dL_law_1618 rfl ?_
      refine lcmp_if (tgt := 1625) hx hb dL_law_1619 dL_law_1620 (by decide) (fun h11 => ?_) (fun h11 => ?_)
      · have hf := ifp h11 hf
        refine lv_goto (tgt := 2838) hx hb dL_law_1625 (by decide) ?_
        cases hf
        refine W.widen (k := cells + 16) (n := slots + 96) (by omega) (by omega) ?_
        exact kk _ _ _ hW hS (lv_sub hl [2, 3, 4, 5, 6] rfl)
      · have hf := ifn h11 hf
        refine lv_iconst (v := 0) hx hb dL_law_1623 (by decide) ?_
        cases hf
  · have hf := ifn h9 hf
    refine lv_iconst (v := 0) hx hb dL_law_1606 (by decide) ?_
    cases hf
def g_25 (σ : Sg) (a1 a2 a3 a4 : Int32) : Option Sg := b2 (f_L_rentOf σ a1) fun y2 σ1 => b2 (f_X5_rentOf σ1 a1) fun y4 σ6 => b1 (f_X5_thrown σ6) fun y7 => if y7 = y2 then (if y2 = 0 then (if (σ6 202 (0 : Int32).toNatClampNeg) = y4 then (some σ6) else (none)) else (some σ6)) else (none)
set_option maxHeartbeats 4000000 in
set_option maxRecDepth 100000 in
theorem k_25 {p : Program} {l : Launch} {e : Env} {s : State} {m : MethodId} {below : List Frame} {meth : Method} {c : Code} {bA L : Nat} {xs : Nat → Int32} {D : va_G} {t : Nat → ClassId} {b : Nat} (hfl : l.stackTraces = false) (hx : p.tables.exec = Jvm.exec) (hb : c.code = cL_law) (hml : c.maxLocals = 7) (hown : s.vm.findClass RL = some m.cls) {c9 : Cond} (hts : ∀ w ∈ c9 :: ALL, w.before #[Value.ref bA] s = true) (hE : EV D t b s) (hX : va_X bA L xs s s.heap) (hbl : bA < s.heap.size) (hbA : ¬ geA b bA) {i a1 a2 a3 a4 : Int32} (hi1 : vp_in (i + 1) L) (hi2 : vp_in (i + 2) L) (hi3 : vp_in (i + 3) L) (hi4 : vp_in (i + 4) L) (hx1 : xs (i + 1).toNatClampNeg = a1) (hx2 : xs (i + 2).toNatClampNeg = a2) (hx3 : xs (i + 3).toNatClampNeg = a3) (hx4 : xs (i + 4).toNatClampNeg = a4) {H : Heap} {locs : List Loc} {ls : Array Slot} {cells slots : Nat} {Q : State → Prop} (hcl : cells + 16 ≤ room_1.cells ∧ slots + 96 ≤ room_1.slots) {σ σr : Sg} (hW : wd D t b σ H) (hS : va_S (geA b) s.heap H locs) (hl : lv_has ls 7 [(0, .ref bA), (1, .ref (b + 0)), (2, .ref (b + 193)), (3, .ref (b + 202)), (4, .int i)]) (hf : g_25 σ a1 a2 a3 a4 = some σr) (kk : ∀ (H : Heap) (locs : List Loc) (ls : Array Slot), wd D t b σr H → va_S (geA b) s.heap H locs → lv_has ls 7 [(0, .ref bA), (1, .ref (b + 0)), (2, .ref (b + 193)), (3, .ref (b + 202)), (4, .int i)] → W p l e room_1 s m #[Value.ref bA] below meth c H locs (cells + 16) (slots + 96) Q (F0 m 2838 ls [])) : W p l e room_1 s m #[Value.ref bA] below meth c H locs cells slots Q (F0 m 1628 ls []) := by
  have hta := fun w h => hts w (List.mem_cons_of_mem _ h)
  unfold g_25 at hf
  refine lv_aload_n hx hb dL_law_1628 rfl (lv_at hl 1 rfl) ?_
  refine lv_aload_n hx hb dL_law_1629 rfl (lv_at hl 0 rfl) ?_
  refine lv_iload hx hb dL_law_1630 (lv_at hl 4 rfl) ?_
  refine lv_iconst (v := 1) hx hb dL_law_1632 (by decide) ?_
  refine lv_iadd hx hb dL_law_1633 ?_
  refine va_sld hx hb hX hbl hbA hS hi1 dL_law_1634 ?_
  rw [hx1]
  refine lv_aload_n hx hb dL_law_1635 rfl (lv_at hl 3 rfl) ?_
  obtain ⟨y2, σ1, u3, hf⟩ := b2_e hf
  refine mSH (n := 3) (As := [.ref (b + 0), .int a1, .ref (b + 202)]) (rest := []) (c_L_rentOf l hfl D t b σ a1 y2 σ1 u3) hx hb hml hown hts hE hW hS q1035 q1036 q90 qw_L_rentOf hs_L_rentOf ⟨rfl, rfl⟩ ⟨Nat.le_of_ble_eq_true rfl, Nat.le_of_ble_eq_true rfl⟩ rfl rfl hl.1 (Nat.le_of_ble_eq_true rfl) ⟨by obtain ⟨hc1, hc2⟩ := hcl; omega, by obtain ⟨hc1, hc2⟩ := hcl; omega⟩ dL_law_1636 (fun H locs hW hS => ?_)
  refine lv_istore (lv' := [(5, .int y2), (0, .ref bA), (1, .ref (b + 0)), (2, .ref (b + 193)), (3, .ref (b + 202)), (4, .int i)]) hx hb dL_law_1639 hl (by decide) rfl (fun ls hl => ?_)
  refine lv_aload_n hx hb dL_law_1641 rfl (lv_at hl 3 rfl) ?_
  refine lv_aload_n hx hb dL_law_1642 rfl (lv_at hl 1 rfl) ?_
  refine lv_iload hx hb dL_law_1643 (lv_at hl 5 rfl) ?_
  refine lv_iconst (v := 1) hx hb dL_law_1645 (by decide) ?_
  refine lv_iadd hx hb dL_law_1646 ?_
  refine va_sld hx hb hX hbl hbA hS hi1 dL_law_1647 ?_
  rw [hx1]
  obtain ⟨y4, σ6, u5, hf⟩ := b2_e hf
  refine mV (k := 193) (q := (5, 0)) (C := RX5) (T := TX5) (N := 14) (ci := 5) (n := 1) (As := [.int a1]) (rest := []) (c_X5_rentOf l D t b σ1 a1 y4 σ6 u5) sh_193 (by decide) rfl rfl hx hb hml hown hts hE hW hS q1568 q1569 q1570 q96 q1571 hy_X5_rentOf ⟨rfl, rfl⟩ ⟨Nat.le_of_ble_eq_true rfl, Nat.le_of_ble_eq_true rfl⟩ rfl rfl hl.1 (Nat.le_of_ble_eq_true rfl) ⟨by obtain ⟨hc1, hc2⟩ := hcl; omega, by obtain ⟨hc1, hc2⟩ := hcl; omega⟩ dL_law_1648 (fun H locs hW hS => ?_)
  refine lv_istore (lv' := [(6, .int y4), (5, .int y2), (0, .ref bA), (1, .ref (b + 0)), (2, .ref (b + 193)), (3, .ref (b + 202)), (4, .int i)]) hx hb dL_law_1651 hl (by decide) rfl (fun ls hl => ?_)
  refine lv_aload_n hx hb dL_law_1653 rfl (lv_at hl 4 rfl) ?_
  obtain ⟨y7, u8, hf⟩ := b1_e hf
  refine mV (k := 193) (q := (5, 0)) (C := RX5) (T := TX5) (N := 14) (ci := 5) (n := 0) (As := []) (rest := []) (c_X5_thrown l D t b σ6 y7 u8) sh_193 (by decide) rfl rfl hx hb hml hown hts hE hW hS q1224 q1225 q1226 q96 q1227 hy_X5_thrown ⟨rfl, rfl⟩ ⟨Nat.le_of_ble_eq_true rfl, Nat.le_of_ble_eq_true rfl⟩ rfl rfl hl.1 (Nat.le_of_ble_eq_true rfl) ⟨by obtain ⟨hc1, hc2⟩ := hcl; omega, by obtain ⟨hc1, hc2⟩ := hcl; omega⟩ dL_law_1654 (fun H locs hW hS => ?_)
  refine lv_iload hx hb dL_law_1657 (lv_at hl 1 rfl) ?_
  refine lv_icmp_eq (tgt := 1664) hx hb dL_law_1659 (by decide) (fun h9 => ?_) (fun h9 => ?_)
  · have hf := ifp h9 hf
    refine lv_iload hx hb dL_law_1664 (lv_at hl 1 rfl) ?_
    refine lv_if_ne (tgt := 1681) hx hb dL_law_1666 (by decide) (fun h10 => ?_) (fun h10 => ?_)
    · have hf := ifn h10 hf
      refine lv_goto (tgt := 2838) hx hb dL_law_1681 (by decide) ?_
      cases hf
      refine W.widen (k := cells + 16) (n := slots + 96) (by omega) (by omega) ?_
      exact kk _ _ _ hW hS (lv_sub hl [2, 3, 4, 5, 6] rfl)
    · have hf := ifp h10 hf
      refine lv_aload_n hx hb dL_law_1669 rfl (lv_at hl 5 rfl) ?_
      refine lv_iconst (v := 0) hx hb dL_law_1670 (by decide) ?_
      refine lald hx hb hE.1 hW sh_202 (vp_lit (by decide +kernel)) dL_law_1671 ?_
      refine lv_iload hx hb dL_law_1672 (lv_at hl 0 rfl) ?_
      refine lv_i2l hx hb dL_law_1674 rfl ?_
      refine lcmp_if (tgt := 1681) hx hb dL_law_1675 dL_law_1676 (by decide) (fun h11 => ?_) (fun h11 => ?_)
      · have hf := ifp h11 hf
        refine lv_goto (tgt := 2838) hx hb dL_law_1681 (by decide) ?_
        cases hf
        refine W.widen (k := cells + 16) (n := slots + 96) (by omega) (by omega) ?_
        exact kk _ _ _ hW hS (lv_sub hl [2, 3, 4, 5, 6] rfl)
      · have hf := ifn h11 hf
        refine lv_iconst (v := 0) hx hb dL_law_1679 (by decide) ?_
        cases hf
  · have hf := ifn h9 hf
    refine lv_iconst (v := 0) hx hb dL_law_1662 (by decide) ?_
    cases hf
def g_26 (σ : Sg) (a1 a2 a3 a4 : Int32) : Option Sg := b2 (f_L_playsToWin σ a1) fun y2 σ1 => b2 (f_X5_playsToWin σ1 a1) fun y4 σ6 => b1 (f_X5_thrown σ6) fun y7 => if y7 = y2 then (if y2 = 0 then (if (σ6 202 (0 : Int32).toNatClampNeg) = y4 then (some σ6) else (none)) else (some σ6)) else (none)
set_option maxHeartbeats 4000000 in
set_option maxRecDepth 100000 in
theorem k_26 {p : Program} {l : Launch} {e : Env} {s : State} {m : MethodId} {below : List Frame} {meth : Method} {c : Code} {bA L : Nat} {xs : Nat → Int32} {D : va_G} {t : Nat → ClassId} {b : Nat} (hfl : l.stackTraces = false) (hx : p.tables.exec = Jvm.exec) (hb : c.code = cL_law) (hml : c.maxLocals = 7) (hown : s.vm.findClass RL = some m.cls) {c9 : Cond} (hts : ∀ w ∈ c9 :: ALL, w.before #[Value.ref bA] s = true) (hE : EV D t b s) (hX : va_X bA L xs s s.heap) (hbl : bA < s.heap.size) (hbA : ¬ geA b bA) {i a1 a2 a3 a4 : Int32} (hi1 : vp_in (i + 1) L) (hi2 : vp_in (i + 2) L) (hi3 : vp_in (i + 3) L) (hi4 : vp_in (i + 4) L) (hx1 : xs (i + 1).toNatClampNeg = a1) (hx2 : xs (i + 2).toNatClampNeg = a2) (hx3 : xs (i + 3).toNatClampNeg = a3) (hx4 : xs (i + 4).toNatClampNeg = a4) {H : Heap} {locs : List Loc} {ls : Array Slot} {cells slots : Nat} {Q : State → Prop} (hcl : cells + 16 ≤ room_1.cells ∧ slots + 96 ≤ room_1.slots) {σ σr : Sg} (hW : wd D t b σ H) (hS : va_S (geA b) s.heap H locs) (hl : lv_has ls 7 [(0, .ref bA), (1, .ref (b + 0)), (2, .ref (b + 193)), (3, .ref (b + 202)), (4, .int i)]) (hf : g_26 σ a1 a2 a3 a4 = some σr) (kk : ∀ (H : Heap) (locs : List Loc) (ls : Array Slot), wd D t b σr H → va_S (geA b) s.heap H locs → lv_has ls 7 [(0, .ref bA), (1, .ref (b + 0)), (2, .ref (b + 193)), (3, .ref (b + 202)), (4, .int i)] → W p l e room_1 s m #[Value.ref bA] below meth c H locs (cells + 16) (slots + 96) Q (F0 m 2838 ls [])) : W p l e room_1 s m #[Value.ref bA] below meth c H locs cells slots Q (F0 m 1684 ls []) := by
  have hta := fun w h => hts w (List.mem_cons_of_mem _ h)
  unfold g_26 at hf
  refine lv_aload_n hx hb dL_law_1684 rfl (lv_at hl 1 rfl) ?_
  refine lv_aload_n hx hb dL_law_1685 rfl (lv_at hl 0 rfl) ?_
  refine lv_iload hx hb dL_law_1686 (lv_at hl 4 rfl) ?_
  refine lv_iconst (v := 1) hx hb dL_law_1688 (by decide) ?_
  refine lv_iadd hx hb dL_law_1689 ?_
  refine va_sld hx hb hX hbl hbA hS hi1 dL_law_1690 ?_
  rw [hx1]
  refine lv_aload_n hx hb dL_law_1691 rfl (lv_at hl 3 rfl) ?_
  obtain ⟨y2, σ1, u3, hf⟩ := b2_e hf
  refine mSH (n := 3) (As := [.ref (b + 0), .int a1, .ref (b + 202)]) (rest := []) (c_L_playsToWin l hfl D t b σ a1 y2 σ1 u3) hx hb hml hown hts hE hW hS q1043 q1044 q90 qw_L_playsToWin hs_L_playsToWin ⟨rfl, rfl⟩ ⟨Nat.le_of_ble_eq_true rfl, Nat.le_of_ble_eq_true rfl⟩ rfl rfl hl.1 (Nat.le_of_ble_eq_true rfl) ⟨by obtain ⟨hc1, hc2⟩ := hcl; omega, by obtain ⟨hc1, hc2⟩ := hcl; omega⟩ dL_law_1692 (fun H locs hW hS => ?_)
  refine lv_istore (lv' := [(5, .int y2), (0, .ref bA), (1, .ref (b + 0)), (2, .ref (b + 193)), (3, .ref (b + 202)), (4, .int i)]) hx hb dL_law_1695 hl (by decide) rfl (fun ls hl => ?_)
  refine lv_aload_n hx hb dL_law_1697 rfl (lv_at hl 3 rfl) ?_
  refine lv_aload_n hx hb dL_law_1698 rfl (lv_at hl 1 rfl) ?_
  refine lv_iload hx hb dL_law_1699 (lv_at hl 5 rfl) ?_
  refine lv_iconst (v := 1) hx hb dL_law_1701 (by decide) ?_
  refine lv_iadd hx hb dL_law_1702 ?_
  refine va_sld hx hb hX hbl hbA hS hi1 dL_law_1703 ?_
  rw [hx1]
  obtain ⟨y4, σ6, u5, hf⟩ := b2_e hf
  refine mV (k := 193) (q := (5, 0)) (C := RX5) (T := TX5) (N := 14) (ci := 5) (n := 1) (As := [.int a1]) (rest := []) (c_X5_playsToWin l D t b σ1 a1 y4 σ6 u5) sh_193 (by decide) rfl rfl hx hb hml hown hts hE hW hS q1572 q1573 q1574 q96 q1575 hy_X5_playsToWin ⟨rfl, rfl⟩ ⟨Nat.le_of_ble_eq_true rfl, Nat.le_of_ble_eq_true rfl⟩ rfl rfl hl.1 (Nat.le_of_ble_eq_true rfl) ⟨by obtain ⟨hc1, hc2⟩ := hcl; omega, by obtain ⟨hc1, hc2⟩ := hcl; omega⟩ dL_law_1704 (fun H locs hW hS => ?_)
  refine lv_istore (lv' := [(6, .int y4), (5, .int y2), (0, .ref bA), (1, .ref (b + 0)), (2, .ref (b + 193)), (3, .ref (b + 202)), (4, .int i)]) hx hb dL_law_1707 hl (by decide) rfl (fun ls hl => ?_)
  refine lv_aload_n hx hb dL_law_1709 rfl (lv_at hl 4 rfl) ?_
  obtain ⟨y7, u8, hf⟩ := b1_e hf
  refine mV (k := 193) (q := (5, 0)) (C := RX5) (T := TX5) (N := 14) (ci := 5) (n := 0) (As := []) (rest := []) (c_X5_thrown l D t b σ6 y7 u8) sh_193 (by decide) rfl rfl hx hb hml hown hts hE hW hS q1224 q1225 q1226 q96 q1227 hy_X5_thrown ⟨rfl, rfl⟩ ⟨Nat.le_of_ble_eq_true rfl, Nat.le_of_ble_eq_true rfl⟩ rfl rfl hl.1 (Nat.le_of_ble_eq_true rfl) ⟨by obtain ⟨hc1, hc2⟩ := hcl; omega, by obtain ⟨hc1, hc2⟩ := hcl; omega⟩ dL_law_1710 (fun H locs hW hS => ?_)
  refine lv_iload hx hb dL_law_1713 (lv_at hl 1 rfl) ?_
  refine lv_icmp_eq (tgt := 1720) hx hb dL_law_1715 (by decide) (fun h9 => ?_) (fun h9 => ?_)
  · have hf := ifp h9 hf
    refine lv_iload hx hb dL_law_1720 (lv_at hl 1 rfl) ?_
    refine lv_if_ne (tgt := 1737) hx hb dL_law_1722 (by decide) (fun h10 => ?_) (fun h10 => ?_)
    · have hf := ifn h10 hf
      refine lv_goto (tgt := 2838) hx hb dL_law_1737 (by decide) ?_
      cases hf
      refine W.widen (k := cells + 16) (n := slots + 96) (by omega) (by omega) ?_
      exact kk _ _ _ hW hS (lv_sub hl [2, 3, 4, 5, 6] rfl)
    · have hf := ifp h10 hf
      refine lv_aload_n hx hb dL_law_1725 rfl (lv_at hl 5 rfl) ?_
      refine lv_iconst (v := 0) hx hb dL_law_1726 (by decide) ?_
      refine lald hx hb hE.1 hW sh_202 (vp_lit (by decide +kernel)) dL_law_1727 ?_
      refine lv_iload hx hb dL_law_1728 (lv_at hl 0 rfl) ?_
      refine lv_i2l hx hb dL_law_1730 rfl ?_
      refine lcmp_if (tgt := 1737) hx hb dL_law_1731 dL_law_1732 (by decide) (fun h11 => ?_) (fun h11 => ?_)
      · have hf := ifp h11 hf
        refine lv_goto (tgt := 2838) hx hb dL_law_1737 (by decide) ?_
        cases hf
        refine W.widen (k := cells + 16) (n := slots + 96) (by omega) (by omega) ?_
        exact kk _ _ _ hW hS (lv_sub hl [2, 3, 4, 5, 6] rfl)
      · have hf := ifn h11 hf
        refine lv_iconst (v := 0) hx hb dL_law_1735 (by decide) ?_
        cases hf
  · have hf := ifn h9 hf
    refine lv_iconst (v := 0) hx hb dL_law_1718 (by decide) ?_
    cases hf
def g_27 (σ : Sg) (a1 a2 a3 a4 : Int32) : Option Sg := b2 (f_L_prizesOn σ a1 a2 a3) fun y2 σ1 => b2 (f_X5_prizesOn σ1 a1 a2 a3) fun y4 σ6 => b1 (f_X5_thrown σ6) fun y7 => if y7 = y2 then (if y2 = 0 then (if (σ6 202 (0 : Int32).toNatClampNeg) = y4 then (some σ6) else (none)) else (some σ6)) else (none)
set_option maxHeartbeats 4000000 in
set_option maxRecDepth 100000 in
theorem k_27 {p : Program} {l : Launch} {e : Env} {s : State} {m : MethodId} {below : List Frame} {meth : Method} {c : Code} {bA L : Nat} {xs : Nat → Int32} {D : va_G} {t : Nat → ClassId} {b : Nat} (hfl : l.stackTraces = false) (hx : p.tables.exec = Jvm.exec) (hb : c.code = cL_law) (hml : c.maxLocals = 7) (hown : s.vm.findClass RL = some m.cls) {c9 : Cond} (hts : ∀ w ∈ c9 :: ALL, w.before #[Value.ref bA] s = true) (hE : EV D t b s) (hX : va_X bA L xs s s.heap) (hbl : bA < s.heap.size) (hbA : ¬ geA b bA) {i a1 a2 a3 a4 : Int32} (hi1 : vp_in (i + 1) L) (hi2 : vp_in (i + 2) L) (hi3 : vp_in (i + 3) L) (hi4 : vp_in (i + 4) L) (hx1 : xs (i + 1).toNatClampNeg = a1) (hx2 : xs (i + 2).toNatClampNeg = a2) (hx3 : xs (i + 3).toNatClampNeg = a3) (hx4 : xs (i + 4).toNatClampNeg = a4) {H : Heap} {locs : List Loc} {ls : Array Slot} {cells slots : Nat} {Q : State → Prop} (hcl : cells + 16 ≤ room_1.cells ∧ slots + 96 ≤ room_1.slots) {σ σr : Sg} (hW : wd D t b σ H) (hS : va_S (geA b) s.heap H locs) (hl : lv_has ls 7 [(0, .ref bA), (1, .ref (b + 0)), (2, .ref (b + 193)), (3, .ref (b + 202)), (4, .int i)]) (hf : g_27 σ a1 a2 a3 a4 = some σr) (kk : ∀ (H : Heap) (locs : List Loc) (ls : Array Slot), wd D t b σr H → va_S (geA b) s.heap H locs → lv_has ls 7 [(0, .ref bA), (1, .ref (b + 0)), (2, .ref (b + 193)), (3, .ref (b + 202)), (4, .int i)] → W p l e room_1 s m #[Value.ref bA] below meth c H locs (cells + 16) (slots + 96) Q (F0 m 2838 ls [])) : W p l e room_1 s m #[Value.ref bA] below meth c H locs cells slots Q (F0 m 1740 ls []) := by
  have hta := fun w h => hts w (List.mem_cons_of_mem _ h)
  unfold g_27 at hf
  refine lv_aload_n hx hb dL_law_1740 rfl (lv_at hl 1 rfl) ?_
  refine lv_aload_n hx hb dL_law_1741 rfl (lv_at hl 0 rfl) ?_
  refine lv_iload hx hb dL_law_1742 (lv_at hl 4 rfl) ?_
  refine lv_iconst (v := 1) hx hb dL_law_1744 (by decide) ?_
  refine lv_iadd hx hb dL_law_1745 ?_
  refine va_sld hx hb hX hbl hbA hS hi1 dL_law_1746 ?_
  rw [hx1]
  refine lv_aload_n hx hb dL_law_1747 rfl (lv_at hl 0 rfl) ?_
  refine lv_iload hx hb dL_law_1748 (lv_at hl 4 rfl) ?_
  refine lv_iconst (v := 2) hx hb dL_law_1750 (by decide) ?_
  refine lv_iadd hx hb dL_law_1751 ?_
  refine va_sld hx hb hX hbl hbA hS hi2 dL_law_1752 ?_
  rw [hx2]
  refine lv_aload_n hx hb dL_law_1753 rfl (lv_at hl 0 rfl) ?_
  refine lv_iload hx hb dL_law_1754 (lv_at hl 4 rfl) ?_
  refine lv_iconst (v := 3) hx hb dL_law_1756 (by decide) ?_
  refine lv_iadd hx hb dL_law_1757 ?_
  refine va_sld hx hb hX hbl hbA hS hi3 dL_law_1758 ?_
  rw [hx3]
  refine lv_aload_n hx hb dL_law_1759 rfl (lv_at hl 3 rfl) ?_
  obtain ⟨y2, σ1, u3, hf⟩ := b2_e hf
  refine mSH (n := 5) (As := [.ref (b + 0), .int a1, .int a2, .int a3, .ref (b + 202)]) (rest := []) (c_L_prizesOn l hfl D t b σ a1 a2 a3 y2 σ1 u3) hx hb hml hown hts hE hW hS q1051 q1052 q90 qw_L_prizesOn hs_L_prizesOn ⟨rfl, rfl⟩ ⟨Nat.le_of_ble_eq_true rfl, Nat.le_of_ble_eq_true rfl⟩ rfl rfl hl.1 (Nat.le_of_ble_eq_true rfl) ⟨by obtain ⟨hc1, hc2⟩ := hcl; omega, by obtain ⟨hc1, hc2⟩ := hcl; omega⟩ dL_law_1760 (fun H locs hW hS => ?_)
  refine lv_istore (lv' := [(5, .int y2), (0, .ref bA), (1, .ref (b + 0)), (2, .ref (b + 193)), (3, .ref (b + 202)), (4, .int i)]) hx hb dL_law_1763 hl (by decide) rfl (fun ls hl => ?_)
  refine lv_aload_n hx hb dL_law_1765 rfl (lv_at hl 3 rfl) ?_
  refine lv_aload_n hx hb dL_law_1766 rfl (lv_at hl 1 rfl) ?_
  refine lv_iload hx hb dL_law_1767 (lv_at hl 5 rfl) ?_
  refine lv_iconst (v := 1) hx hb dL_law_1769 (by decide) ?_
  refine lv_iadd hx hb dL_law_1770 ?_
  refine va_sld hx hb hX hbl hbA hS hi1 dL_law_1771 ?_
  rw [hx1]
  refine lv_aload_n hx hb dL_law_1772 rfl (lv_at hl 1 rfl) ?_
  refine lv_iload hx hb dL_law_1773 (lv_at hl 5 rfl) ?_
  refine lv_iconst (v := 2) hx hb dL_law_1775 (by decide) ?_
  refine lv_iadd hx hb dL_law_1776 ?_
  refine va_sld hx hb hX hbl hbA hS hi2 dL_law_1777 ?_
  rw [hx2]
  refine lv_aload_n hx hb dL_law_1778 rfl (lv_at hl 1 rfl) ?_
  refine lv_iload hx hb dL_law_1779 (lv_at hl 5 rfl) ?_
  refine lv_iconst (v := 3) hx hb dL_law_1781 (by decide) ?_
  refine lv_iadd hx hb dL_law_1782 ?_
  refine va_sld hx hb hX hbl hbA hS hi3 dL_law_1783 ?_
  rw [hx3]
  obtain ⟨y4, σ6, u5, hf⟩ := b2_e hf
  refine mV (k := 193) (q := (5, 0)) (C := RX5) (T := TX5) (N := 14) (ci := 5) (n := 3) (As := [.int a1, .int a2, .int a3]) (rest := []) (c_X5_prizesOn l D t b σ1 a1 a2 a3 y4 σ6 u5) sh_193 (by decide) rfl rfl hx hb hml hown hts hE hW hS q1576 q1577 q1578 q96 q1579 hy_X5_prizesOn ⟨rfl, rfl⟩ ⟨Nat.le_of_ble_eq_true rfl, Nat.le_of_ble_eq_true rfl⟩ rfl rfl hl.1 (Nat.le_of_ble_eq_true rfl) ⟨by obtain ⟨hc1, hc2⟩ := hcl; omega, by obtain ⟨hc1, hc2⟩ := hcl; omega⟩ dL_law_1784 (fun H locs hW hS => ?_)
  refine lv_istore (lv' := [(6, .int y4), (5, .int y2), (0, .ref bA), (1, .ref (b + 0)), (2, .ref (b + 193)), (3, .ref (b + 202)), (4, .int i)]) hx hb dL_law_1787 hl (by decide) rfl (fun ls hl => ?_)
  refine lv_aload_n hx hb dL_law_1789 rfl (lv_at hl 4 rfl) ?_
  obtain ⟨y7, u8, hf⟩ := b1_e hf
  refine mV (k := 193) (q := (5, 0)) (C := RX5) (T := TX5) (N := 14) (ci := 5) (n := 0) (As := []) (rest := []) (c_X5_thrown l D t b σ6 y7 u8) sh_193 (by decide) rfl rfl hx hb hml hown hts hE hW hS q1224 q1225 q1226 q96 q1227 hy_X5_thrown ⟨rfl, rfl⟩ ⟨Nat.le_of_ble_eq_true rfl, Nat.le_of_ble_eq_true rfl⟩ rfl rfl hl.1 (Nat.le_of_ble_eq_true rfl) ⟨by obtain ⟨hc1, hc2⟩ := hcl; omega, by obtain ⟨hc1, hc2⟩ := hcl; omega⟩ dL_law_1790 (fun H locs hW hS => ?_)
  refine lv_iload hx hb dL_law_1793 (lv_at hl 1 rfl) ?_
  refine lv_icmp_eq (tgt := 1800) hx hb dL_law_1795 (by decide) (fun h9 => ?_) (fun h9 => ?_)
  · have hf := ifp h9 hf
    refine lv_iload hx hb dL_law_1800 (lv_at hl 1 rfl) ?_
    refine lv_if_ne (tgt := 1817) hx hb dL_law_1802 (by decide) (fun h10 => ?_) (fun h10 => ?_)
    · have hf := ifn h10 hf
      refine lv_goto (tgt := 2838) hx hb dL_law_1817 (by decide) ?_
      cases hf
      refine W.widen (k := cells + 16) (n := slots + 96) (by omega) (by omega) ?_
      exact kk _ _ _ hW hS (lv_sub hl [2, 3, 4, 5, 6] rfl)
    · have hf := ifp h10 hf
      refine lv_aload_n hx hb dL_law_1805 rfl (lv_at hl 5 rfl) ?_
      refine lv_iconst (v := 0) hx hb dL_law_1806 (by decide) ?_
      refine lald hx hb hE.1 hW sh_202 (vp_lit (by decide +kernel)) dL_law_1807 ?_
      refine lv_iload hx hb dL_law_1808 (lv_at hl 0 rfl) ?_
      refine lv_i2l hx hb dL_law_1810 rfl ?_
      refine lcmp_if (tgt := 1817) hx hb dL_law_1811 dL_law_1812 (by decide) (fun h11 => ?_) (fun h11 => ?_)
      · have hf := ifp h11 hf
        refine lv_goto (tgt := 2838) hx hb dL_law_1817 (by decide) ?_
        cases hf
        refine W.widen (k := cells + 16) (n := slots + 96) (by omega) (by omega) ?_
        exact kk _ _ _ hW hS (lv_sub hl [2, 3, 4, 5, 6] rfl)
      · have hf := ifn h11 hf
        refine lv_iconst (v := 0) hx hb dL_law_1815 (by decide) ?_
        cases hf
  · have hf := ifn h9 hf
    refine lv_iconst (v := 0) hx hb dL_law_1798 (by decide) ?_
    cases hf
def g_28 (σ : Sg) (a1 a2 a3 a4 : Int32) : Option Sg := b2 (f_L_shelfOf σ a1) fun y2 σ1 => b2 (f_X5_shelfOf σ1 a1) fun y4 σ6 => b1 (f_X5_thrown σ6) fun y7 => if y7 = y2 then (if y2 = 0 then (if (σ6 202 (0 : Int32).toNatClampNeg) = y4 then (some σ6) else (none)) else (some σ6)) else (none)
set_option maxHeartbeats 4000000 in
set_option maxRecDepth 100000 in
theorem k_28 {p : Program} {l : Launch} {e : Env} {s : State} {m : MethodId} {below : List Frame} {meth : Method} {c : Code} {bA L : Nat} {xs : Nat → Int32} {D : va_G} {t : Nat → ClassId} {b : Nat} (hfl : l.stackTraces = false) (hx : p.tables.exec = Jvm.exec) (hb : c.code = cL_law) (hml : c.maxLocals = 7) (hown : s.vm.findClass RL = some m.cls) {c9 : Cond} (hts : ∀ w ∈ c9 :: ALL, w.before #[Value.ref bA] s = true) (hE : EV D t b s) (hX : va_X bA L xs s s.heap) (hbl : bA < s.heap.size) (hbA : ¬ geA b bA) {i a1 a2 a3 a4 : Int32} (hi1 : vp_in (i + 1) L) (hi2 : vp_in (i + 2) L) (hi3 : vp_in (i + 3) L) (hi4 : vp_in (i + 4) L) (hx1 : xs (i + 1).toNatClampNeg = a1) (hx2 : xs (i + 2).toNatClampNeg = a2) (hx3 : xs (i + 3).toNatClampNeg = a3) (hx4 : xs (i + 4).toNatClampNeg = a4) {H : Heap} {locs : List Loc} {ls : Array Slot} {cells slots : Nat} {Q : State → Prop} (hcl : cells + 16 ≤ room_1.cells ∧ slots + 96 ≤ room_1.slots) {σ σr : Sg} (hW : wd D t b σ H) (hS : va_S (geA b) s.heap H locs) (hl : lv_has ls 7 [(0, .ref bA), (1, .ref (b + 0)), (2, .ref (b + 193)), (3, .ref (b + 202)), (4, .int i)]) (hf : g_28 σ a1 a2 a3 a4 = some σr) (kk : ∀ (H : Heap) (locs : List Loc) (ls : Array Slot), wd D t b σr H → va_S (geA b) s.heap H locs → lv_has ls 7 [(0, .ref bA), (1, .ref (b + 0)), (2, .ref (b + 193)), (3, .ref (b + 202)), (4, .int i)] → W p l e room_1 s m #[Value.ref bA] below meth c H locs (cells + 16) (slots + 96) Q (F0 m 2838 ls [])) : W p l e room_1 s m #[Value.ref bA] below meth c H locs cells slots Q (F0 m 1820 ls []) := by
  have hta := fun w h => hts w (List.mem_cons_of_mem _ h)
  unfold g_28 at hf
  refine lv_aload_n hx hb dL_law_1820 rfl (lv_at hl 1 rfl) ?_
  refine lv_aload_n hx hb dL_law_1821 rfl (lv_at hl 0 rfl) ?_
  refine lv_iload hx hb dL_law_1822 (lv_at hl 4 rfl) ?_
  refine lv_iconst (v := 1) hx hb dL_law_1824 (by decide) ?_
  refine lv_iadd hx hb dL_law_1825 ?_
  refine va_sld hx hb hX hbl hbA hS hi1 dL_law_1826 ?_
  rw [hx1]
  refine lv_aload_n hx hb dL_law_1827 rfl (lv_at hl 3 rfl) ?_
  obtain ⟨y2, σ1, u3, hf⟩ := b2_e hf
  refine mSH (n := 3) (As := [.ref (b + 0), .int a1, .ref (b + 202)]) (rest := []) (c_L_shelfOf l hfl D t b σ a1 y2 σ1 u3) hx hb hml hown hts hE hW hS q1058 q1059 q90 qw_L_shelfOf hs_L_shelfOf ⟨rfl, rfl⟩ ⟨Nat.le_of_ble_eq_true rfl, Nat.le_of_ble_eq_true rfl⟩ rfl rfl hl.1 (Nat.le_of_ble_eq_true rfl) ⟨by obtain ⟨hc1, hc2⟩ := hcl; omega, by obtain ⟨hc1, hc2⟩ := hcl; omega⟩ dL_law_1828 (fun H locs hW hS => ?_)
  refine lv_istore (lv' := [(5, .int y2), (0, .ref bA), (1, .ref (b + 0)), (2, .ref (b + 193)), (3, .ref (b + 202)), (4, .int i)]) hx hb dL_law_1831 hl (by decide) rfl (fun ls hl => ?_)
  refine lv_aload_n hx hb dL_law_1833 rfl (lv_at hl 3 rfl) ?_
  refine lv_aload_n hx hb dL_law_1834 rfl (lv_at hl 1 rfl) ?_
  refine lv_iload hx hb dL_law_1835 (lv_at hl 5 rfl) ?_
  refine lv_iconst (v := 1) hx hb dL_law_1837 (by decide) ?_
  refine lv_iadd hx hb dL_law_1838 ?_
  refine va_sld hx hb hX hbl hbA hS hi1 dL_law_1839 ?_
  rw [hx1]
  obtain ⟨y4, σ6, u5, hf⟩ := b2_e hf
  refine mV (k := 193) (q := (5, 0)) (C := RX5) (T := TX5) (N := 14) (ci := 5) (n := 1) (As := [.int a1]) (rest := []) (c_X5_shelfOf l D t b σ1 a1 y4 σ6 u5) sh_193 (by decide) rfl rfl hx hb hml hown hts hE hW hS q1580 q1581 q1582 q96 q1583 hy_X5_shelfOf ⟨rfl, rfl⟩ ⟨Nat.le_of_ble_eq_true rfl, Nat.le_of_ble_eq_true rfl⟩ rfl rfl hl.1 (Nat.le_of_ble_eq_true rfl) ⟨by obtain ⟨hc1, hc2⟩ := hcl; omega, by obtain ⟨hc1, hc2⟩ := hcl; omega⟩ dL_law_1840 (fun H locs hW hS => ?_)
  refine lv_istore (lv' := [(6, .int y4), (5, .int y2), (0, .ref bA), (1, .ref (b + 0)), (2, .ref (b + 193)), (3, .ref (b + 202)), (4, .int i)]) hx hb dL_law_1843 hl (by decide) rfl (fun ls hl => ?_)
  refine lv_aload_n hx hb dL_law_1845 rfl (lv_at hl 4 rfl) ?_
  obtain ⟨y7, u8, hf⟩ := b1_e hf
  refine mV (k := 193) (q := (5, 0)) (C := RX5) (T := TX5) (N := 14) (ci := 5) (n := 0) (As := []) (rest := []) (c_X5_thrown l D t b σ6 y7 u8) sh_193 (by decide) rfl rfl hx hb hml hown hts hE hW hS q1224 q1225 q1226 q96 q1227 hy_X5_thrown ⟨rfl, rfl⟩ ⟨Nat.le_of_ble_eq_true rfl, Nat.le_of_ble_eq_true rfl⟩ rfl rfl hl.1 (Nat.le_of_ble_eq_true rfl) ⟨by obtain ⟨hc1, hc2⟩ := hcl; omega, by obtain ⟨hc1, hc2⟩ := hcl; omega⟩ dL_law_1846 (fun H locs hW hS => ?_)
  refine lv_iload hx hb dL_law_1849 (lv_at hl 1 rfl) ?_
  refine lv_icmp_eq (tgt := 1856) hx hb dL_law_1851 (by decide) (fun h9 => ?_) (fun h9 => ?_)
  · have hf := ifp h9 hf
    refine lv_iload hx hb dL_law_1856 (lv_at hl 1 rfl) ?_
    refine lv_if_ne (tgt := 1873) hx hb dL_law_1858 (by decide) (fun h10 => ?_) (fun h10 => ?_)
    · have hf := ifn h10 hf
      refine lv_goto (tgt := 2838) hx hb dL_law_1873 (by decide) ?_
      cases hf
      refine W.widen (k := cells + 16) (n := slots + 96) (by omega) (by omega) ?_
      exact kk _ _ _ hW hS (lv_sub hl [2, 3, 4, 5, 6] rfl)
    · have hf := ifp h10 hf
      refine lv_aload_n hx hb dL_law_1861 rfl (lv_at hl 5 rfl) ?_
      refine lv_iconst (v := 0) hx hb dL_law_1862 (by decide) ?_
      refine lald hx hb hE.1 hW sh_202 (vp_lit (by decide +kernel)) dL_law_1863 ?_
      refine lv_iload hx hb dL_law_1864 (lv_at hl 0 rfl) ?_
      refine lv_i2l hx hb dL_law_1866 rfl ?_
      refine lcmp_if (tgt := 1873) hx hb dL_law_1867 dL_law_1868 (by decide) (fun h11 => ?_) (fun h11 => ?_)
      · have hf := ifp h11 hf
        refine lv_goto (tgt := 2838) hx hb dL_law_1873 (by decide) ?_
        cases hf
        refine W.widen (k := cells + 16) (n := slots + 96) (by omega) (by omega) ?_
        exact kk _ _ _ hW hS (lv_sub hl [2, 3, 4, 5, 6] rfl)
      · have hf := ifn h11 hf
        refine lv_iconst (v := 0) hx hb dL_law_1871 (by decide) ?_
        cases hf
  · have hf := ifn h9 hf
    refine lv_iconst (v := 0) hx hb dL_law_1854 (by decide) ?_
    cases hf

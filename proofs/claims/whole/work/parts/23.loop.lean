set_option maxHeartbeats 8000000 in
set_option maxRecDepth 100000 in
/-- one turn of the law: from the switch to the step -/
theorem law_turn {p : Program} {l : Launch} {e : Env} {s : State} {m : MethodId} {below : List Frame} {meth : Method} {c : Code} {bA L : Nat} {xs : Nat → Int32} {D : va_G} {t : Nat → ClassId} {b : Nat} (hfl : l.stackTraces = false) (hx : p.tables.exec = Jvm.exec) (hb : c.code = cL_law) (hml : c.maxLocals = 7) (hown : s.vm.findClass RL = some m.cls) {c9 : Cond} (hts : ∀ w ∈ c9 :: ALL, w.before #[Value.ref bA] s = true) (hE : EV D t b s) (hX : va_X bA L xs s s.heap) (hbl : bA < s.heap.size) (hbA : ¬ geA b bA) {i a0 a1 a2 a3 a4 : Int32} (hi1 : vp_in (i + 1) L) (hi2 : vp_in (i + 2) L) (hi3 : vp_in (i + 3) L) (hi4 : vp_in (i + 4) L) (hx1 : xs (i + 1).toNatClampNeg = a1) (hx2 : xs (i + 2).toNatClampNeg = a2) (hx3 : xs (i + 3).toNatClampNeg = a3) (hx4 : xs (i + 4).toNatClampNeg = a4) {H : Heap} {locs : List Loc} {ls : Array Slot} {cells slots : Nat} {Q : State → Prop} (hcl : cells + 16 ≤ room_1.cells ∧ slots + 96 ≤ room_1.slots) {σ σr : Sg} (hW : wd D t b σ H) (hS : va_S (geA b) s.heap H locs) (hl : lv_has ls 7 [(0, .ref bA), (1, .ref (b + 0)), (2, .ref (b + 193)), (3, .ref (b + 202)), (4, .int i)]) (hf : gstep σ a0 a1 a2 a3 a4 = some σr) (kk : ∀ (H : Heap) (locs : List Loc) (ls : Array Slot), wd D t b σr H → va_S (geA b) s.heap H locs → lv_has ls 7 [(0, .ref bA), (1, .ref (b + 0)), (2, .ref (b + 193)), (3, .ref (b + 202)), (4, .int i)] → W p l e room_1 s m #[Value.ref bA] below meth c H locs (cells + 16) (slots + 96) Q (F0 m 2838 ls [])) : W p l e room_1 s m #[Value.ref bA] below meth c H locs cells slots Q (F0 m 39 ls [.int (a0 &&& 63)]) := by
  obtain ⟨j, hj, ex⟩ := pk_andE a0 (m := 63) 6 (by decide)
  unfold gstep at hf
  rw [ex] at hf ⊢
  rw [nI_clamp (by omega)] at hf
  match j, hj, hf with
  | 0, _, hf =>
    refine lv_tableIn (off := 245) (tgt := 284) hx hb dL_law_39 (by decide) (by decide) (by decide) (by decide) ?_
    exact k_0 hfl hx hb hml hown hts hE hX hbl hbA hi1 hi2 hi3 hi4 hx1 hx2 hx3 hx4 hcl hW hS hl hf kk
  | 1, _, hf =>
    refine lv_tableIn (off := 353) (tgt := 392) hx hb dL_law_39 (by decide) (by decide) (by decide) (by decide) ?_
    exact k_1 hfl hx hb hml hown hts hE hX hbl hbA hi1 hi2 hi3 hi4 hx1 hx2 hx3 hx4 hcl hW hS hl hf kk
  | 2, _, hf =>
    refine lv_tableIn (off := 409) (tgt := 448) hx hb dL_law_39 (by decide) (by decide) (by decide) (by decide) ?_
    exact k_2 hfl hx hb hml hown hts hE hX hbl hbA hi1 hi2 hi3 hi4 hx1 hx2 hx3 hx4 hcl hW hS hl hf kk
  | 3, _, hf =>
    refine lv_tableIn (off := 477) (tgt := 516) hx hb dL_law_39 (by decide) (by decide) (by decide) (by decide) ?_
    exact k_3 hfl hx hb hml hown hts hE hX hbl hbA hi1 hi2 hi3 hi4 hx1 hx2 hx3 hx4 hcl hW hS hl hf kk
  | 4, _, hf =>
    refine lv_tableIn (off := 540) (tgt := 579) hx hb dL_law_39 (by decide) (by decide) (by decide) (by decide) ?_
    exact k_4 hfl hx hb hml hown hts hE hX hbl hbA hi1 hi2 hi3 hi4 hx1 hx2 hx3 hx4 hcl hW hS hl hf kk
  | 5, _, hf =>
    refine lv_tableIn (off := 632) (tgt := 671) hx hb dL_law_39 (by decide) (by decide) (by decide) (by decide) ?_
    exact k_5 hfl hx hb hml hown hts hE hX hbl hbA hi1 hi2 hi3 hi4 hx1 hx2 hx3 hx4 hcl hW hS hl hf kk
  | 6, _, hf =>
    refine lv_tableIn (off := 700) (tgt := 739) hx hb dL_law_39 (by decide) (by decide) (by decide) (by decide) ?_
    exact k_6 hfl hx hb hml hown hts hE hX hbl hbA hi1 hi2 hi3 hi4 hx1 hx2 hx3 hx4 hcl hW hS hl hf kk
  | 7, _, hf =>
    refine lv_tableIn (off := 756) (tgt := 795) hx hb dL_law_39 (by decide) (by decide) (by decide) (by decide) ?_
    exact k_7 hfl hx hb hml hown hts hE hX hbl hbA hi1 hi2 hi3 hi4 hx1 hx2 hx3 hx4 hcl hW hS hl hf kk
  | 8, _, hf =>
    refine lv_tableIn (off := 836) (tgt := 875) hx hb dL_law_39 (by decide) (by decide) (by decide) (by decide) ?_
    exact k_8 hfl hx hb hml hown hts hE hX hbl hbA hi1 hi2 hi3 hi4 hx1 hx2 hx3 hx4 hcl hW hS hl hf kk
  | 9, _, hf =>
    refine lv_tableIn (off := 904) (tgt := 943) hx hb dL_law_39 (by decide) (by decide) (by decide) (by decide) ?_
    exact k_9 hfl hx hb hml hown hts hE hX hbl hbA hi1 hi2 hi3 hi4 hx1 hx2 hx3 hx4 hcl hW hS hl hf kk
  | 10, _, hf =>
    refine lv_tableIn (off := 960) (tgt := 999) hx hb dL_law_39 (by decide) (by decide) (by decide) (by decide) ?_
    exact k_10 hfl hx hb hml hown hts hE hX hbl hbA hi1 hi2 hi3 hi4 hx1 hx2 hx3 hx4 hcl hW hS hl hf kk
  | 11, _, hf =>
    refine lv_tableIn (off := 1018) (tgt := 1057) hx hb dL_law_39 (by decide) (by decide) (by decide) (by decide) ?_
    exact k_11 hfl hx hb hml hown hts hE hX hbl hbA hi1 hi2 hi3 hi4 hx1 hx2 hx3 hx4 hcl hW hS hl hf kk
  | 12, _, hf =>
    refine lv_tableIn (off := 1031) (tgt := 1070) hx hb dL_law_39 (by decide) (by decide) (by decide) (by decide) ?_
    exact k_12 hfl hx hb hml hown hts hE hX hbl hbA hi1 hi2 hi3 hi4 hx1 hx2 hx3 hx4 hcl hW hS hl hf kk
  | 13, _, hf =>
    refine lv_tableIn (off := 1044) (tgt := 1083) hx hb dL_law_39 (by decide) (by decide) (by decide) (by decide) ?_
    exact k_13 hfl hx hb hml hown hts hE hX hbl hbA hi1 hi2 hi3 hi4 hx1 hx2 hx3 hx4 hcl hW hS hl hf kk
  | 14, _, hf =>
    refine lv_tableIn (off := 1088) (tgt := 1127) hx hb dL_law_39 (by decide) (by decide) (by decide) (by decide) ?_
    exact k_14 hfl hx hb hml hown hts hE hX hbl hbA hi1 hi2 hi3 hi4 hx1 hx2 hx3 hx4 hcl hW hS hl hf kk
  | 15, _, hf =>
    refine lv_tableIn (off := 1132) (tgt := 1171) hx hb dL_law_39 (by decide) (by decide) (by decide) (by decide) ?_
    exact k_15 hfl hx hb hml hown hts hE hX hbl hbA hi1 hi2 hi3 hi4 hx1 hx2 hx3 hx4 hcl hW hS hl hf kk
  | 16, _, hf =>
    refine lv_tableIn (off := 1176) (tgt := 1215) hx hb dL_law_39 (by decide) (by decide) (by decide) (by decide) ?_
    exact k_16 hfl hx hb hml hown hts hE hX hbl hbA hi1 hi2 hi3 hi4 hx1 hx2 hx3 hx4 hcl hW hS hl hf kk
  | 17, _, hf =>
    refine lv_tableIn (off := 1189) (tgt := 1228) hx hb dL_law_39 (by decide) (by decide) (by decide) (by decide) ?_
    exact k_17 hfl hx hb hml hown hts hE hX hbl hbA hi1 hi2 hi3 hi4 hx1 hx2 hx3 hx4 hcl hW hS hl hf kk
  | 18, _, hf =>
    refine lv_tableIn (off := 1233) (tgt := 1272) hx hb dL_law_39 (by decide) (by decide) (by decide) (by decide) ?_
    exact k_18 hfl hx hb hml hown hts hE hX hbl hbA hi1 hi2 hi3 hi4 hx1 hx2 hx3 hx4 hcl hW hS hl hf kk
  | 19, _, hf =>
    refine lv_tableIn (off := 1246) (tgt := 1285) hx hb dL_law_39 (by decide) (by decide) (by decide) (by decide) ?_
    exact k_19 hfl hx hb hml hown hts hE hX hbl hbA hi1 hi2 hi3 hi4 hx1 hx2 hx3 hx4 hcl hW hS hl hf kk
  | 20, _, hf =>
    refine lv_tableIn (off := 1302) (tgt := 1341) hx hb dL_law_39 (by decide) (by decide) (by decide) (by decide) ?_
    exact k_20 hfl hx hb hml hown hts hE hX hbl hbA hi1 hi2 hi3 hi4 hx1 hx2 hx3 hx4 hcl hW hS hl hf kk
  | 21, _, hf =>
    refine lv_tableIn (off := 1358) (tgt := 1397) hx hb dL_law_39 (by decide) (by decide) (by decide) (by decide) ?_
    exact k_21 hfl hx hb hml hown hts hE hX hbl hbA hi1 hi2 hi3 hi4 hx1 hx2 hx3 hx4 hcl hW hS hl hf kk
  | 22, _, hf =>
    refine lv_tableIn (off := 1414) (tgt := 1453) hx hb dL_law_39 (by decide) (by decide) (by decide) (by decide) ?_
    exact k_22 hfl hx hb hml hown hts hE hX hbl hbA hi1 hi2 hi3 hi4 hx1 hx2 hx3 hx4 hcl hW hS hl hf kk
  | 23, _, hf =>
    refine lv_tableIn (off := 1477) (tgt := 1516) hx hb dL_law_39 (by decide) (by decide) (by decide) (by decide) ?_
    exact k_23 hfl hx hb hml hown hts hE hX hbl hbA hi1 hi2 hi3 hi4 hx1 hx2 hx3 hx4 hcl hW hS hl hf kk
  | 24, _, hf =>
    refine lv_tableIn (off := 1533) (tgt := 1572) hx hb dL_law_39 (by decide) (by decide) (by decide) (by decide) ?_
    exact k_24 hfl hx hb hml hown hts hE hX hbl hbA hi1 hi2 hi3 hi4 hx1 hx2 hx3 hx4 hcl hW hS hl hf kk
  | 25, _, hf =>
    refine lv_tableIn (off := 1589) (tgt := 1628) hx hb dL_law_39 (by decide) (by decide) (by decide) (by decide) ?_
    exact k_25 hfl hx hb hml hown hts hE hX hbl hbA hi1 hi2 hi3 hi4 hx1 hx2 hx3 hx4 hcl hW hS hl hf kk
  | 26, _, hf =>
    refine lv_tableIn (off := 1645) (tgt := 1684) hx hb dL_law_39 (by decide) (by decide) (by decide) (by decide) ?_
    exact k_26 hfl hx hb hml hown hts hE hX hbl hbA hi1 hi2 hi3 hi4 hx1 hx2 hx3 hx4 hcl hW hS hl hf kk
  | 27, _, hf =>
    refine lv_tableIn (off := 1701) (tgt := 1740) hx hb dL_law_39 (by decide) (by decide) (by decide) (by decide) ?_
    exact k_27 hfl hx hb hml hown hts hE hX hbl hbA hi1 hi2 hi3 hi4 hx1 hx2 hx3 hx4 hcl hW hS hl hf kk
  | 28, _, hf =>
    refine lv_tableIn (off := 1781) (tgt := 1820) hx hb dL_law_39 (by decide) (by decide) (by decide) (by decide) ?_
    exact k_28 hfl hx hb hml hown hts hE hX hbl hbA hi1 hi2 hi3 hi4 hx1 hx2 hx3 hx4 hcl hW hS hl hf kk
  | 29, _, hf =>
    refine lv_tableIn (off := 1837) (tgt := 1876) hx hb dL_law_39 (by decide) (by decide) (by decide) (by decide) ?_
    exact k_29 hfl hx hb hml hown hts hE hX hbl hbA hi1 hi2 hi3 hi4 hx1 hx2 hx3 hx4 hcl hW hS hl hf kk
  | 30, _, hf =>
    refine lv_tableIn (off := 1893) (tgt := 1932) hx hb dL_law_39 (by decide) (by decide) (by decide) (by decide) ?_
    exact k_30 hfl hx hb hml hown hts hE hX hbl hbA hi1 hi2 hi3 hi4 hx1 hx2 hx3 hx4 hcl hW hS hl hf kk
  | 31, _, hf =>
    refine lv_tableIn (off := 1949) (tgt := 1988) hx hb dL_law_39 (by decide) (by decide) (by decide) (by decide) ?_
    exact k_31 hfl hx hb hml hown hts hE hX hbl hbA hi1 hi2 hi3 hi4 hx1 hx2 hx3 hx4 hcl hW hS hl hf kk
  | 32, _, hf =>
    refine lv_tableIn (off := 1962) (tgt := 2001) hx hb dL_law_39 (by decide) (by decide) (by decide) (by decide) ?_
    exact k_32 hfl hx hb hml hown hts hE hX hbl hbA hi1 hi2 hi3 hi4 hx1 hx2 hx3 hx4 hcl hW hS hl hf kk
  | 33, _, hf =>
    refine lv_tableIn (off := 1975) (tgt := 2014) hx hb dL_law_39 (by decide) (by decide) (by decide) (by decide) ?_
    exact k_33 hfl hx hb hml hown hts hE hX hbl hbA hi1 hi2 hi3 hi4 hx1 hx2 hx3 hx4 hcl hW hS hl hf kk
  | 34, _, hf =>
    refine lv_tableIn (off := 2038) (tgt := 2077) hx hb dL_law_39 (by decide) (by decide) (by decide) (by decide) ?_
    exact k_34 hfl hx hb hml hown hts hE hX hbl hbA hi1 hi2 hi3 hi4 hx1 hx2 hx3 hx4 hcl hW hS hl hf kk
  | 35, _, hf =>
    refine lv_tableIn (off := 2094) (tgt := 2133) hx hb dL_law_39 (by decide) (by decide) (by decide) (by decide) ?_
    exact k_35 hfl hx hb hml hown hts hE hX hbl hbA hi1 hi2 hi3 hi4 hx1 hx2 hx3 hx4 hcl hW hS hl hf kk
  | 36, _, hf =>
    refine lv_tableIn (off := 2150) (tgt := 2189) hx hb dL_law_39 (by decide) (by decide) (by decide) (by decide) ?_
    exact k_36 hfl hx hb hml hown hts hE hX hbl hbA hi1 hi2 hi3 hi4 hx1 hx2 hx3 hx4 hcl hW hS hl hf kk
  | 37, _, hf =>
    refine lv_tableIn (off := 2206) (tgt := 2245) hx hb dL_law_39 (by decide) (by decide) (by decide) (by decide) ?_
    exact k_37 hfl hx hb hml hown hts hE hX hbl hbA hi1 hi2 hi3 hi4 hx1 hx2 hx3 hx4 hcl hW hS hl hf kk
  | 38, _, hf =>
    refine lv_tableIn (off := 2269) (tgt := 2308) hx hb dL_law_39 (by decide) (by decide) (by decide) (by decide) ?_
    exact k_38 hfl hx hb hml hown hts hE hX hbl hbA hi1 hi2 hi3 hi4 hx1 hx2 hx3 hx4 hcl hW hS hl hf kk
  | 39, _, hf =>
    refine lv_tableIn (off := 2325) (tgt := 2364) hx hb dL_law_39 (by decide) (by decide) (by decide) (by decide) ?_
    exact k_39 hfl hx hb hml hown hts hE hX hbl hbA hi1 hi2 hi3 hi4 hx1 hx2 hx3 hx4 hcl hW hS hl hf kk
  | 40, _, hf =>
    refine lv_tableIn (off := 2381) (tgt := 2420) hx hb dL_law_39 (by decide) (by decide) (by decide) (by decide) ?_
    exact k_40 hfl hx hb hml hown hts hE hX hbl hbA hi1 hi2 hi3 hi4 hx1 hx2 hx3 hx4 hcl hW hS hl hf kk
  | 41, _, hf =>
    refine lv_tableIn (off := 2394) (tgt := 2433) hx hb dL_law_39 (by decide) (by decide) (by decide) (by decide) ?_
    exact k_41 hfl hx hb hml hown hts hE hX hbl hbA hi1 hi2 hi3 hi4 hx1 hx2 hx3 hx4 hcl hW hS hl hf kk
  | 42, _, hf =>
    refine lv_tableIn (off := 2407) (tgt := 2446) hx hb dL_law_39 (by decide) (by decide) (by decide) (by decide) ?_
    exact k_42 hfl hx hb hml hown hts hE hX hbl hbA hi1 hi2 hi3 hi4 hx1 hx2 hx3 hx4 hcl hW hS hl hf kk
  | 43, _, hf =>
    refine lv_tableIn (off := 2463) (tgt := 2502) hx hb dL_law_39 (by decide) (by decide) (by decide) (by decide) ?_
    exact k_43 hfl hx hb hml hown hts hE hX hbl hbA hi1 hi2 hi3 hi4 hx1 hx2 hx3 hx4 hcl hW hS hl hf kk
  | 44, _, hf =>
    refine lv_tableIn (off := 2476) (tgt := 2515) hx hb dL_law_39 (by decide) (by decide) (by decide) (by decide) ?_
    exact k_44 hfl hx hb hml hown hts hE hX hbl hbA hi1 hi2 hi3 hi4 hx1 hx2 hx3 hx4 hcl hW hS hl hf kk
  | 45, _, hf =>
    refine lv_tableIn (off := 2489) (tgt := 2528) hx hb dL_law_39 (by decide) (by decide) (by decide) (by decide) ?_
    exact k_45 hfl hx hb hml hown hts hE hX hbl hbA hi1 hi2 hi3 hi4 hx1 hx2 hx3 hx4 hcl hW hS hl hf kk
  | 46, _, hf =>
    refine lv_tableIn (off := 2545) (tgt := 2584) hx hb dL_law_39 (by decide) (by decide) (by decide) (by decide) ?_
    exact k_46 hfl hx hb hml hown hts hE hX hbl hbA hi1 hi2 hi3 hi4 hx1 hx2 hx3 hx4 hcl hW hS hl hf kk
  | 47, _, hf =>
    refine lv_tableIn (off := 2558) (tgt := 2597) hx hb dL_law_39 (by decide) (by decide) (by decide) (by decide) ?_
    exact k_47 hfl hx hb hml hown hts hE hX hbl hbA hi1 hi2 hi3 hi4 hx1 hx2 hx3 hx4 hcl hW hS hl hf kk
  | 48, _, hf =>
    refine lv_tableIn (off := 2571) (tgt := 2610) hx hb dL_law_39 (by decide) (by decide) (by decide) (by decide) ?_
    exact k_48 hfl hx hb hml hown hts hE hX hbl hbA hi1 hi2 hi3 hi4 hx1 hx2 hx3 hx4 hcl hW hS hl hf kk
  | 49, _, hf =>
    refine lv_tableIn (off := 2584) (tgt := 2623) hx hb dL_law_39 (by decide) (by decide) (by decide) (by decide) ?_
    exact k_49 hfl hx hb hml hown hts hE hX hbl hbA hi1 hi2 hi3 hi4 hx1 hx2 hx3 hx4 hcl hW hS hl hf kk
  | 50, _, hf =>
    refine lv_tableIn (off := 2597) (tgt := 2636) hx hb dL_law_39 (by decide) (by decide) (by decide) (by decide) ?_
    exact k_50 hfl hx hb hml hown hts hE hX hbl hbA hi1 hi2 hi3 hi4 hx1 hx2 hx3 hx4 hcl hW hS hl hf kk
  | 51, _, hf =>
    refine lv_tableIn (off := 2610) (tgt := 2649) hx hb dL_law_39 (by decide) (by decide) (by decide) (by decide) ?_
    exact k_51 hfl hx hb hml hown hts hE hX hbl hbA hi1 hi2 hi3 hi4 hx1 hx2 hx3 hx4 hcl hW hS hl hf kk
  | 52, _, hf =>
    refine lv_tableIn (off := 2623) (tgt := 2662) hx hb dL_law_39 (by decide) (by decide) (by decide) (by decide) ?_
    exact k_52 hfl hx hb hml hown hts hE hX hbl hbA hi1 hi2 hi3 hi4 hx1 hx2 hx3 hx4 hcl hW hS hl hf kk
  | 53, _, hf =>
    refine lv_tableIn (off := 2636) (tgt := 2675) hx hb dL_law_39 (by decide) (by decide) (by decide) (by decide) ?_
    exact k_53 hfl hx hb hml hown hts hE hX hbl hbA hi1 hi2 hi3 hi4 hx1 hx2 hx3 hx4 hcl hW hS hl hf kk
  | 54, _, hf =>
    refine lv_tableIn (off := 2649) (tgt := 2688) hx hb dL_law_39 (by decide) (by decide) (by decide) (by decide) ?_
    exact k_54 hfl hx hb hml hown hts hE hX hbl hbA hi1 hi2 hi3 hi4 hx1 hx2 hx3 hx4 hcl hW hS hl hf kk
  | 55, _, hf =>
    refine lv_tableIn (off := 2662) (tgt := 2701) hx hb dL_law_39 (by decide) (by decide) (by decide) (by decide) ?_
    exact k_55 hfl hx hb hml hown hts hE hX hbl hbA hi1 hi2 hi3 hi4 hx1 hx2 hx3 hx4 hcl hW hS hl hf kk
  | 56, _, hf =>
    refine lv_tableIn (off := 2718) (tgt := 2757) hx hb dL_law_39 (by decide) (by decide) (by decide) (by decide) ?_
    exact k_56 hfl hx hb hml hown hts hE hX hbl hbA hi1 hi2 hi3 hi4 hx1 hx2 hx3 hx4 hcl hW hS hl hf kk
  | 57, _, hf =>
    refine lv_tableIn (off := 2786) (tgt := 2825) hx hb dL_law_39 (by decide) (by decide) (by decide) (by decide) ?_
    exact k_57 hfl hx hb hml hown hts hE hX hbl hbA hi1 hi2 hi3 hi4 hx1 hx2 hx3 hx4 hcl hW hS hl hf kk
  | n + 58, h, hf =>
    have h9 : gl[n + 58]? = none := List.getElem?_eq_none (by show 58 ≤ n + 58; omega)
    rw [h9] at hf
    cases hf
    refine lv_tableOut (tgt := 2838) hx hb dL_law_39 (Or.inr (by rw [nI_toInt (by omega)]; omega)) (by decide) ?_
    refine W.widen (k := cells + 16) (n := slots + 96) (by omega) (by omega) ?_
    exact kk _ _ _ hW hS hl
set_option maxHeartbeats 8000000 in
set_option maxRecDepth 100000 in
/-- the law's loop: where each step is possible and keeps Inv, the law comes to its end with true -/
theorem law_loop {p : Program} {l : Launch} {e : Env} {s : State} {m : MethodId} {below : List Frame} {meth : Method} {c : Code} {bA L : Nat} {xs : Nat → Int32} {D : va_G} {t : Nat → ClassId} {b : Nat} (hfl : l.stackTraces = false) (hx : p.tables.exec = Jvm.exec) (hb : c.code = cL_law) (hml : c.maxLocals = 7) (hown : s.vm.findClass RL = some m.cls) {c9 : Cond} (hts : ∀ w ∈ c9 :: ALL, w.before #[Value.ref bA] s = true) (hE : EV D t b s) (hX : va_X bA L xs s s.heap) (hbl : bA < s.heap.size) (hbA : ¬ geA b bA) (hbs : b = s.heap.size) (hret : meth.sig.returnType = ret) (hlocks : meth.locks = false) (hL : L ≤ 2560) (Inv : Sg → Prop) (hstep : ∀ σ a0 a1 a2 a3 a4, Inv σ → ∃ σ', gstep σ a0 a1 a2 a3 a4 = some σ' ∧ Inv σ') : ∀ (n j : Nat) (σ : Sg) (H : Heap) (locs : List Loc) (ls : Array Slot), 5 * j ≤ L → L - 5 * j < n → Inv σ → wd D t b σ H → va_S (geA b) s.heap H locs → lv_has ls 7 [(0, .ref bA), (1, .ref (b + 0)), (2, .ref (b + 193)), (3, .ref (b + 202)), (4, .int (nI (5 * j)))] → W p l e room_1 s m #[Value.ref bA] below meth c H locs (300 + 16 * j) (50000 + 96 * j) (lw_Z below #[Value.ref bA] s) (F0 m 23 ls []) := by
  intro n
  induction n with
  | zero => intro j σ H locs ls _ h2; omega
  | succ n ih =>
    intro j σ H locs ls h1 h2 hI hW hS hl
    refine lv_iload hx hb dL_law_23 (lv_at hl 4 rfl) ?_
    refine lv_aload_n hx hb dL_law_25 rfl (lv_at hl 0 rfl) ?_
    refine va_slen hx hb hX hbl hbA hS dL_law_26 ?_
    refine lv_iconst (v := 5) hx hb dL_law_27 (by decide) ?_
    refine lv_isub hx hb dL_law_28 ?_
    by_cases hj : 5 * j + 5 ≤ L
    · have e5 : Int32.ofNat L - 5 = nI (L - 5) := pk_sub (a := L) (b := 5) (by omega)
      rw [e5]
      refine lv_icmp_gt (tgt := 2844) hx hb dL_law_29 (by decide) (fun g => absurd g (nI_nlt (by omega) (by omega))) (fun g => ?_)
      refine lv_aload_n hx hb dL_law_32 rfl (lv_at hl 0 rfl) ?_
      refine lv_iload hx hb dL_law_33 (lv_at hl 4 rfl) ?_
      refine va_sld hx hb hX hbl hbA hS (vp_in_nI (by omega) (by omega)) dL_law_35 ?_
      refine lv_bipush (v := 63) hx hb dL_law_36 (by decide) ?_
      refine lv_iand hx hb dL_law_38 ?_
      have q1 : nI (5 * j) + 1 = nI (5 * j + 1) := nI_add _ 1
      have q2 : nI (5 * j) + 2 = nI (5 * j + 2) := nI_add _ 2
      have q3 : nI (5 * j) + 3 = nI (5 * j + 3) := nI_add _ 3
      have q4 : nI (5 * j) + 4 = nI (5 * j + 4) := nI_add _ 4
      obtain ⟨σr, hg, hI2⟩ := hstep σ (xs (nI (5 * j)).toNatClampNeg) (xs (nI (5 * j) + 1).toNatClampNeg) (xs (nI (5 * j) + 2).toNatClampNeg) (xs (nI (5 * j) + 3).toNatClampNeg) (xs (nI (5 * j) + 4).toNatClampNeg) hI
      refine law_turn hfl hx hb hml hown hts hE hX hbl hbA (by rw [q1]; exact vp_in_nI (by omega) (by omega)) (by rw [q2]; exact vp_in_nI (by omega) (by omega)) (by rw [q3]; exact vp_in_nI (by omega) (by omega)) (by rw [q4]; exact vp_in_nI (by omega) (by omega)) rfl rfl rfl rfl ⟨show 300 + 16 * j + 16 ≤ 601024 by omega, show 50000 + 96 * j + 96 ≤ 7293034 by omega⟩ hW hS hl hg (fun H locs ls hW hS hl => ?_)
      refine lv_iinc (v := nI (5 * (j + 1))) (lv' := [(4, .int (nI (5 * (j + 1)))), (0, .ref bA), (1, .ref (b + 0)), (2, .ref (b + 193)), (3, .ref (b + 202))]) hx hb dL_law_2838 hl (k := 4) rfl (nI_add (5 * j) 5) (by decide) rfl (fun ls hl => ?_)
      refine lv_goto (tgt := 23) hx hb dL_law_2841 (by decide) ?_
      exact ih (j + 1) σr H locs ls (by omega) (by omega) hI2 hW hS (lv_sub hl [1, 2, 3, 4, 0] rfl)
    · refine lv_icmp_gt (tgt := 2844) hx hb dL_law_29 (by decide) (fun g => ?_) (fun g => absurd ?_ g)
      · refine lv_iconst (v := 1) hx hb dL_law_2844 (by decide) ?_
        refine va_forget (fun q hq => by rw [← hbs]; exact hS.2.2 q hq) ?_
        refine W.widen (k := 601024) (n := 7293034) (by omega) (by omega) ?_
        exact lw_ret hx hb hret hlocks dL_law_2845
      · rcases Nat.lt_or_ge L 5 with q | q
        · rw [show j = 0 by omega]
          show Int32.ofNat L - 5 < nI 0
          rw [nI_0]
          exact pk_sneg (a := L) (b := 5) (by omega) q
        · rw [show Int32.ofNat L - 5 = nI (L - 5) from pk_sub (a := L) (b := 5) q]
          exact nI_lt (by omega) (by omega)

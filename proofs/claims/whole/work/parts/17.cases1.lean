def g_29 (σ : Sg) (a1 a2 a3 a4 : Int32) : Option Sg := b2 (f_L_levelToWin σ a1) fun y2 σ1 => b2 (f_X5_levelToWin σ1 a1) fun y4 σ6 => b1 (f_X5_thrown σ6) fun y7 => if y7 = y2 then (if y2 = 0 then (if (σ6 202 (0 : Int32).toNatClampNeg) = y4 then (some σ6) else (none)) else (some σ6)) else (none)
set_option maxHeartbeats 4000000 in
set_option maxRecDepth 100000 in
theorem k_29 {p : Program} {l : Launch} {e : Env} {s : State} {m : MethodId} {below : List Frame} {meth : Method} {c : Code} {bA L : Nat} {xs : Nat → Int32} {D : va_G} {t : Nat → ClassId} {b : Nat} (hfl : l.stackTraces = false) (hx : p.tables.exec = Jvm.exec) (hb : c.code = cL_law) (hml : c.maxLocals = 7) (hown : s.vm.findClass RL = some m.cls) {c9 : Cond} (hts : ∀ w ∈ c9 :: ALL, w.before #[Value.ref bA] s = true) (hE : EV D t b s) (hX : va_X bA L xs s s.heap) (hbl : bA < s.heap.size) (hbA : ¬ geA b bA) {i a1 a2 a3 a4 : Int32} (hi1 : vp_in (i + 1) L) (hi2 : vp_in (i + 2) L) (hi3 : vp_in (i + 3) L) (hi4 : vp_in (i + 4) L) (hx1 : xs (i + 1).toNatClampNeg = a1) (hx2 : xs (i + 2).toNatClampNeg = a2) (hx3 : xs (i + 3).toNatClampNeg = a3) (hx4 : xs (i + 4).toNatClampNeg = a4) {H : Heap} {locs : List Loc} {ls : Array Slot} {cells slots : Nat} {Q : State → Prop} (hcl : cells + 16 ≤ room_1.cells ∧ slots + 96 ≤ room_1.slots) {σ σr : Sg} (hW : wd D t b σ H) (hS : va_S (geA b) s.heap H locs) (hl : lv_has ls 7 [(0, .ref bA), (1, .ref (b + 0)), (2, .ref (b + 193)), (3, .ref (b + 202)), (4, .int i)]) (hf : g_29 σ a1 a2 a3 a4 = some σr) (kk : ∀ (H : Heap) (locs : List Loc) (ls : Array Slot), wd D t b σr H → va_S (geA b) s.heap H locs → lv_has ls 7 [(0, .ref bA), (1, .ref (b + 0)), (2, .ref (b + 193)), (3, .ref (b + 202)), (4, .int i)] → W p l e room_1 s m #[Value.ref bA] below meth c H locs (cells + 16) (slots + 96) Q (F0 m 2838 ls [])) : W p l e room_1 s m #[Value.ref bA] below meth c H locs cells slots Q (F0 m 1876 ls []) := by
  have hta := fun w h => hts w (List.mem_cons_of_mem _ h)
  unfold g_29 at hf
  refine lv_aload_n hx hb dL_law_1876 rfl (lv_at hl 1 rfl) ?_
  refine lv_aload_n hx hb dL_law_1877 rfl (lv_at hl 0 rfl) ?_
  refine lv_iload hx hb dL_law_1878 (lv_at hl 4 rfl) ?_
  refine lv_iconst (v := 1) hx hb dL_law_1880 (by decide) ?_
  refine lv_iadd hx hb dL_law_1881 ?_
  refine va_sld hx hb hX hbl hbA hS hi1 dL_law_1882 ?_
  rw [hx1]
  refine lv_aload_n hx hb dL_law_1883 rfl (lv_at hl 3 rfl) ?_
  obtain ⟨y2, σ1, u3, hf⟩ := b2_e hf
  refine mSH (n := 3) (As := [.ref (b + 0), .int a1, .ref (b + 202)]) (rest := []) (c_L_levelToWin l hfl D t b σ a1 y2 σ1 u3) hx hb hml hown hts hE hW hS q1066 q1067 q90 qw_L_levelToWin hs_L_levelToWin ⟨rfl, rfl⟩ ⟨Nat.le_of_ble_eq_true rfl, Nat.le_of_ble_eq_true rfl⟩ rfl rfl hl.1 (Nat.le_of_ble_eq_true rfl) ⟨by obtain ⟨hc1, hc2⟩ := hcl; omega, by obtain ⟨hc1, hc2⟩ := hcl; omega⟩ dL_law_1884 (fun H locs hW hS => ?_)
  refine lv_istore (lv' := [(5, .int y2), (0, .ref bA), (1, .ref (b + 0)), (2, .ref (b + 193)), (3, .ref (b + 202)), (4, .int i)]) hx hb dL_law_1887 hl (by decide) rfl (fun ls hl => ?_)
  refine lv_aload_n hx hb dL_law_1889 rfl (lv_at hl 3 rfl) ?_
  refine lv_aload_n hx hb dL_law_1890 rfl (lv_at hl 1 rfl) ?_
  refine lv_iload hx hb dL_law_1891 (lv_at hl 5 rfl) ?_
  refine lv_iconst (v := 1) hx hb dL_law_1893 (by decide) ?_
  refine lv_iadd hx hb dL_law_1894 ?_
  refine va_sld hx hb hX hbl hbA hS hi1 dL_law_1895 ?_
  rw [hx1]
  obtain ⟨y4, σ6, u5, hf⟩ := b2_e hf
  refine mV (k := 193) (q := (5, 0)) (C := RX5) (T := TX5) (N := 14) (ci := 5) (n := 1) (As := [.int a1]) (rest := []) (c_X5_levelToWin l D t b σ1 a1 y4 σ6 u5) sh_193 (by decide) rfl rfl hx hb hml hown hts hE hW hS q1584 q1585 q1586 q96 q1587 hy_X5_levelToWin ⟨rfl, rfl⟩ ⟨Nat.le_of_ble_eq_true rfl, Nat.le_of_ble_eq_true rfl⟩ rfl rfl hl.1 (Nat.le_of_ble_eq_true rfl) ⟨by obtain ⟨hc1, hc2⟩ := hcl; omega, by obtain ⟨hc1, hc2⟩ := hcl; omega⟩ dL_law_1896 (fun H locs hW hS => ?_)
  refine lv_istore (lv' := [(6, .int y4), (5, .int y2), (0, .ref bA), (1, .ref (b + 0)), (2, .ref (b + 193)), (3, .ref (b + 202)), (4, .int i)]) hx hb dL_law_1899 hl (by decide) rfl (fun ls hl => ?_)
  refine lv_aload_n hx hb dL_law_1901 rfl (lv_at hl 4 rfl) ?_
  obtain ⟨y7, u8, hf⟩ := b1_e hf
  refine mV (k := 193) (q := (5, 0)) (C := RX5) (T := TX5) (N := 14) (ci := 5) (n := 0) (As := []) (rest := []) (c_X5_thrown l D t b σ6 y7 u8) sh_193 (by decide) rfl rfl hx hb hml hown hts hE hW hS q1224 q1225 q1226 q96 q1227 hy_X5_thrown ⟨rfl, rfl⟩ ⟨Nat.le_of_ble_eq_true rfl, Nat.le_of_ble_eq_true rfl⟩ rfl rfl hl.1 (Nat.le_of_ble_eq_true rfl) ⟨by obtain ⟨hc1, hc2⟩ := hcl; omega, by obtain ⟨hc1, hc2⟩ := hcl; omega⟩ dL_law_1902 (fun H locs hW hS => ?_)
  refine lv_iload hx hb dL_law_1905 (lv_at hl 1 rfl) ?_
  refine lv_icmp_eq (tgt := 1912) hx hb dL_law_1907 (by decide) (fun h9 => ?_) (fun h9 => ?_)
  · have hf := ifp h9 hf
    refine lv_iload hx hb dL_law_1912 (lv_at hl 1 rfl) ?_
    refine lv_if_ne (tgt := 1929) hx hb dL_law_1914 (by decide) (fun h10 => ?_) (fun h10 => ?_)
    · have hf := ifn h10 hf
      refine lv_goto (tgt := 2838) hx hb dL_law_1929 (by decide) ?_
      cases hf
      refine W.widen (k := cells + 16) (n := slots + 96) (by omega) (by omega) ?_
      exact kk _ _ _ hW hS (lv_sub hl [2, 3, 4, 5, 6] rfl)
    · have hf := ifp h10 hf
      refine lv_aload_n hx hb dL_law_1917 rfl (lv_at hl 5 rfl) ?_
      refine lv_iconst (v := 0) hx hb dL_law_1918 (by decide) ?_
      refine lald hx hb hE.1 hW sh_202 (vp_lit (by decide +kernel)) dL_law_1919 ?_
      refine lv_iload hx hb dL_law_1920 (lv_at hl 0 rfl) ?_
      refine lv_i2l hx hb dL_law_1922 rfl ?_
      refine lcmp_if (tgt := 1929) hx hb dL_law_1923 dL_law_1924 (by decide) (fun h11 => ?_) (fun h11 => ?_)
      · have hf := ifp h11 hf
        refine lv_goto (tgt := 2838) hx hb dL_law_1929 (by decide) ?_
        cases hf
        refine W.widen (k := cells + 16) (n := slots + 96) (by omega) (by omega) ?_
        exact kk _ _ _ hW hS (lv_sub hl [2, 3, 4, 5, 6] rfl)
      · have hf := ifn h11 hf
        refine lv_iconst (v := 0) hx hb dL_law_1927 (by decide) ?_
        cases hf
  · have hf := ifn h9 hf
    refine lv_iconst (v := 0) hx hb dL_law_1910 (by decide) ?_
    cases hf
def g_30 (σ : Sg) (a1 a2 a3 a4 : Int32) : Option Sg := b2 (f_L_wonOf σ a1) fun y2 σ1 => b2 (f_X5_wonOf σ1 a1) fun y4 σ6 => b1 (f_X5_thrown σ6) fun y7 => if y7 = y2 then (if y2 = 0 then (if (σ6 202 (0 : Int32).toNatClampNeg) = y4 then (some σ6) else (none)) else (some σ6)) else (none)
set_option maxHeartbeats 4000000 in
set_option maxRecDepth 100000 in
theorem k_30 {p : Program} {l : Launch} {e : Env} {s : State} {m : MethodId} {below : List Frame} {meth : Method} {c : Code} {bA L : Nat} {xs : Nat → Int32} {D : va_G} {t : Nat → ClassId} {b : Nat} (hfl : l.stackTraces = false) (hx : p.tables.exec = Jvm.exec) (hb : c.code = cL_law) (hml : c.maxLocals = 7) (hown : s.vm.findClass RL = some m.cls) {c9 : Cond} (hts : ∀ w ∈ c9 :: ALL, w.before #[Value.ref bA] s = true) (hE : EV D t b s) (hX : va_X bA L xs s s.heap) (hbl : bA < s.heap.size) (hbA : ¬ geA b bA) {i a1 a2 a3 a4 : Int32} (hi1 : vp_in (i + 1) L) (hi2 : vp_in (i + 2) L) (hi3 : vp_in (i + 3) L) (hi4 : vp_in (i + 4) L) (hx1 : xs (i + 1).toNatClampNeg = a1) (hx2 : xs (i + 2).toNatClampNeg = a2) (hx3 : xs (i + 3).toNatClampNeg = a3) (hx4 : xs (i + 4).toNatClampNeg = a4) {H : Heap} {locs : List Loc} {ls : Array Slot} {cells slots : Nat} {Q : State → Prop} (hcl : cells + 16 ≤ room_1.cells ∧ slots + 96 ≤ room_1.slots) {σ σr : Sg} (hW : wd D t b σ H) (hS : va_S (geA b) s.heap H locs) (hl : lv_has ls 7 [(0, .ref bA), (1, .ref (b + 0)), (2, .ref (b + 193)), (3, .ref (b + 202)), (4, .int i)]) (hf : g_30 σ a1 a2 a3 a4 = some σr) (kk : ∀ (H : Heap) (locs : List Loc) (ls : Array Slot), wd D t b σr H → va_S (geA b) s.heap H locs → lv_has ls 7 [(0, .ref bA), (1, .ref (b + 0)), (2, .ref (b + 193)), (3, .ref (b + 202)), (4, .int i)] → W p l e room_1 s m #[Value.ref bA] below meth c H locs (cells + 16) (slots + 96) Q (F0 m 2838 ls [])) : W p l e room_1 s m #[Value.ref bA] below meth c H locs cells slots Q (F0 m 1932 ls []) := by
  have hta := fun w h => hts w (List.mem_cons_of_mem _ h)
  unfold g_30 at hf
  refine lv_aload_n hx hb dL_law_1932 rfl (lv_at hl 1 rfl) ?_
  refine lv_aload_n hx hb dL_law_1933 rfl (lv_at hl 0 rfl) ?_
  refine lv_iload hx hb dL_law_1934 (lv_at hl 4 rfl) ?_
  refine lv_iconst (v := 1) hx hb dL_law_1936 (by decide) ?_
  refine lv_iadd hx hb dL_law_1937 ?_
  refine va_sld hx hb hX hbl hbA hS hi1 dL_law_1938 ?_
  rw [hx1]
  refine lv_aload_n hx hb dL_law_1939 rfl (lv_at hl 3 rfl) ?_
  obtain ⟨y2, σ1, u3, hf⟩ := b2_e hf
  refine mSH (n := 3) (As := [.ref (b + 0), .int a1, .ref (b + 202)]) (rest := []) (c_L_wonOf l hfl D t b σ a1 y2 σ1 u3) hx hb hml hown hts hE hW hS q1074 q1075 q90 qw_L_wonOf hs_L_wonOf ⟨rfl, rfl⟩ ⟨Nat.le_of_ble_eq_true rfl, Nat.le_of_ble_eq_true rfl⟩ rfl rfl hl.1 (Nat.le_of_ble_eq_true rfl) ⟨by obtain ⟨hc1, hc2⟩ := hcl; omega, by obtain ⟨hc1, hc2⟩ := hcl; omega⟩ dL_law_1940 (fun H locs hW hS => ?_)
  refine lv_istore (lv' := [(5, .int y2), (0, .ref bA), (1, .ref (b + 0)), (2, .ref (b + 193)), (3, .ref (b + 202)), (4, .int i)]) hx hb dL_law_1943 hl (by decide) rfl (fun ls hl => ?_)
  refine lv_aload_n hx hb dL_law_1945 rfl (lv_at hl 3 rfl) ?_
  refine lv_aload_n hx hb dL_law_1946 rfl (lv_at hl 1 rfl) ?_
  refine lv_iload hx hb dL_law_1947 (lv_at hl 5 rfl) ?_
  refine lv_iconst (v := 1) hx hb dL_law_1949 (by decide) ?_
  refine lv_iadd hx hb dL_law_1950 ?_
  refine va_sld hx hb hX hbl hbA hS hi1 dL_law_1951 ?_
  rw [hx1]
  obtain ⟨y4, σ6, u5, hf⟩ := b2_e hf
  refine mV (k := 193) (q := (5, 0)) (C := RX5) (T := TX5) (N := 14) (ci := 5) (n := 1) (As := [.int a1]) (rest := []) (c_X5_wonOf l D t b σ1 a1 y4 σ6 u5) sh_193 (by decide) rfl rfl hx hb hml hown hts hE hW hS q1588 q1589 q1590 q96 q1591 hy_X5_wonOf ⟨rfl, rfl⟩ ⟨Nat.le_of_ble_eq_true rfl, Nat.le_of_ble_eq_true rfl⟩ rfl rfl hl.1 (Nat.le_of_ble_eq_true rfl) ⟨by obtain ⟨hc1, hc2⟩ := hcl; omega, by obtain ⟨hc1, hc2⟩ := hcl; omega⟩ dL_law_1952 (fun H locs hW hS => ?_)
  refine lv_istore (lv' := [(6, .int y4), (5, .int y2), (0, .ref bA), (1, .ref (b + 0)), (2, .ref (b + 193)), (3, .ref (b + 202)), (4, .int i)]) hx hb dL_law_1955 hl (by decide) rfl (fun ls hl => ?_)
  refine lv_aload_n hx hb dL_law_1957 rfl (lv_at hl 4 rfl) ?_
  obtain ⟨y7, u8, hf⟩ := b1_e hf
  refine mV (k := 193) (q := (5, 0)) (C := RX5) (T := TX5) (N := 14) (ci := 5) (n := 0) (As := []) (rest := []) (c_X5_thrown l D t b σ6 y7 u8) sh_193 (by decide) rfl rfl hx hb hml hown hts hE hW hS q1224 q1225 q1226 q96 q1227 hy_X5_thrown ⟨rfl, rfl⟩ ⟨Nat.le_of_ble_eq_true rfl, Nat.le_of_ble_eq_true rfl⟩ rfl rfl hl.1 (Nat.le_of_ble_eq_true rfl) ⟨by obtain ⟨hc1, hc2⟩ := hcl; omega, by obtain ⟨hc1, hc2⟩ := hcl; omega⟩ dL_law_1958 (fun H locs hW hS => ?_)
  refine lv_iload hx hb dL_law_1961 (lv_at hl 1 rfl) ?_
  refine lv_icmp_eq (tgt := 1968) hx hb dL_law_1963 (by decide) (fun h9 => ?_) (fun h9 => ?_)
  · have hf := ifp h9 hf
    refine lv_iload hx hb dL_law_1968 (lv_at hl 1 rfl) ?_
    refine lv_if_ne (tgt := 1985) hx hb dL_law_1970 (by decide) (fun h10 => ?_) (fun h10 => ?_)
    · have hf := ifn h10 hf
      refine lv_goto (tgt := 2838) hx hb dL_law_1985 (by decide) ?_
      cases hf
      refine W.widen (k := cells + 16) (n := slots + 96) (by omega) (by omega) ?_
      exact kk _ _ _ hW hS (lv_sub hl [2, 3, 4, 5, 6] rfl)
    · have hf := ifp h10 hf
      refine lv_aload_n hx hb dL_law_1973 rfl (lv_at hl 5 rfl) ?_
      refine lv_iconst (v := 0) hx hb dL_law_1974 (by decide) ?_
      refine lald hx hb hE.1 hW sh_202 (vp_lit (by decide +kernel)) dL_law_1975 ?_
      refine lv_iload hx hb dL_law_1976 (lv_at hl 0 rfl) ?_
      refine lv_i2l hx hb dL_law_1978 rfl ?_
      refine lcmp_if (tgt := 1985) hx hb dL_law_1979 dL_law_1980 (by decide) (fun h11 => ?_) (fun h11 => ?_)
      · have hf := ifp h11 hf
        refine lv_goto (tgt := 2838) hx hb dL_law_1985 (by decide) ?_
        cases hf
        refine W.widen (k := cells + 16) (n := slots + 96) (by omega) (by omega) ?_
        exact kk _ _ _ hW hS (lv_sub hl [2, 3, 4, 5, 6] rfl)
      · have hf := ifn h11 hf
        refine lv_iconst (v := 0) hx hb dL_law_1983 (by decide) ?_
        cases hf
  · have hf := ifn h9 hf
    refine lv_iconst (v := 0) hx hb dL_law_1966 (by decide) ?_
    cases hf
def g_31 (σ : Sg) (a1 a2 a3 a4 : Int32) : Option Sg := b1 (f_X4_children σ) fun y1 => b2 (f_X5_children σ) fun y3 σ5 => if y1 = y3 then (some σ5) else (none)
set_option maxHeartbeats 4000000 in
set_option maxRecDepth 100000 in
theorem k_31 {p : Program} {l : Launch} {e : Env} {s : State} {m : MethodId} {below : List Frame} {meth : Method} {c : Code} {bA L : Nat} {xs : Nat → Int32} {D : va_G} {t : Nat → ClassId} {b : Nat} (hfl : l.stackTraces = false) (hx : p.tables.exec = Jvm.exec) (hb : c.code = cL_law) (hml : c.maxLocals = 7) (hown : s.vm.findClass RL = some m.cls) {c9 : Cond} (hts : ∀ w ∈ c9 :: ALL, w.before #[Value.ref bA] s = true) (hE : EV D t b s) (hX : va_X bA L xs s s.heap) (hbl : bA < s.heap.size) (hbA : ¬ geA b bA) {i a1 a2 a3 a4 : Int32} (hi1 : vp_in (i + 1) L) (hi2 : vp_in (i + 2) L) (hi3 : vp_in (i + 3) L) (hi4 : vp_in (i + 4) L) (hx1 : xs (i + 1).toNatClampNeg = a1) (hx2 : xs (i + 2).toNatClampNeg = a2) (hx3 : xs (i + 3).toNatClampNeg = a3) (hx4 : xs (i + 4).toNatClampNeg = a4) {H : Heap} {locs : List Loc} {ls : Array Slot} {cells slots : Nat} {Q : State → Prop} (hcl : cells + 16 ≤ room_1.cells ∧ slots + 96 ≤ room_1.slots) {σ σr : Sg} (hW : wd D t b σ H) (hS : va_S (geA b) s.heap H locs) (hl : lv_has ls 7 [(0, .ref bA), (1, .ref (b + 0)), (2, .ref (b + 193)), (3, .ref (b + 202)), (4, .int i)]) (hf : g_31 σ a1 a2 a3 a4 = some σr) (kk : ∀ (H : Heap) (locs : List Loc) (ls : Array Slot), wd D t b σr H → va_S (geA b) s.heap H locs → lv_has ls 7 [(0, .ref bA), (1, .ref (b + 0)), (2, .ref (b + 193)), (3, .ref (b + 202)), (4, .int i)] → W p l e room_1 s m #[Value.ref bA] below meth c H locs (cells + 16) (slots + 96) Q (F0 m 2838 ls [])) : W p l e room_1 s m #[Value.ref bA] below meth c H locs cells slots Q (F0 m 1988 ls []) := by
  have hta := fun w h => hts w (List.mem_cons_of_mem _ h)
  unfold g_31 at hf
  refine lv_aload_n hx hb dL_law_1988 rfl (lv_at hl 1 rfl) ?_
  obtain ⟨y1, u2, hf⟩ := b1_e hf
  refine mV (k := 0) (q := (0, 0)) (C := RX4) (T := TX4) (N := 8) (ci := 4) (n := 0) (As := []) (rest := []) (c_X4_children l D t b σ y1 u2) sh_0 (by decide) rfl rfl hx hb hml hown hts hE hW hS q446 q447 q448 q91 q449 hy_X4_children ⟨rfl, rfl⟩ ⟨Nat.le_of_ble_eq_true rfl, Nat.le_of_ble_eq_true rfl⟩ rfl rfl hl.1 (Nat.le_of_ble_eq_true rfl) ⟨by obtain ⟨hc1, hc2⟩ := hcl; omega, by obtain ⟨hc1, hc2⟩ := hcl; omega⟩ dL_law_1989 (fun H locs hW hS => ?_)
  refine lv_aload_n hx hb dL_law_1992 rfl (lv_at hl 2 rfl) ?_
  obtain ⟨y3, σ5, u4, hf⟩ := b2_e hf
  refine mV (k := 193) (q := (5, 0)) (C := RX5) (T := TX5) (N := 14) (ci := 5) (n := 0) (As := []) (rest := [.int y1]) (c_X5_children l D t b σ y3 σ5 u4) sh_193 (by decide) rfl rfl hx hb hml hown hts hE hW hS q1592 q1593 q1594 q96 q1595 hy_X5_children ⟨rfl, rfl⟩ ⟨Nat.le_of_ble_eq_true rfl, Nat.le_of_ble_eq_true rfl⟩ rfl rfl hl.1 (Nat.le_of_ble_eq_true rfl) ⟨by obtain ⟨hc1, hc2⟩ := hcl; omega, by obtain ⟨hc1, hc2⟩ := hcl; omega⟩ dL_law_1993 (fun H locs hW hS => ?_)
  refine lv_icmp_eq (tgt := 2838) hx hb dL_law_1996 (by decide) (fun h6 => ?_) (fun h6 => ?_)
  · have hf := ifp h6 hf
    cases hf
    refine W.widen (k := cells + 16) (n := slots + 96) (by omega) (by omega) ?_
    exact kk _ _ _ hW hS (lv_sub hl [0, 1, 2, 3, 4] rfl)
  · have hf := ifn h6 hf
    refine lv_iconst (v := 0) hx hb dL_law_1999 (by decide) ?_
    cases hf
def g_32 (σ : Sg) (a1 a2 a3 a4 : Int32) : Option Sg := b1 (f_X4_atFair σ) fun y1 => b2 (f_X5_atFair σ) fun y3 σ5 => if y1 = y3 then (some σ5) else (none)
set_option maxHeartbeats 4000000 in
set_option maxRecDepth 100000 in
theorem k_32 {p : Program} {l : Launch} {e : Env} {s : State} {m : MethodId} {below : List Frame} {meth : Method} {c : Code} {bA L : Nat} {xs : Nat → Int32} {D : va_G} {t : Nat → ClassId} {b : Nat} (hfl : l.stackTraces = false) (hx : p.tables.exec = Jvm.exec) (hb : c.code = cL_law) (hml : c.maxLocals = 7) (hown : s.vm.findClass RL = some m.cls) {c9 : Cond} (hts : ∀ w ∈ c9 :: ALL, w.before #[Value.ref bA] s = true) (hE : EV D t b s) (hX : va_X bA L xs s s.heap) (hbl : bA < s.heap.size) (hbA : ¬ geA b bA) {i a1 a2 a3 a4 : Int32} (hi1 : vp_in (i + 1) L) (hi2 : vp_in (i + 2) L) (hi3 : vp_in (i + 3) L) (hi4 : vp_in (i + 4) L) (hx1 : xs (i + 1).toNatClampNeg = a1) (hx2 : xs (i + 2).toNatClampNeg = a2) (hx3 : xs (i + 3).toNatClampNeg = a3) (hx4 : xs (i + 4).toNatClampNeg = a4) {H : Heap} {locs : List Loc} {ls : Array Slot} {cells slots : Nat} {Q : State → Prop} (hcl : cells + 16 ≤ room_1.cells ∧ slots + 96 ≤ room_1.slots) {σ σr : Sg} (hW : wd D t b σ H) (hS : va_S (geA b) s.heap H locs) (hl : lv_has ls 7 [(0, .ref bA), (1, .ref (b + 0)), (2, .ref (b + 193)), (3, .ref (b + 202)), (4, .int i)]) (hf : g_32 σ a1 a2 a3 a4 = some σr) (kk : ∀ (H : Heap) (locs : List Loc) (ls : Array Slot), wd D t b σr H → va_S (geA b) s.heap H locs → lv_has ls 7 [(0, .ref bA), (1, .ref (b + 0)), (2, .ref (b + 193)), (3, .ref (b + 202)), (4, .int i)] → W p l e room_1 s m #[Value.ref bA] below meth c H locs (cells + 16) (slots + 96) Q (F0 m 2838 ls [])) : W p l e room_1 s m #[Value.ref bA] below meth c H locs cells slots Q (F0 m 2001 ls []) := by
  have hta := fun w h => hts w (List.mem_cons_of_mem _ h)
  unfold g_32 at hf
  refine lv_aload_n hx hb dL_law_2001 rfl (lv_at hl 1 rfl) ?_
  obtain ⟨y1, u2, hf⟩ := b1_e hf
  refine mV (k := 0) (q := (0, 0)) (C := RX4) (T := TX4) (N := 8) (ci := 4) (n := 0) (As := []) (rest := []) (c_X4_atFair l D t b σ y1 u2) sh_0 (by decide) rfl rfl hx hb hml hown hts hE hW hS q450 q451 q452 q91 q453 hy_X4_atFair ⟨rfl, rfl⟩ ⟨Nat.le_of_ble_eq_true rfl, Nat.le_of_ble_eq_true rfl⟩ rfl rfl hl.1 (Nat.le_of_ble_eq_true rfl) ⟨by obtain ⟨hc1, hc2⟩ := hcl; omega, by obtain ⟨hc1, hc2⟩ := hcl; omega⟩ dL_law_2002 (fun H locs hW hS => ?_)
  refine lv_aload_n hx hb dL_law_2005 rfl (lv_at hl 2 rfl) ?_
  obtain ⟨y3, σ5, u4, hf⟩ := b2_e hf
  refine mV (k := 193) (q := (5, 0)) (C := RX5) (T := TX5) (N := 14) (ci := 5) (n := 0) (As := []) (rest := [.int y1]) (c_X5_atFair l D t b σ y3 σ5 u4) sh_193 (by decide) rfl rfl hx hb hml hown hts hE hW hS q1596 q1597 q1598 q96 q1599 hy_X5_atFair ⟨rfl, rfl⟩ ⟨Nat.le_of_ble_eq_true rfl, Nat.le_of_ble_eq_true rfl⟩ rfl rfl hl.1 (Nat.le_of_ble_eq_true rfl) ⟨by obtain ⟨hc1, hc2⟩ := hcl; omega, by obtain ⟨hc1, hc2⟩ := hcl; omega⟩ dL_law_2006 (fun H locs hW hS => ?_)
  refine lv_icmp_eq (tgt := 2838) hx hb dL_law_2009 (by decide) (fun h6 => ?_) (fun h6 => ?_)
  · have hf := ifp h6 hf
    cases hf
    refine W.widen (k := cells + 16) (n := slots + 96) (by omega) (by omega) ?_
    exact kk _ _ _ hW hS (lv_sub hl [0, 1, 2, 3, 4] rfl)
  · have hf := ifn h6 hf
    refine lv_iconst (v := 0) hx hb dL_law_2012 (by decide) ?_
    cases hf
def g_33 (σ : Sg) (a1 a2 a3 a4 : Int32) : Option Sg := b2 (f_L_isAtFair σ a1) fun y2 σ1 => b2 (f_X5_isAtFair σ1 a1) fun y4 σ6 => b1 (f_X5_thrown σ6) fun y7 => if y7 = y2 then (if y2 = 0 then (if y4 = 0 then (if (σ6 202 (0 : Int32).toNatClampNeg) = 0 then (some σ6) else (none)) else (if (σ6 202 (0 : Int32).toNatClampNeg) = 1 then (some σ6) else (none))) else (some σ6)) else (none)
set_option maxHeartbeats 4000000 in
set_option maxRecDepth 100000 in
theorem k_33 {p : Program} {l : Launch} {e : Env} {s : State} {m : MethodId} {below : List Frame} {meth : Method} {c : Code} {bA L : Nat} {xs : Nat → Int32} {D : va_G} {t : Nat → ClassId} {b : Nat} (hfl : l.stackTraces = false) (hx : p.tables.exec = Jvm.exec) (hb : c.code = cL_law) (hml : c.maxLocals = 7) (hown : s.vm.findClass RL = some m.cls) {c9 : Cond} (hts : ∀ w ∈ c9 :: ALL, w.before #[Value.ref bA] s = true) (hE : EV D t b s) (hX : va_X bA L xs s s.heap) (hbl : bA < s.heap.size) (hbA : ¬ geA b bA) {i a1 a2 a3 a4 : Int32} (hi1 : vp_in (i + 1) L) (hi2 : vp_in (i + 2) L) (hi3 : vp_in (i + 3) L) (hi4 : vp_in (i + 4) L) (hx1 : xs (i + 1).toNatClampNeg = a1) (hx2 : xs (i + 2).toNatClampNeg = a2) (hx3 : xs (i + 3).toNatClampNeg = a3) (hx4 : xs (i + 4).toNatClampNeg = a4) {H : Heap} {locs : List Loc} {ls : Array Slot} {cells slots : Nat} {Q : State → Prop} (hcl : cells + 16 ≤ room_1.cells ∧ slots + 96 ≤ room_1.slots) {σ σr : Sg} (hW : wd D t b σ H) (hS : va_S (geA b) s.heap H locs) (hl : lv_has ls 7 [(0, .ref bA), (1, .ref (b + 0)), (2, .ref (b + 193)), (3, .ref (b + 202)), (4, .int i)]) (hf : g_33 σ a1 a2 a3 a4 = some σr) (kk : ∀ (H : Heap) (locs : List Loc) (ls : Array Slot), wd D t b σr H → va_S (geA b) s.heap H locs → lv_has ls 7 [(0, .ref bA), (1, .ref (b + 0)), (2, .ref (b + 193)), (3, .ref (b + 202)), (4, .int i)] → W p l e room_1 s m #[Value.ref bA] below meth c H locs (cells + 16) (slots + 96) Q (F0 m 2838 ls [])) : W p l e room_1 s m #[Value.ref bA] below meth c H locs cells slots Q (F0 m 2014 ls []) := by
  have hta := fun w h => hts w (List.mem_cons_of_mem _ h)
  unfold g_33 at hf
  refine lv_aload_n hx hb dL_law_2014 rfl (lv_at hl 1 rfl) ?_
  refine lv_aload_n hx hb dL_law_2015 rfl (lv_at hl 0 rfl) ?_
  refine lv_iload hx hb dL_law_2016 (lv_at hl 4 rfl) ?_
  refine lv_iconst (v := 1) hx hb dL_law_2018 (by decide) ?_
  refine lv_iadd hx hb dL_law_2019 ?_
  refine va_sld hx hb hX hbl hbA hS hi1 dL_law_2020 ?_
  rw [hx1]
  refine lv_aload_n hx hb dL_law_2021 rfl (lv_at hl 3 rfl) ?_
  obtain ⟨y2, σ1, u3, hf⟩ := b2_e hf
  refine mSH (n := 3) (As := [.ref (b + 0), .int a1, .ref (b + 202)]) (rest := []) (c_L_isAtFair l hfl D t b σ a1 y2 σ1 u3) hx hb hml hown hts hE hW hS q1081 q1082 q90 qw_L_isAtFair hs_L_isAtFair ⟨rfl, rfl⟩ ⟨Nat.le_of_ble_eq_true rfl, Nat.le_of_ble_eq_true rfl⟩ rfl rfl hl.1 (Nat.le_of_ble_eq_true rfl) ⟨by obtain ⟨hc1, hc2⟩ := hcl; omega, by obtain ⟨hc1, hc2⟩ := hcl; omega⟩ dL_law_2022 (fun H locs hW hS => ?_)
  refine lv_istore (lv' := [(5, .int y2), (0, .ref bA), (1, .ref (b + 0)), (2, .ref (b + 193)), (3, .ref (b + 202)), (4, .int i)]) hx hb dL_law_2025 hl (by decide) rfl (fun ls hl => ?_)
  refine lv_aload_n hx hb dL_law_2027 rfl (lv_at hl 3 rfl) ?_
  refine lv_aload_n hx hb dL_law_2028 rfl (lv_at hl 1 rfl) ?_
  refine lv_iload hx hb dL_law_2029 (lv_at hl 5 rfl) ?_
  refine lv_iconst (v := 1) hx hb dL_law_2031 (by decide) ?_
  refine lv_iadd hx hb dL_law_2032 ?_
  refine va_sld hx hb hX hbl hbA hS hi1 dL_law_2033 ?_
  rw [hx1]
  obtain ⟨y4, σ6, u5, hf⟩ := b2_e hf
  refine mV (k := 193) (q := (5, 0)) (C := RX5) (T := TX5) (N := 14) (ci := 5) (n := 1) (As := [.int a1]) (rest := []) (c_X5_isAtFair l D t b σ1 a1 y4 σ6 u5) sh_193 (by decide) rfl rfl hx hb hml hown hts hE hW hS q1600 q1601 q1602 q96 q1603 hy_X5_isAtFair ⟨rfl, rfl⟩ ⟨Nat.le_of_ble_eq_true rfl, Nat.le_of_ble_eq_true rfl⟩ rfl rfl hl.1 (Nat.le_of_ble_eq_true rfl) ⟨by obtain ⟨hc1, hc2⟩ := hcl; omega, by obtain ⟨hc1, hc2⟩ := hcl; omega⟩ dL_law_2034 (fun H locs hW hS => ?_)
  refine lv_istore (lv' := [(6, .int y4), (5, .int y2), (0, .ref bA), (1, .ref (b + 0)), (2, .ref (b + 193)), (3, .ref (b + 202)), (4, .int i)]) hx hb dL_law_2037 hl (by decide) rfl (fun ls hl => ?_)
  refine lv_aload_n hx hb dL_law_2039 rfl (lv_at hl 4 rfl) ?_
  obtain ⟨y7, u8, hf⟩ := b1_e hf
  refine mV (k := 193) (q := (5, 0)) (C := RX5) (T := TX5) (N := 14) (ci := 5) (n := 0) (As := []) (rest := []) (c_X5_thrown l D t b σ6 y7 u8) sh_193 (by decide) rfl rfl hx hb hml hown hts hE hW hS q1224 q1225 q1226 q96 q1227 hy_X5_thrown ⟨rfl, rfl⟩ ⟨Nat.le_of_ble_eq_true rfl, Nat.le_of_ble_eq_true rfl⟩ rfl rfl hl.1 (Nat.le_of_ble_eq_true rfl) ⟨by obtain ⟨hc1, hc2⟩ := hcl; omega, by obtain ⟨hc1, hc2⟩ := hcl; omega⟩ dL_law_2040 (fun H locs hW hS => ?_)
  refine lv_iload hx hb dL_law_2043 (lv_at hl 1 rfl) ?_
  refine lv_icmp_eq (tgt := 2050) hx hb dL_law_2045 (by decide) (fun h9 => ?_) (fun h9 => ?_)
  · have hf := ifp h9 hf
    refine lv_iload hx hb dL_law_2050 (lv_at hl 1 rfl) ?_
    refine lv_if_ne (tgt := 2074) hx hb dL_law_2052 (by decide) (fun h10 => ?_) (fun h10 => ?_)
    · have hf := ifn h10 hf
      refine lv_goto (tgt := 2838) hx hb dL_law_2074 (by decide) ?_
      cases hf
      refine W.widen (k := cells + 16) (n := slots + 96) (by omega) (by omega) ?_
      exact kk _ _ _ hW hS (lv_sub hl [2, 3, 4, 5, 6] rfl)
    · have hf := ifp h10 hf
      refine lv_aload_n hx hb dL_law_2055 rfl (lv_at hl 5 rfl) ?_
      refine lv_iconst (v := 0) hx hb dL_law_2056 (by decide) ?_
      refine lald hx hb hE.1 hW sh_202 (vp_lit (by decide +kernel)) dL_law_2057 ?_
      refine lv_iload hx hb dL_law_2058 (lv_at hl 0 rfl) ?_
      refine lv_if_eq (tgt := 2067) hx hb dL_law_2060 (by decide) (fun h11 => ?_) (fun h11 => ?_)
      · have hf := ifp h11 hf
        refine lv_lconst (v := (0 : Int32).toInt64) hx hb dL_law_2067 (by decide) ?_
        refine lcmp_if (tgt := 2074) hx hb dL_law_2068 dL_law_2069 (by decide) (fun h12 => ?_) (fun h12 => ?_)
        · have hf := ifp h12 hf
          refine lv_goto (tgt := 2838) hx hb dL_law_2074 (by decide) ?_
          cases hf
          refine W.widen (k := cells + 16) (n := slots + 96) (by omega) (by omega) ?_
          exact kk _ _ _ hW hS (lv_sub hl [2, 3, 4, 5, 6] rfl)
        · have hf := ifn h12 hf
          refine lv_iconst (v := 0) hx hb dL_law_2072 (by decide) ?_
          cases hf
      · have hf := ifn h11 hf
        refine lv_lconst (v := (1 : Int32).toInt64) hx hb dL_law_2063 (by decide) ?_
        refine lv_goto (tgt := 2068) hx hb dL_law_2064 (by decide) ?_
        refine lcmp_if (tgt := 2074) hx hb dL_law_2068 dL_law_2069 (by decide) (fun h13 => ?_) (fun h13 => ?_)
        · have hf := ifp h13 hf
          refine lv_goto (tgt := 2838) hx hb dL_law_2074 (by decide) ?_
          cases hf
          refine W.widen (k := cells + 16) (n := slots + 96) (by omega) (by omega) ?_
          exact kk _ _ _ hW hS (lv_sub hl [2, 3, 4, 5, 6] rfl)
        · have hf := ifn h13 hf
          refine lv_iconst (v := 0) hx hb dL_law_2072 (by decide) ?_
          cases hf
  · have hf := ifn h9 hf
    refine lv_iconst (v := 0) hx hb dL_law_2048 (by decide) ?_
    cases hf
def g_34 (σ : Sg) (a1 a2 a3 a4 : Int32) : Option Sg := b2 (f_L_purseOf σ a1) fun y2 σ1 => b2 (f_X5_purseOf σ1 a1) fun y4 σ6 => b1 (f_X5_thrown σ6) fun y7 => if y7 = y2 then (if y2 = 0 then (if (σ6 202 (0 : Int32).toNatClampNeg) = y4 then (some σ6) else (none)) else (some σ6)) else (none)
set_option maxHeartbeats 4000000 in
set_option maxRecDepth 100000 in
theorem k_34 {p : Program} {l : Launch} {e : Env} {s : State} {m : MethodId} {below : List Frame} {meth : Method} {c : Code} {bA L : Nat} {xs : Nat → Int32} {D : va_G} {t : Nat → ClassId} {b : Nat} (hfl : l.stackTraces = false) (hx : p.tables.exec = Jvm.exec) (hb : c.code = cL_law) (hml : c.maxLocals = 7) (hown : s.vm.findClass RL = some m.cls) {c9 : Cond} (hts : ∀ w ∈ c9 :: ALL, w.before #[Value.ref bA] s = true) (hE : EV D t b s) (hX : va_X bA L xs s s.heap) (hbl : bA < s.heap.size) (hbA : ¬ geA b bA) {i a1 a2 a3 a4 : Int32} (hi1 : vp_in (i + 1) L) (hi2 : vp_in (i + 2) L) (hi3 : vp_in (i + 3) L) (hi4 : vp_in (i + 4) L) (hx1 : xs (i + 1).toNatClampNeg = a1) (hx2 : xs (i + 2).toNatClampNeg = a2) (hx3 : xs (i + 3).toNatClampNeg = a3) (hx4 : xs (i + 4).toNatClampNeg = a4) {H : Heap} {locs : List Loc} {ls : Array Slot} {cells slots : Nat} {Q : State → Prop} (hcl : cells + 16 ≤ room_1.cells ∧ slots + 96 ≤ room_1.slots) {σ σr : Sg} (hW : wd D t b σ H) (hS : va_S (geA b) s.heap H locs) (hl : lv_has ls 7 [(0, .ref bA), (1, .ref (b + 0)), (2, .ref (b + 193)), (3, .ref (b + 202)), (4, .int i)]) (hf : g_34 σ a1 a2 a3 a4 = some σr) (kk : ∀ (H : Heap) (locs : List Loc) (ls : Array Slot), wd D t b σr H → va_S (geA b) s.heap H locs → lv_has ls 7 [(0, .ref bA), (1, .ref (b + 0)), (2, .ref (b + 193)), (3, .ref (b + 202)), (4, .int i)] → W p l e room_1 s m #[Value.ref bA] below meth c H locs (cells + 16) (slots + 96) Q (F0 m 2838 ls [])) : W p l e room_1 s m #[Value.ref bA] below meth c H locs cells slots Q (F0 m 2077 ls []) := by
  have hta := fun w h => hts w (List.mem_cons_of_mem _ h)
  unfold g_34 at hf
  refine lv_aload_n hx hb dL_law_2077 rfl (lv_at hl 1 rfl) ?_
  refine lv_aload_n hx hb dL_law_2078 rfl (lv_at hl 0 rfl) ?_
  refine lv_iload hx hb dL_law_2079 (lv_at hl 4 rfl) ?_
  refine lv_iconst (v := 1) hx hb dL_law_2081 (by decide) ?_
  refine lv_iadd hx hb dL_law_2082 ?_
  refine va_sld hx hb hX hbl hbA hS hi1 dL_law_2083 ?_
  rw [hx1]
  refine lv_aload_n hx hb dL_law_2084 rfl (lv_at hl 3 rfl) ?_
  obtain ⟨y2, σ1, u3, hf⟩ := b2_e hf
  refine mSH (n := 3) (As := [.ref (b + 0), .int a1, .ref (b + 202)]) (rest := []) (c_L_purseOf l hfl D t b σ a1 y2 σ1 u3) hx hb hml hown hts hE hW hS q1093 q1094 q90 qw_L_purseOf hs_L_purseOf ⟨rfl, rfl⟩ ⟨Nat.le_of_ble_eq_true rfl, Nat.le_of_ble_eq_true rfl⟩ rfl rfl hl.1 (Nat.le_of_ble_eq_true rfl) ⟨by obtain ⟨hc1, hc2⟩ := hcl; omega, by obtain ⟨hc1, hc2⟩ := hcl; omega⟩ dL_law_2085 (fun H locs hW hS => ?_)
  refine lv_istore (lv' := [(5, .int y2), (0, .ref bA), (1, .ref (b + 0)), (2, .ref (b + 193)), (3, .ref (b + 202)), (4, .int i)]) hx hb dL_law_2088 hl (by decide) rfl (fun ls hl => ?_)
  refine lv_aload_n hx hb dL_law_2090 rfl (lv_at hl 3 rfl) ?_
  refine lv_aload_n hx hb dL_law_2091 rfl (lv_at hl 1 rfl) ?_
  refine lv_iload hx hb dL_law_2092 (lv_at hl 5 rfl) ?_
  refine lv_iconst (v := 1) hx hb dL_law_2094 (by decide) ?_
  refine lv_iadd hx hb dL_law_2095 ?_
  refine va_sld hx hb hX hbl hbA hS hi1 dL_law_2096 ?_
  rw [hx1]
  obtain ⟨y4, σ6, u5, hf⟩ := b2_e hf
  refine mV (k := 193) (q := (5, 0)) (C := RX5) (T := TX5) (N := 14) (ci := 5) (n := 1) (As := [.int a1]) (rest := []) (c_X5_purseOf l D t b σ1 a1 y4 σ6 u5) sh_193 (by decide) rfl rfl hx hb hml hown hts hE hW hS q1608 q1609 q1610 q96 q1611 hy_X5_purseOf ⟨rfl, rfl⟩ ⟨Nat.le_of_ble_eq_true rfl, Nat.le_of_ble_eq_true rfl⟩ rfl rfl hl.1 (Nat.le_of_ble_eq_true rfl) ⟨by obtain ⟨hc1, hc2⟩ := hcl; omega, by obtain ⟨hc1, hc2⟩ := hcl; omega⟩ dL_law_2097 (fun H locs hW hS => ?_)
  refine lv_istore (lv' := [(6, .int y4), (5, .int y2), (0, .ref bA), (1, .ref (b + 0)), (2, .ref (b + 193)), (3, .ref (b + 202)), (4, .int i)]) hx hb dL_law_2100 hl (by decide) rfl (fun ls hl => ?_)
  refine lv_aload_n hx hb dL_law_2102 rfl (lv_at hl 4 rfl) ?_
  obtain ⟨y7, u8, hf⟩ := b1_e hf
  refine mV (k := 193) (q := (5, 0)) (C := RX5) (T := TX5) (N := 14) (ci := 5) (n := 0) (As := []) (rest := []) (c_X5_thrown l D t b σ6 y7 u8) sh_193 (by decide) rfl rfl hx hb hml hown hts hE hW hS q1224 q1225 q1226 q96 q1227 hy_X5_thrown ⟨rfl, rfl⟩ ⟨Nat.le_of_ble_eq_true rfl, Nat.le_of_ble_eq_true rfl⟩ rfl rfl hl.1 (Nat.le_of_ble_eq_true rfl) ⟨by obtain ⟨hc1, hc2⟩ := hcl; omega, by obtain ⟨hc1, hc2⟩ := hcl; omega⟩ dL_law_2103 (fun H locs hW hS => ?_)
  refine lv_iload hx hb dL_law_2106 (lv_at hl 1 rfl) ?_
  refine lv_icmp_eq (tgt := 2113) hx hb dL_law_2108 (by decide) (fun h9 => ?_) (fun h9 => ?_)
  · have hf := ifp h9 hf
    refine lv_iload hx hb dL_law_2113 (lv_at hl 1 rfl) ?_
    refine lv_if_ne (tgt := 2130) hx hb dL_law_2115 (by decide) (fun h10 => ?_) (fun h10 => ?_)
    · have hf := ifn h10 hf
      refine lv_goto (tgt := 2838) hx hb dL_law_2130 (by decide) ?_
      cases hf
      refine W.widen (k := cells + 16) (n := slots + 96) (by omega) (by omega) ?_
      exact kk _ _ _ hW hS (lv_sub hl [2, 3, 4, 5, 6] rfl)
    · have hf := ifp h10 hf
      refine lv_aload_n hx hb dL_law_2118 rfl (lv_at hl 5 rfl) ?_
      refine lv_iconst (v := 0) hx hb dL_law_2119 (by decide) ?_
      refine lald hx hb hE.1 hW sh_202 (vp_lit (by decide +kernel)) dL_law_2120 ?_
      refine lv_iload hx hb dL_law_2121 (lv_at hl 0 rfl) ?_
      refine lv_i2l hx hb dL_law_2123 rfl ?_
      refine lcmp_if (tgt := 2130) hx hb dL_law_2124 dL_law_2125 (by decide) (fun h11 => ?_) (fun h11 => ?_)
      · have hf := ifp h11 hf
        refine lv_goto (tgt := 2838) hx hb dL_law_2130 (by decide) ?_
        cases hf
        refine W.widen (k := cells + 16) (n := slots + 96) (by omega) (by omega) ?_
        exact kk _ _ _ hW hS (lv_sub hl [2, 3, 4, 5, 6] rfl)
      · have hf := ifn h11 hf
        refine lv_iconst (v := 0) hx hb dL_law_2128 (by decide) ?_
        cases hf
  · have hf := ifn h9 hf
    refine lv_iconst (v := 0) hx hb dL_law_2111 (by decide) ?_
    cases hf
def g_35 (σ : Sg) (a1 a2 a3 a4 : Int32) : Option Sg := b2 (f_L_moodOf σ a1) fun y2 σ1 => b2 (f_X5_moodOf σ1 a1) fun y4 σ6 => b1 (f_X5_thrown σ6) fun y7 => if y7 = y2 then (if y2 = 0 then (if (σ6 202 (0 : Int32).toNatClampNeg) = y4 then (some σ6) else (none)) else (some σ6)) else (none)
set_option maxHeartbeats 4000000 in
set_option maxRecDepth 100000 in
theorem k_35 {p : Program} {l : Launch} {e : Env} {s : State} {m : MethodId} {below : List Frame} {meth : Method} {c : Code} {bA L : Nat} {xs : Nat → Int32} {D : va_G} {t : Nat → ClassId} {b : Nat} (hfl : l.stackTraces = false) (hx : p.tables.exec = Jvm.exec) (hb : c.code = cL_law) (hml : c.maxLocals = 7) (hown : s.vm.findClass RL = some m.cls) {c9 : Cond} (hts : ∀ w ∈ c9 :: ALL, w.before #[Value.ref bA] s = true) (hE : EV D t b s) (hX : va_X bA L xs s s.heap) (hbl : bA < s.heap.size) (hbA : ¬ geA b bA) {i a1 a2 a3 a4 : Int32} (hi1 : vp_in (i + 1) L) (hi2 : vp_in (i + 2) L) (hi3 : vp_in (i + 3) L) (hi4 : vp_in (i + 4) L) (hx1 : xs (i + 1).toNatClampNeg = a1) (hx2 : xs (i + 2).toNatClampNeg = a2) (hx3 : xs (i + 3).toNatClampNeg = a3) (hx4 : xs (i + 4).toNatClampNeg = a4) {H : Heap} {locs : List Loc} {ls : Array Slot} {cells slots : Nat} {Q : State → Prop} (hcl : cells + 16 ≤ room_1.cells ∧ slots + 96 ≤ room_1.slots) {σ σr : Sg} (hW : wd D t b σ H) (hS : va_S (geA b) s.heap H locs) (hl : lv_has ls 7 [(0, .ref bA), (1, .ref (b + 0)), (2, .ref (b + 193)), (3, .ref (b + 202)), (4, .int i)]) (hf : g_35 σ a1 a2 a3 a4 = some σr) (kk : ∀ (H : Heap) (locs : List Loc) (ls : Array Slot), wd D t b σr H → va_S (geA b) s.heap H locs → lv_has ls 7 [(0, .ref bA), (1, .ref (b + 0)), (2, .ref (b + 193)), (3, .ref (b + 202)), (4, .int i)] → W p l e room_1 s m #[Value.ref bA] below meth c H locs (cells + 16) (slots + 96) Q (F0 m 2838 ls [])) : W p l e room_1 s m #[Value.ref bA] below meth c H locs cells slots Q (F0 m 2133 ls []) := by
  have hta := fun w h => hts w (List.mem_cons_of_mem _ h)
  unfold g_35 at hf
  refine lv_aload_n hx hb dL_law_2133 rfl (lv_at hl 1 rfl) ?_
  refine lv_aload_n hx hb dL_law_2134 rfl (lv_at hl 0 rfl) ?_
  refine lv_iload hx hb dL_law_2135 (lv_at hl 4 rfl) ?_
  refine lv_iconst (v := 1) hx hb dL_law_2137 (by decide) ?_
  refine lv_iadd hx hb dL_law_2138 ?_
  refine va_sld hx hb hX hbl hbA hS hi1 dL_law_2139 ?_
  rw [hx1]
  refine lv_aload_n hx hb dL_law_2140 rfl (lv_at hl 3 rfl) ?_
  obtain ⟨y2, σ1, u3, hf⟩ := b2_e hf
  refine mSH (n := 3) (As := [.ref (b + 0), .int a1, .ref (b + 202)]) (rest := []) (c_L_moodOf l hfl D t b σ a1 y2 σ1 u3) hx hb hml hown hts hE hW hS q1100 q1101 q90 qw_L_moodOf hs_L_moodOf ⟨rfl, rfl⟩ ⟨Nat.le_of_ble_eq_true rfl, Nat.le_of_ble_eq_true rfl⟩ rfl rfl hl.1 (Nat.le_of_ble_eq_true rfl) ⟨by obtain ⟨hc1, hc2⟩ := hcl; omega, by obtain ⟨hc1, hc2⟩ := hcl; omega⟩ dL_law_2141 (fun H locs hW hS => ?_)
  refine lv_istore (lv' := [(5, .int y2), (0, .ref bA), (1, .ref (b + 0)), (2, .ref (b + 193)), (3, .ref (b + 202)), (4, .int i)]) hx hb dL_law_2144 hl (by decide) rfl (fun ls hl => ?_)
  refine lv_aload_n hx hb dL_law_2146 rfl (lv_at hl 3 rfl) ?_
  refine lv_aload_n hx hb dL_law_2147 rfl (lv_at hl 1 rfl) ?_
  refine lv_iload hx hb dL_law_2148 (lv_at hl 5 rfl) ?_
  refine lv_iconst (v := 1) hx hb dL_law_2150 (by decide) ?_
  refine lv_iadd hx hb dL_law_2151 ?_
  refine va_sld hx hb hX hbl hbA hS hi1 dL_law_2152 ?_
  rw [hx1]
  obtain ⟨y4, σ6, u5, hf⟩ := b2_e hf
  refine mV (k := 193) (q := (5, 0)) (C := RX5) (T := TX5) (N := 14) (ci := 5) (n := 1) (As := [.int a1]) (rest := []) (c_X5_moodOf l D t b σ1 a1 y4 σ6 u5) sh_193 (by decide) rfl rfl hx hb hml hown hts hE hW hS q1616 q1617 q1618 q96 q1619 hy_X5_moodOf ⟨rfl, rfl⟩ ⟨Nat.le_of_ble_eq_true rfl, Nat.le_of_ble_eq_true rfl⟩ rfl rfl hl.1 (Nat.le_of_ble_eq_true rfl) ⟨by obtain ⟨hc1, hc2⟩ := hcl; omega, by obtain ⟨hc1, hc2⟩ := hcl; omega⟩ dL_law_2153 (fun H locs hW hS => ?_)
  refine lv_istore (lv' := [(6, .int y4), (5, .int y2), (0, .ref bA), (1, .ref (b + 0)), (2, .ref (b + 193)), (3, .ref (b + 202)), (4, .int i)]) hx hb dL_law_2156 hl (by decide) rfl (fun ls hl => ?_)
  refine lv_aload_n hx hb dL_law_2158 rfl (lv_at hl 4 rfl) ?_
  obtain ⟨y7, u8, hf⟩ := b1_e hf
  refine mV (k := 193) (q := (5, 0)) (C := RX5) (T := TX5) (N := 14) (ci := 5) (n := 0) (As := []) (rest := []) (c_X5_thrown l D t b σ6 y7 u8) sh_193 (by decide) rfl rfl hx hb hml hown hts hE hW hS q1224 q1225 q1226 q96 q1227 hy_X5_thrown ⟨rfl, rfl⟩ ⟨Nat.le_of_ble_eq_true rfl, Nat.le_of_ble_eq_true rfl⟩ rfl rfl hl.1 (Nat.le_of_ble_eq_true rfl) ⟨by obtain ⟨hc1, hc2⟩ := hcl; omega, by obtain ⟨hc1, hc2⟩ := hcl; omega⟩ dL_law_2159 (fun H locs hW hS => ?_)
  refine lv_iload hx hb dL_law_2162 (lv_at hl 1 rfl) ?_
  refine lv_icmp_eq (tgt := 2169) hx hb dL_law_2164 (by decide) (fun h9 => ?_) (fun h9 => ?_)
  · have hf := ifp h9 hf
    refine lv_iload hx hb dL_law_2169 (lv_at hl 1 rfl) ?_
    refine lv_if_ne (tgt := 2186) hx hb dL_law_2171 (by decide) (fun h10 => ?_) (fun h10 => ?_)
    · have hf := ifn h10 hf
      refine lv_goto (tgt := 2838) hx hb dL_law_2186 (by decide) ?_
      cases hf
      refine W.widen (k := cells + 16) (n := slots + 96) (by omega) (by omega) ?_
      exact kk _ _ _ hW hS (lv_sub hl [2, 3, 4, 5, 6] rfl)
    · have hf := ifp h10 hf
      refine lv_aload_n hx hb dL_law_2174 rfl (lv_at hl 5 rfl) ?_
      refine lv_iconst (v := 0) hx hb dL_law_2175 (by decide) ?_
      refine lald hx hb hE.1 hW sh_202 (vp_lit (by decide +kernel)) dL_law_2176 ?_
      refine lv_iload hx hb dL_law_2177 (lv_at hl 0 rfl) ?_
      refine lv_i2l hx hb dL_law_2179 rfl ?_
      refine lcmp_if (tgt := 2186) hx hb dL_law_2180 dL_law_2181 (by decide) (fun h11 => ?_) (fun h11 => ?_)
      · have hf := ifp h11 hf
        refine lv_goto (tgt := 2838) hx hb dL_law_2186 (by decide) ?_
        cases hf
        refine W.widen (k := cells + 16) (n := slots + 96) (by omega) (by omega) ?_
        exact kk _ _ _ hW hS (lv_sub hl [2, 3, 4, 5, 6] rfl)
      · have hf := ifn h11 hf
        refine lv_iconst (v := 0) hx hb dL_law_2184 (by decide) ?_
        cases hf
  · have hf := ifn h9 hf
    refine lv_iconst (v := 0) hx hb dL_law_2167 (by decide) ?_
    cases hf
def g_36 (σ : Sg) (a1 a2 a3 a4 : Int32) : Option Sg := b2 (f_L_placeOf σ a1) fun y2 σ1 => b2 (f_X5_placeOf σ1 a1) fun y4 σ6 => b1 (f_X5_thrown σ6) fun y7 => if y7 = y2 then (if y2 = 0 then (if (σ6 202 (0 : Int32).toNatClampNeg) = y4 then (some σ6) else (none)) else (some σ6)) else (none)
set_option maxHeartbeats 4000000 in
set_option maxRecDepth 100000 in
theorem k_36 {p : Program} {l : Launch} {e : Env} {s : State} {m : MethodId} {below : List Frame} {meth : Method} {c : Code} {bA L : Nat} {xs : Nat → Int32} {D : va_G} {t : Nat → ClassId} {b : Nat} (hfl : l.stackTraces = false) (hx : p.tables.exec = Jvm.exec) (hb : c.code = cL_law) (hml : c.maxLocals = 7) (hown : s.vm.findClass RL = some m.cls) {c9 : Cond} (hts : ∀ w ∈ c9 :: ALL, w.before #[Value.ref bA] s = true) (hE : EV D t b s) (hX : va_X bA L xs s s.heap) (hbl : bA < s.heap.size) (hbA : ¬ geA b bA) {i a1 a2 a3 a4 : Int32} (hi1 : vp_in (i + 1) L) (hi2 : vp_in (i + 2) L) (hi3 : vp_in (i + 3) L) (hi4 : vp_in (i + 4) L) (hx1 : xs (i + 1).toNatClampNeg = a1) (hx2 : xs (i + 2).toNatClampNeg = a2) (hx3 : xs (i + 3).toNatClampNeg = a3) (hx4 : xs (i + 4).toNatClampNeg = a4) {H : Heap} {locs : List Loc} {ls : Array Slot} {cells slots : Nat} {Q : State → Prop} (hcl : cells + 16 ≤ room_1.cells ∧ slots + 96 ≤ room_1.slots) {σ σr : Sg} (hW : wd D t b σ H) (hS : va_S (geA b) s.heap H locs) (hl : lv_has ls 7 [(0, .ref bA), (1, .ref (b + 0)), (2, .ref (b + 193)), (3, .ref (b + 202)), (4, .int i)]) (hf : g_36 σ a1 a2 a3 a4 = some σr) (kk : ∀ (H : Heap) (locs : List Loc) (ls : Array Slot), wd D t b σr H → va_S (geA b) s.heap H locs → lv_has ls 7 [(0, .ref bA), (1, .ref (b + 0)), (2, .ref (b + 193)), (3, .ref (b + 202)), (4, .int i)] → W p l e room_1 s m #[Value.ref bA] below meth c H locs (cells + 16) (slots + 96) Q (F0 m 2838 ls [])) : W p l e room_1 s m #[Value.ref bA] below meth c H locs cells slots Q (F0 m 2189 ls []) := by
  have hta := fun w h => hts w (List.mem_cons_of_mem _ h)
  unfold g_36 at hf
  refine lv_aload_n hx hb dL_law_2189 rfl (lv_at hl 1 rfl) ?_
  refine lv_aload_n hx hb dL_law_2190 rfl (lv_at hl 0 rfl) ?_
  refine lv_iload hx hb dL_law_2191 (lv_at hl 4 rfl) ?_
  refine lv_iconst (v := 1) hx hb dL_law_2193 (by decide) ?_
  refine lv_iadd hx hb dL_law_2194 ?_
  refine va_sld hx hb hX hbl hbA hS hi1 dL_law_2195 ?_
  rw [hx1]
  refine lv_aload_n hx hb dL_law_2196 rfl (lv_at hl 3 rfl) ?_
  obtain ⟨y2, σ1, u3, hf⟩ := b2_e hf
  refine mSH (n := 3) (As := [.ref (b + 0), .int a1, .ref (b + 202)]) (rest := []) (c_L_placeOf l hfl D t b σ a1 y2 σ1 u3) hx hb hml hown hts hE hW hS q1107 q1108 q90 qw_L_placeOf hs_L_placeOf ⟨rfl, rfl⟩ ⟨Nat.le_of_ble_eq_true rfl, Nat.le_of_ble_eq_true rfl⟩ rfl rfl hl.1 (Nat.le_of_ble_eq_true rfl) ⟨by obtain ⟨hc1, hc2⟩ := hcl; omega, by obtain ⟨hc1, hc2⟩ := hcl; omega⟩ dL_law_2197 (fun H locs hW hS => ?_)
  refine lv_istore (lv' := [(5, .int y2), (0, .ref bA), (1, .ref (b + 0)), (2, .ref (b + 193)), (3, .ref (b + 202)), (4, .int i)]) hx hb dL_law_2200 hl (by decide) rfl (fun ls hl => ?_)
  refine lv_aload_n hx hb dL_law_2202 rfl (lv_at hl 3 rfl) ?_
  refine lv_aload_n hx hb dL_law_2203 rfl (lv_at hl 1 rfl) ?_
  refine lv_iload hx hb dL_law_2204 (lv_at hl 5 rfl) ?_
  refine lv_iconst (v := 1) hx hb dL_law_2206 (by decide) ?_
  refine lv_iadd hx hb dL_law_2207 ?_
  refine va_sld hx hb hX hbl hbA hS hi1 dL_law_2208 ?_
  rw [hx1]
  obtain ⟨y4, σ6, u5, hf⟩ := b2_e hf
  refine mV (k := 193) (q := (5, 0)) (C := RX5) (T := TX5) (N := 14) (ci := 5) (n := 1) (As := [.int a1]) (rest := []) (c_X5_placeOf l D t b σ1 a1 y4 σ6 u5) sh_193 (by decide) rfl rfl hx hb hml hown hts hE hW hS q1620 q1621 q1622 q96 q1623 hy_X5_placeOf ⟨rfl, rfl⟩ ⟨Nat.le_of_ble_eq_true rfl, Nat.le_of_ble_eq_true rfl⟩ rfl rfl hl.1 (Nat.le_of_ble_eq_true rfl) ⟨by obtain ⟨hc1, hc2⟩ := hcl; omega, by obtain ⟨hc1, hc2⟩ := hcl; omega⟩ dL_law_2209 (fun H locs hW hS => ?_)
  refine lv_istore (lv' := [(6, .int y4), (5, .int y2), (0, .ref bA), (1, .ref (b + 0)), (2, .ref (b + 193)), (3, .ref (b + 202)), (4, .int i)]) hx hb dL_law_2212 hl (by decide) rfl (fun ls hl => ?_)
  refine lv_aload_n hx hb dL_law_2214 rfl (lv_at hl 4 rfl) ?_
  obtain ⟨y7, u8, hf⟩ := b1_e hf
  refine mV (k := 193) (q := (5, 0)) (C := RX5) (T := TX5) (N := 14) (ci := 5) (n := 0) (As := []) (rest := []) (c_X5_thrown l D t b σ6 y7 u8) sh_193 (by decide) rfl rfl hx hb hml hown hts hE hW hS q1224 q1225 q1226 q96 q1227 hy_X5_thrown ⟨rfl, rfl⟩ ⟨Nat.le_of_ble_eq_true rfl, Nat.le_of_ble_eq_true rfl⟩ rfl rfl hl.1 (Nat.le_of_ble_eq_true rfl) ⟨by obtain ⟨hc1, hc2⟩ := hcl; omega, by obtain ⟨hc1, hc2⟩ := hcl; omega⟩ dL_law_2215 (fun H locs hW hS => ?_)
  refine lv_iload hx hb dL_law_2218 (lv_at hl 1 rfl) ?_
  refine lv_icmp_eq (tgt := 2225) hx hb dL_law_2220 (by decide) (fun h9 => ?_) (fun h9 => ?_)
  · have hf := ifp h9 hf
    refine lv_iload hx hb dL_law_2225 (lv_at hl 1 rfl) ?_
    refine lv_if_ne (tgt := 2242) hx hb dL_law_2227 (by decide) (fun h10 => ?_) (fun h10 => ?_)
    · have hf := ifn h10 hf
      refine lv_goto (tgt := 2838) hx hb dL_law_2242 (by decide) ?_
      cases hf
      refine W.widen (k := cells + 16) (n := slots + 96) (by omega) (by omega) ?_
      exact kk _ _ _ hW hS (lv_sub hl [2, 3, 4, 5, 6] rfl)
    · have hf := ifp h10 hf
      refine lv_aload_n hx hb dL_law_2230 rfl (lv_at hl 5 rfl) ?_
      refine lv_iconst (v := 0) hx hb dL_law_2231 (by decide) ?_
      refine lald hx hb hE.1 hW sh_202 (vp_lit (by decide +kernel)) dL_law_2232 ?_
      refine lv_iload hx hb dL_law_2233 (lv_at hl 0 rfl) ?_
      refine lv_i2l hx hb dL_law_2235 rfl ?_
      refine lcmp_if (tgt := 2242) hx hb dL_law_2236 dL_law_2237 (by decide) (fun h11 => ?_) (fun h11 => ?_)
      · have hf := ifp h11 hf
        refine lv_goto (tgt := 2838) hx hb dL_law_2242 (by decide) ?_
        cases hf
        refine W.widen (k := cells + 16) (n := slots + 96) (by omega) (by omega) ?_
        exact kk _ _ _ hW hS (lv_sub hl [2, 3, 4, 5, 6] rfl)
      · have hf := ifn h11 hf
        refine lv_iconst (v := 0) hx hb dL_law_2240 (by decide) ?_
        cases hf
  · have hf := ifn h9 hf
    refine lv_iconst (v := 0) hx hb dL_law_2223 (by decide) ?_
    cases hf
def g_37 (σ : Sg) (a1 a2 a3 a4 : Int32) : Option Sg := b2 (f_L_isHomeward σ a1) fun y2 σ1 => b2 (f_X5_isHomeward σ1 a1) fun y4 σ6 => b1 (f_X5_thrown σ6) fun y7 => if y7 = y2 then (if y2 = 0 then (if y4 = 0 then (if (σ6 202 (0 : Int32).toNatClampNeg) = 0 then (some σ6) else (none)) else (if (σ6 202 (0 : Int32).toNatClampNeg) = 1 then (some σ6) else (none))) else (some σ6)) else (none)
set_option maxHeartbeats 4000000 in
set_option maxRecDepth 100000 in
theorem k_37 {p : Program} {l : Launch} {e : Env} {s : State} {m : MethodId} {below : List Frame} {meth : Method} {c : Code} {bA L : Nat} {xs : Nat → Int32} {D : va_G} {t : Nat → ClassId} {b : Nat} (hfl : l.stackTraces = false) (hx : p.tables.exec = Jvm.exec) (hb : c.code = cL_law) (hml : c.maxLocals = 7) (hown : s.vm.findClass RL = some m.cls) {c9 : Cond} (hts : ∀ w ∈ c9 :: ALL, w.before #[Value.ref bA] s = true) (hE : EV D t b s) (hX : va_X bA L xs s s.heap) (hbl : bA < s.heap.size) (hbA : ¬ geA b bA) {i a1 a2 a3 a4 : Int32} (hi1 : vp_in (i + 1) L) (hi2 : vp_in (i + 2) L) (hi3 : vp_in (i + 3) L) (hi4 : vp_in (i + 4) L) (hx1 : xs (i + 1).toNatClampNeg = a1) (hx2 : xs (i + 2).toNatClampNeg = a2) (hx3 : xs (i + 3).toNatClampNeg = a3) (hx4 : xs (i + 4).toNatClampNeg = a4) {H : Heap} {locs : List Loc} {ls : Array Slot} {cells slots : Nat} {Q : State → Prop} (hcl : cells + 16 ≤ room_1.cells ∧ slots + 96 ≤ room_1.slots) {σ σr : Sg} (hW : wd D t b σ H) (hS : va_S (geA b) s.heap H locs) (hl : lv_has ls 7 [(0, .ref bA), (1, .ref (b + 0)), (2, .ref (b + 193)), (3, .ref (b + 202)), (4, .int i)]) (hf : g_37 σ a1 a2 a3 a4 = some σr) (kk : ∀ (H : Heap) (locs : List Loc) (ls : Array Slot), wd D t b σr H → va_S (geA b) s.heap H locs → lv_has ls 7 [(0, .ref bA), (1, .ref (b + 0)), (2, .ref (b + 193)), (3, .ref (b + 202)), (4, .int i)] → W p l e room_1 s m #[Value.ref bA] below meth c H locs (cells + 16) (slots + 96) Q (F0 m 2838 ls [])) : W p l e room_1 s m #[Value.ref bA] below meth c H locs cells slots Q (F0 m 2245 ls []) := by
  have hta := fun w h => hts w (List.mem_cons_of_mem _ h)
  unfold g_37 at hf
  refine lv_aload_n hx hb dL_law_2245 rfl (lv_at hl 1 rfl) ?_
  refine lv_aload_n hx hb dL_law_2246 rfl (lv_at hl 0 rfl) ?_
  refine lv_iload hx hb dL_law_2247 (lv_at hl 4 rfl) ?_
  refine lv_iconst (v := 1) hx hb dL_law_2249 (by decide) ?_
  refine lv_iadd hx hb dL_law_2250 ?_
  refine va_sld hx hb hX hbl hbA hS hi1 dL_law_2251 ?_
  rw [hx1]
  refine lv_aload_n hx hb dL_law_2252 rfl (lv_at hl 3 rfl) ?_
  obtain ⟨y2, σ1, u3, hf⟩ := b2_e hf
  refine mSH (n := 3) (As := [.ref (b + 0), .int a1, .ref (b + 202)]) (rest := []) (c_L_isHomeward l hfl D t b σ a1 y2 σ1 u3) hx hb hml hown hts hE hW hS q1114 q1115 q90 qw_L_isHomeward hs_L_isHomeward ⟨rfl, rfl⟩ ⟨Nat.le_of_ble_eq_true rfl, Nat.le_of_ble_eq_true rfl⟩ rfl rfl hl.1 (Nat.le_of_ble_eq_true rfl) ⟨by obtain ⟨hc1, hc2⟩ := hcl; omega, by obtain ⟨hc1, hc2⟩ := hcl; omega⟩ dL_law_2253 (fun H locs hW hS => ?_)
  refine lv_istore (lv' := [(5, .int y2), (0, .ref bA), (1, .ref (b + 0)), (2, .ref (b + 193)), (3, .ref (b + 202)), (4, .int i)]) hx hb dL_law_2256 hl (by decide) rfl (fun ls hl => ?_)
  refine lv_aload_n hx hb dL_law_2258 rfl (lv_at hl 3 rfl) ?_
  refine lv_aload_n hx hb dL_law_2259 rfl (lv_at hl 1 rfl) ?_
  refine lv_iload hx hb dL_law_2260 (lv_at hl 5 rfl) ?_
  refine lv_iconst (v := 1) hx hb dL_law_2262 (by decide) ?_
  refine lv_iadd hx hb dL_law_2263 ?_
  refine va_sld hx hb hX hbl hbA hS hi1 dL_law_2264 ?_
  rw [hx1]
  obtain ⟨y4, σ6, u5, hf⟩ := b2_e hf
  refine mV (k := 193) (q := (5, 0)) (C := RX5) (T := TX5) (N := 14) (ci := 5) (n := 1) (As := [.int a1]) (rest := []) (c_X5_isHomeward l D t b σ1 a1 y4 σ6 u5) sh_193 (by decide) rfl rfl hx hb hml hown hts hE hW hS q1624 q1625 q1626 q96 q1627 hy_X5_isHomeward ⟨rfl, rfl⟩ ⟨Nat.le_of_ble_eq_true rfl, Nat.le_of_ble_eq_true rfl⟩ rfl rfl hl.1 (Nat.le_of_ble_eq_true rfl) ⟨by obtain ⟨hc1, hc2⟩ := hcl; omega, by obtain ⟨hc1, hc2⟩ := hcl; omega⟩ dL_law_2265 (fun H locs hW hS => ?_)
  refine lv_istore (lv' := [(6, .int y4), (5, .int y2), (0, .ref bA), (1, .ref (b + 0)), (2, .ref (b + 193)), (3, .ref (b + 202)), (4, .int i)]) hx hb dL_law_2268 hl (by decide) rfl (fun ls hl => ?_)
  refine lv_aload_n hx hb dL_law_2270 rfl (lv_at hl 4 rfl) ?_
  obtain ⟨y7, u8, hf⟩ := b1_e hf
  refine mV (k := 193) (q := (5, 0)) (C := RX5) (T := TX5) (N := 14) (ci := 5) (n := 0) (As := []) (rest := []) (c_X5_thrown l D t b σ6 y7 u8) sh_193 (by decide) rfl rfl hx hb hml hown hts hE hW hS q1224 q1225 q1226 q96 q1227 hy_X5_thrown ⟨rfl, rfl⟩ ⟨Nat.le_of_ble_eq_true rfl, Nat.le_of_ble_eq_true rfl⟩ rfl rfl hl.1 (Nat.le_of_ble_eq_true rfl) ⟨by obtain ⟨hc1, hc2⟩ := hcl; omega, by obtain ⟨hc1, hc2⟩ := hcl; omega⟩ dL_law_2271 (fun H locs hW hS => ?_)
  refine lv_iload hx hb dL_law_2274 (lv_at hl 1 rfl) ?_
  refine lv_icmp_eq (tgt := 2281) hx hb dL_law_2276 (by decide) (fun h9 => ?_) (fun h9 => ?_)
  · have hf := ifp h9 hf
    refine lv_iload hx hb dL_law_2281 (lv_at hl 1 rfl) ?_
    refine lv_if_ne (tgt := 2305) hx hb dL_law_2283 (by decide) (fun h10 => ?_) (fun h10 => ?_)
    · have hf := ifn h10 hf
      refine lv_goto (tgt := 2838) hx hb dL_law_2305 (by decide) ?_
      cases hf
      refine W.widen (k := cells + 16) (n := slots + 96) (by omega) (by omega) ?_
      exact kk _ _ _ hW hS (lv_sub hl [2, 3, 4, 5, 6] rfl)
    · have hf := ifp h10 hf
      refine lv_aload_n hx hb dL_law_2286 rfl (lv_at hl 5 rfl) ?_
      refine lv_iconst (v := 0) hx hb dL_law_2287 (by decide) ?_
      refine lald hx hb hE.1 hW sh_202 (vp_lit (by decide +kernel)) dL_law_2288 ?_
      refine lv_iload hx hb dL_law_2289 (lv_at hl 0 rfl) ?_
      refine lv_if_eq (tgt := 2298) hx hb dL_law_2291 (by decide) (fun h11 => ?_) (fun h11 => ?_)
      · have hf := ifp h11 hf
        refine lv_lconst (v := (0 : Int32).toInt64) hx hb dL_law_2298 (by decide) ?_
        refine lcmp_if (tgt := 2305) hx hb dL_law_2299 dL_law_2300 (by decide) (fun h12 => ?_) (fun h12 => ?_)
        · have hf := ifp h12 hf
          refine lv_goto (tgt := 2838) hx hb dL_law_2305 (by decide) ?_
          cases hf
          refine W.widen (k := cells + 16) (n := slots + 96) (by omega) (by omega) ?_
          exact kk _ _ _ hW hS (lv_sub hl [2, 3, 4, 5, 6] rfl)
        · have hf := ifn h12 hf
          refine lv_iconst (v := 0) hx hb dL_law_2303 (by decide) ?_
          cases hf
      · have hf := ifn h11 hf
        refine lv_lconst (v := (1 : Int32).toInt64) hx hb dL_law_2294 (by decide) ?_
        refine lv_goto (tgt := 2299) hx hb dL_law_2295 (by decide) ?_
        refine lcmp_if (tgt := 2305) hx hb dL_law_2299 dL_law_2300 (by decide) (fun h13 => ?_) (fun h13 => ?_)
        · have hf := ifp h13 hf
          refine lv_goto (tgt := 2838) hx hb dL_law_2305 (by decide) ?_
          cases hf
          refine W.widen (k := cells + 16) (n := slots + 96) (by omega) (by omega) ?_
          exact kk _ _ _ hW hS (lv_sub hl [2, 3, 4, 5, 6] rfl)
        · have hf := ifn h13 hf
          refine lv_iconst (v := 0) hx hb dL_law_2303 (by decide) ?_
          cases hf
  · have hf := ifn h9 hf
    refine lv_iconst (v := 0) hx hb dL_law_2279 (by decide) ?_
    cases hf
def g_38 (σ : Sg) (a1 a2 a3 a4 : Int32) : Option Sg := b2 (f_L_prizesOf σ a1) fun y2 σ1 => b2 (f_X5_prizesOf σ1 a1) fun y4 σ6 => b1 (f_X5_thrown σ6) fun y7 => if y7 = y2 then (if y2 = 0 then (if (σ6 202 (0 : Int32).toNatClampNeg) = y4 then (some σ6) else (none)) else (some σ6)) else (none)
set_option maxHeartbeats 4000000 in
set_option maxRecDepth 100000 in
theorem k_38 {p : Program} {l : Launch} {e : Env} {s : State} {m : MethodId} {below : List Frame} {meth : Method} {c : Code} {bA L : Nat} {xs : Nat → Int32} {D : va_G} {t : Nat → ClassId} {b : Nat} (hfl : l.stackTraces = false) (hx : p.tables.exec = Jvm.exec) (hb : c.code = cL_law) (hml : c.maxLocals = 7) (hown : s.vm.findClass RL = some m.cls) {c9 : Cond} (hts : ∀ w ∈ c9 :: ALL, w.before #[Value.ref bA] s = true) (hE : EV D t b s) (hX : va_X bA L xs s s.heap) (hbl : bA < s.heap.size) (hbA : ¬ geA b bA) {i a1 a2 a3 a4 : Int32} (hi1 : vp_in (i + 1) L) (hi2 : vp_in (i + 2) L) (hi3 : vp_in (i + 3) L) (hi4 : vp_in (i + 4) L) (hx1 : xs (i + 1).toNatClampNeg = a1) (hx2 : xs (i + 2).toNatClampNeg = a2) (hx3 : xs (i + 3).toNatClampNeg = a3) (hx4 : xs (i + 4).toNatClampNeg = a4) {H : Heap} {locs : List Loc} {ls : Array Slot} {cells slots : Nat} {Q : State → Prop} (hcl : cells + 16 ≤ room_1.cells ∧ slots + 96 ≤ room_1.slots) {σ σr : Sg} (hW : wd D t b σ H) (hS : va_S (geA b) s.heap H locs) (hl : lv_has ls 7 [(0, .ref bA), (1, .ref (b + 0)), (2, .ref (b + 193)), (3, .ref (b + 202)), (4, .int i)]) (hf : g_38 σ a1 a2 a3 a4 = some σr) (kk : ∀ (H : Heap) (locs : List Loc) (ls : Array Slot), wd D t b σr H → va_S (geA b) s.heap H locs → lv_has ls 7 [(0, .ref bA), (1, .ref (b + 0)), (2, .ref (b + 193)), (3, .ref (b + 202)), (4, .int i)] → W p l e room_1 s m #[Value.ref bA] below meth c H locs (cells + 16) (slots + 96) Q (F0 m 2838 ls [])) : W p l e room_1 s m #[Value.ref bA] below meth c H locs cells slots Q (F0 m 2308 ls []) := by
  have hta := fun w h => hts w (List.mem_cons_of_mem _ h)
  unfold g_38 at hf
  refine lv_aload_n hx hb dL_law_2308 rfl (lv_at hl 1 rfl) ?_
  refine lv_aload_n hx hb dL_law_2309 rfl (lv_at hl 0 rfl) ?_
  refine lv_iload hx hb dL_law_2310 (lv_at hl 4 rfl) ?_
  refine lv_iconst (v := 1) hx hb dL_law_2312 (by decide) ?_
  refine lv_iadd hx hb dL_law_2313 ?_
  refine va_sld hx hb hX hbl hbA hS hi1 dL_law_2314 ?_
  rw [hx1]
  refine lv_aload_n hx hb dL_law_2315 rfl (lv_at hl 3 rfl) ?_
  obtain ⟨y2, σ1, u3, hf⟩ := b2_e hf
  refine mSH (n := 3) (As := [.ref (b + 0), .int a1, .ref (b + 202)]) (rest := []) (c_L_prizesOf l hfl D t b σ a1 y2 σ1 u3) hx hb hml hown hts hE hW hS q1121 q1122 q90 qw_L_prizesOf hs_L_prizesOf ⟨rfl, rfl⟩ ⟨Nat.le_of_ble_eq_true rfl, Nat.le_of_ble_eq_true rfl⟩ rfl rfl hl.1 (Nat.le_of_ble_eq_true rfl) ⟨by obtain ⟨hc1, hc2⟩ := hcl; omega, by obtain ⟨hc1, hc2⟩ := hcl; omega⟩ dL_law_2316 (fun H locs hW hS => ?_)
  refine lv_istore (lv' := [(5, .int y2), (0, .ref bA), (1, .ref (b + 0)), (2, .ref (b + 193)), (3, .ref (b + 202)), (4, .int i)]) hx hb dL_law_2319 hl (by decide) rfl (fun ls hl => ?_)
  refine lv_aload_n hx hb dL_law_2321 rfl (lv_at hl 3 rfl) ?_
  refine lv_aload_n hx hb dL_law_2322 rfl (lv_at hl 1 rfl) ?_
  refine lv_iload hx hb dL_law_2323 (lv_at hl 5 rfl) ?_
  refine lv_iconst (v := 1) hx hb dL_law_2325 (by decide) ?_
  refine lv_iadd hx hb dL_law_2326 ?_
  refine va_sld hx hb hX hbl hbA hS hi1 dL_law_2327 ?_
  rw [hx1]
  obtain ⟨y4, σ6, u5, hf⟩ := b2_e hf
  refine mV (k := 193) (q := (5, 0)) (C := RX5) (T := TX5) (N := 14) (ci := 5) (n := 1) (As := [.int a1]) (rest := []) (c_X5_prizesOf l D t b σ1 a1 y4 σ6 u5) sh_193 (by decide) rfl rfl hx hb hml hown hts hE hW hS q1628 q1629 q1630 q96 q1631 hy_X5_prizesOf ⟨rfl, rfl⟩ ⟨Nat.le_of_ble_eq_true rfl, Nat.le_of_ble_eq_true rfl⟩ rfl rfl hl.1 (Nat.le_of_ble_eq_true rfl) ⟨by obtain ⟨hc1, hc2⟩ := hcl; omega, by obtain ⟨hc1, hc2⟩ := hcl; omega⟩ dL_law_2328 (fun H locs hW hS => ?_)
  refine lv_istore (lv' := [(6, .int y4), (5, .int y2), (0, .ref bA), (1, .ref (b + 0)), (2, .ref (b + 193)), (3, .ref (b + 202)), (4, .int i)]) hx hb dL_law_2331 hl (by decide) rfl (fun ls hl => ?_)
  refine lv_aload_n hx hb dL_law_2333 rfl (lv_at hl 4 rfl) ?_
  obtain ⟨y7, u8, hf⟩ := b1_e hf
  refine mV (k := 193) (q := (5, 0)) (C := RX5) (T := TX5) (N := 14) (ci := 5) (n := 0) (As := []) (rest := []) (c_X5_thrown l D t b σ6 y7 u8) sh_193 (by decide) rfl rfl hx hb hml hown hts hE hW hS q1224 q1225 q1226 q96 q1227 hy_X5_thrown ⟨rfl, rfl⟩ ⟨Nat.le_of_ble_eq_true rfl, Nat.le_of_ble_eq_true rfl⟩ rfl rfl hl.1 (Nat.le_of_ble_eq_true rfl) ⟨by obtain ⟨hc1, hc2⟩ := hcl; omega, by obtain ⟨hc1, hc2⟩ := hcl; omega⟩ dL_law_2334 (fun H locs hW hS => ?_)
  refine lv_iload hx hb dL_law_2337 (lv_at hl 1 rfl) ?_
  refine lv_icmp_eq (tgt := 2344) hx hb dL_law_2339 (by decide) (fun h9 => ?_) (fun h9 => ?_)
  · have hf := ifp h9 hf
    refine lv_iload hx hb dL_law_2344 (lv_at hl 1 rfl) ?_
    refine lv_if_ne (tgt := 2361) hx hb dL_law_2346 (by decide) (fun h10 => ?_) (fun h10 => ?_)
    · have hf := ifn h10 hf
      refine lv_goto (tgt := 2838) hx hb dL_law_2361 (by decide) ?_
      cases hf
      refine W.widen (k := cells + 16) (n := slots + 96) (by omega) (by omega) ?_
      exact kk _ _ _ hW hS (lv_sub hl [2, 3, 4, 5, 6] rfl)
    · have hf := ifp h10 hf
      refine lv_aload_n hx hb dL_law_2349 rfl (lv_at hl 5 rfl) ?_
      refine lv_iconst (v := 0) hx hb dL_law_2350 (by decide) ?_
      refine lald hx hb hE.1 hW sh_202 (vp_lit (by decide +kernel)) dL_law_2351 ?_
      refine lv_iload hx hb dL_law_2352 (lv_at hl 0 rfl) ?_
      refine lv_i2l hx hb dL_law_2354 rfl ?_
      refine lcmp_if (tgt := 2361) hx hb dL_law_2355 dL_law_2356 (by decide) (fun h11 => ?_) (fun h11 => ?_)
      · have hf := ifp h11 hf
        refine lv_goto (tgt := 2838) hx hb dL_law_2361 (by decide) ?_
        cases hf
        refine W.widen (k := cells + 16) (n := slots + 96) (by omega) (by omega) ?_
        exact kk _ _ _ hW hS (lv_sub hl [2, 3, 4, 5, 6] rfl)
      · have hf := ifn h11 hf
        refine lv_iconst (v := 0) hx hb dL_law_2359 (by decide) ?_
        cases hf
  · have hf := ifn h9 hf
    refine lv_iconst (v := 0) hx hb dL_law_2342 (by decide) ?_
    cases hf
def g_39 (σ : Sg) (a1 a2 a3 a4 : Int32) : Option Sg := b2 (f_L_whyNoPlay σ a1) fun y2 σ1 => b2 (f_X5_whyNoPlay σ1 a1) fun y4 σ6 => b1 (f_X5_thrown σ6) fun y7 => if y7 = y2 then (if y2 = 0 then (if (σ6 202 (0 : Int32).toNatClampNeg) = y4 then (some σ6) else (none)) else (some σ6)) else (none)
set_option maxHeartbeats 4000000 in
set_option maxRecDepth 100000 in
theorem k_39 {p : Program} {l : Launch} {e : Env} {s : State} {m : MethodId} {below : List Frame} {meth : Method} {c : Code} {bA L : Nat} {xs : Nat → Int32} {D : va_G} {t : Nat → ClassId} {b : Nat} (hfl : l.stackTraces = false) (hx : p.tables.exec = Jvm.exec) (hb : c.code = cL_law) (hml : c.maxLocals = 7) (hown : s.vm.findClass RL = some m.cls) {c9 : Cond} (hts : ∀ w ∈ c9 :: ALL, w.before #[Value.ref bA] s = true) (hE : EV D t b s) (hX : va_X bA L xs s s.heap) (hbl : bA < s.heap.size) (hbA : ¬ geA b bA) {i a1 a2 a3 a4 : Int32} (hi1 : vp_in (i + 1) L) (hi2 : vp_in (i + 2) L) (hi3 : vp_in (i + 3) L) (hi4 : vp_in (i + 4) L) (hx1 : xs (i + 1).toNatClampNeg = a1) (hx2 : xs (i + 2).toNatClampNeg = a2) (hx3 : xs (i + 3).toNatClampNeg = a3) (hx4 : xs (i + 4).toNatClampNeg = a4) {H : Heap} {locs : List Loc} {ls : Array Slot} {cells slots : Nat} {Q : State → Prop} (hcl : cells + 16 ≤ room_1.cells ∧ slots + 96 ≤ room_1.slots) {σ σr : Sg} (hW : wd D t b σ H) (hS : va_S (geA b) s.heap H locs) (hl : lv_has ls 7 [(0, .ref bA), (1, .ref (b + 0)), (2, .ref (b + 193)), (3, .ref (b + 202)), (4, .int i)]) (hf : g_39 σ a1 a2 a3 a4 = some σr) (kk : ∀ (H : Heap) (locs : List Loc) (ls : Array Slot), wd D t b σr H → va_S (geA b) s.heap H locs → lv_has ls 7 [(0, .ref bA), (1, .ref (b + 0)), (2, .ref (b + 193)), (3, .ref (b + 202)), (4, .int i)] → W p l e room_1 s m #[Value.ref bA] below meth c H locs (cells + 16) (slots + 96) Q (F0 m 2838 ls [])) : W p l e room_1 s m #[Value.ref bA] below meth c H locs cells slots Q (F0 m 2364 ls []) := by
  have hta := fun w h => hts w (List.mem_cons_of_mem _ h)
  unfold g_39 at hf
  refine lv_aload_n hx hb dL_law_2364 rfl (lv_at hl 1 rfl) ?_
  refine lv_aload_n hx hb dL_law_2365 rfl (lv_at hl 0 rfl) ?_
  refine lv_iload hx hb dL_law_2366 (lv_at hl 4 rfl) ?_
  refine lv_iconst (v := 1) hx hb dL_law_2368 (by decide) ?_
  refine lv_iadd hx hb dL_law_2369 ?_
  refine va_sld hx hb hX hbl hbA hS hi1 dL_law_2370 ?_
  rw [hx1]
  refine lv_aload_n hx hb dL_law_2371 rfl (lv_at hl 3 rfl) ?_
  obtain ⟨y2, σ1, u3, hf⟩ := b2_e hf
  refine mSH (n := 3) (As := [.ref (b + 0), .int a1, .ref (b + 202)]) (rest := []) (c_L_whyNoPlay l hfl D t b σ a1 y2 σ1 u3) hx hb hml hown hts hE hW hS q1128 q1129 q90 qw_L_whyNoPlay hs_L_whyNoPlay ⟨rfl, rfl⟩ ⟨Nat.le_of_ble_eq_true rfl, Nat.le_of_ble_eq_true rfl⟩ rfl rfl hl.1 (Nat.le_of_ble_eq_true rfl) ⟨by obtain ⟨hc1, hc2⟩ := hcl; omega, by obtain ⟨hc1, hc2⟩ := hcl; omega⟩ dL_law_2372 (fun H locs hW hS => ?_)
  refine lv_istore (lv' := [(5, .int y2), (0, .ref bA), (1, .ref (b + 0)), (2, .ref (b + 193)), (3, .ref (b + 202)), (4, .int i)]) hx hb dL_law_2375 hl (by decide) rfl (fun ls hl => ?_)
  refine lv_aload_n hx hb dL_law_2377 rfl (lv_at hl 3 rfl) ?_
  refine lv_aload_n hx hb dL_law_2378 rfl (lv_at hl 1 rfl) ?_
  refine lv_iload hx hb dL_law_2379 (lv_at hl 5 rfl) ?_
  refine lv_iconst (v := 1) hx hb dL_law_2381 (by decide) ?_
  refine lv_iadd hx hb dL_law_2382 ?_
  refine va_sld hx hb hX hbl hbA hS hi1 dL_law_2383 ?_
  rw [hx1]
  obtain ⟨y4, σ6, u5, hf⟩ := b2_e hf
  refine mV (k := 193) (q := (5, 0)) (C := RX5) (T := TX5) (N := 14) (ci := 5) (n := 1) (As := [.int a1]) (rest := []) (c_X5_whyNoPlay l D t b σ1 a1 y4 σ6 u5) sh_193 (by decide) rfl rfl hx hb hml hown hts hE hW hS q1632 q1633 q1634 q96 q1635 hy_X5_whyNoPlay ⟨rfl, rfl⟩ ⟨Nat.le_of_ble_eq_true rfl, Nat.le_of_ble_eq_true rfl⟩ rfl rfl hl.1 (Nat.le_of_ble_eq_true rfl) ⟨by obtain ⟨hc1, hc2⟩ := hcl; omega, by obtain ⟨hc1, hc2⟩ := hcl; omega⟩ dL_law_2384 (fun H locs hW hS => ?_)
  refine lv_istore (lv' := [(6, .int y4), (5, .int y2), (0, .ref bA), (1, .ref (b + 0)), (2, .ref (b + 193)), (3, .ref (b + 202)), (4, .int i)]) hx hb dL_law_2387 hl (by decide) rfl (fun ls hl => ?_)
  refine lv_aload_n hx hb dL_law_2389 rfl (lv_at hl 4 rfl) ?_
  obtain ⟨y7, u8, hf⟩ := b1_e hf
  refine mV (k := 193) (q := (5, 0)) (C := RX5) (T := TX5) (N := 14) (ci := 5) (n := 0) (As := []) (rest := []) (c_X5_thrown l D t b σ6 y7 u8) sh_193 (by decide) rfl rfl hx hb hml hown hts hE hW hS q1224 q1225 q1226 q96 q1227 hy_X5_thrown ⟨rfl, rfl⟩ ⟨Nat.le_of_ble_eq_true rfl, Nat.le_of_ble_eq_true rfl⟩ rfl rfl hl.1 (Nat.le_of_ble_eq_true rfl) ⟨by obtain ⟨hc1, hc2⟩ := hcl; omega, by obtain ⟨hc1, hc2⟩ := hcl; omega⟩ dL_law_2390 (fun H locs hW hS => ?_)
  refine lv_iload hx hb dL_law_2393 (lv_at hl 1 rfl) ?_
  refine lv_icmp_eq (tgt := 2400) hx hb dL_law_2395 (by decide) (fun h9 => ?_) (fun h9 => ?_)
  · have hf := ifp h9 hf
    refine lv_iload hx hb dL_law_2400 (lv_at hl 1 rfl) ?_
    refine lv_if_ne (tgt := 2417) hx hb dL_law_2402 (by decide) (fun h10 => ?_) (fun h10 => ?_)
    · have hf := ifn h10 hf
      refine lv_goto (tgt := 2838) hx hb dL_law_2417 (by decide) ?_
      cases hf
      refine W.widen (k := cells + 16) (n := slots + 96) (by omega) (by omega) ?_
      exact kk _ _ _ hW hS (lv_sub hl [2, 3, 4, 5, 6] rfl)
    · have hf := ifp h10 hf
      refine lv_aload_n hx hb dL_law_2405 rfl (lv_at hl 5 rfl) ?_
      refine lv_iconst (v := 0) hx hb dL_law_2406 (by decide) ?_
      refine lald hx hb hE.1 hW sh_202 (vp_lit (by decide +kernel)) dL_law_2407 ?_
      refine lv_iload hx hb dL_law_2408 (lv_at hl 0 rfl) ?_
      refine lv_i2l hx hb dL_law_2410 rfl ?_
      refine lcmp_if (tgt := 2417) hx hb dL_law_2411 dL_law_2412 (by decide) (fun h11 => ?_) (fun h11 => ?_)
      · have hf := ifp h11 hf
        refine lv_goto (tgt := 2838) hx hb dL_law_2417 (by decide) ?_
        cases hf
        refine W.widen (k := cells + 16) (n := slots + 96) (by omega) (by omega) ?_
        exact kk _ _ _ hW hS (lv_sub hl [2, 3, 4, 5, 6] rfl)
      · have hf := ifn h11 hf
        refine lv_iconst (v := 0) hx hb dL_law_2415 (by decide) ?_
        cases hf
  · have hf := ifn h9 hf
    refine lv_iconst (v := 0) hx hb dL_law_2398 (by decide) ?_
    cases hf
def g_40 (σ : Sg) (a1 a2 a3 a4 : Int32) : Option Sg := b1 (f_X4_happiest σ) fun y1 => b2 (f_X5_happiest σ) fun y3 σ5 => if y1 = y3 then (some σ5) else (none)
set_option maxHeartbeats 4000000 in
set_option maxRecDepth 100000 in
theorem k_40 {p : Program} {l : Launch} {e : Env} {s : State} {m : MethodId} {below : List Frame} {meth : Method} {c : Code} {bA L : Nat} {xs : Nat → Int32} {D : va_G} {t : Nat → ClassId} {b : Nat} (hfl : l.stackTraces = false) (hx : p.tables.exec = Jvm.exec) (hb : c.code = cL_law) (hml : c.maxLocals = 7) (hown : s.vm.findClass RL = some m.cls) {c9 : Cond} (hts : ∀ w ∈ c9 :: ALL, w.before #[Value.ref bA] s = true) (hE : EV D t b s) (hX : va_X bA L xs s s.heap) (hbl : bA < s.heap.size) (hbA : ¬ geA b bA) {i a1 a2 a3 a4 : Int32} (hi1 : vp_in (i + 1) L) (hi2 : vp_in (i + 2) L) (hi3 : vp_in (i + 3) L) (hi4 : vp_in (i + 4) L) (hx1 : xs (i + 1).toNatClampNeg = a1) (hx2 : xs (i + 2).toNatClampNeg = a2) (hx3 : xs (i + 3).toNatClampNeg = a3) (hx4 : xs (i + 4).toNatClampNeg = a4) {H : Heap} {locs : List Loc} {ls : Array Slot} {cells slots : Nat} {Q : State → Prop} (hcl : cells + 16 ≤ room_1.cells ∧ slots + 96 ≤ room_1.slots) {σ σr : Sg} (hW : wd D t b σ H) (hS : va_S (geA b) s.heap H locs) (hl : lv_has ls 7 [(0, .ref bA), (1, .ref (b + 0)), (2, .ref (b + 193)), (3, .ref (b + 202)), (4, .int i)]) (hf : g_40 σ a1 a2 a3 a4 = some σr) (kk : ∀ (H : Heap) (locs : List Loc) (ls : Array Slot), wd D t b σr H → va_S (geA b) s.heap H locs → lv_has ls 7 [(0, .ref bA), (1, .ref (b + 0)), (2, .ref (b + 193)), (3, .ref (b + 202)), (4, .int i)] → W p l e room_1 s m #[Value.ref bA] below meth c H locs (cells + 16) (slots + 96) Q (F0 m 2838 ls [])) : W p l e room_1 s m #[Value.ref bA] below meth c H locs cells slots Q (F0 m 2420 ls []) := by
  have hta := fun w h => hts w (List.mem_cons_of_mem _ h)
  unfold g_40 at hf
  refine lv_aload_n hx hb dL_law_2420 rfl (lv_at hl 1 rfl) ?_
  obtain ⟨y1, u2, hf⟩ := b1_e hf
  refine mV (k := 0) (q := (0, 0)) (C := RX4) (T := TX4) (N := 8) (ci := 4) (n := 0) (As := []) (rest := []) (c_X4_happiest l D t b σ y1 u2) sh_0 (by decide) rfl rfl hx hb hml hown hts hE hW hS q458 q459 q460 q91 q461 hy_X4_happiest ⟨rfl, rfl⟩ ⟨Nat.le_of_ble_eq_true rfl, Nat.le_of_ble_eq_true rfl⟩ rfl rfl hl.1 (Nat.le_of_ble_eq_true rfl) ⟨by obtain ⟨hc1, hc2⟩ := hcl; omega, by obtain ⟨hc1, hc2⟩ := hcl; omega⟩ dL_law_2421 (fun H locs hW hS => ?_)
  refine lv_aload_n hx hb dL_law_2424 rfl (lv_at hl 2 rfl) ?_
  obtain ⟨y3, σ5, u4, hf⟩ := b2_e hf
  refine mV (k := 193) (q := (5, 0)) (C := RX5) (T := TX5) (N := 14) (ci := 5) (n := 0) (As := []) (rest := [.int y1]) (c_X5_happiest l D t b σ y3 σ5 u4) sh_193 (by decide) rfl rfl hx hb hml hown hts hE hW hS q1640 q1641 q1642 q96 q1643 hy_X5_happiest ⟨rfl, rfl⟩ ⟨Nat.le_of_ble_eq_true rfl, Nat.le_of_ble_eq_true rfl⟩ rfl rfl hl.1 (Nat.le_of_ble_eq_true rfl) ⟨by obtain ⟨hc1, hc2⟩ := hcl; omega, by obtain ⟨hc1, hc2⟩ := hcl; omega⟩ dL_law_2425 (fun H locs hW hS => ?_)
  refine lv_icmp_eq (tgt := 2838) hx hb dL_law_2428 (by decide) (fun h6 => ?_) (fun h6 => ?_)
  · have hf := ifp h6 hf
    cases hf
    refine W.widen (k := cells + 16) (n := slots + 96) (by omega) (by omega) ?_
    exact kk _ _ _ hW hS (lv_sub hl [0, 1, 2, 3, 4] rfl)
  · have hf := ifn h6 hf
    refine lv_iconst (v := 0) hx hb dL_law_2431 (by decide) ?_
    cases hf
def g_41 (σ : Sg) (a1 a2 a3 a4 : Int32) : Option Sg := b1 (f_X4_sulkers σ) fun y1 => b2 (f_X5_sulkers σ) fun y3 σ5 => if y1 = y3 then (some σ5) else (none)
set_option maxHeartbeats 4000000 in
set_option maxRecDepth 100000 in
theorem k_41 {p : Program} {l : Launch} {e : Env} {s : State} {m : MethodId} {below : List Frame} {meth : Method} {c : Code} {bA L : Nat} {xs : Nat → Int32} {D : va_G} {t : Nat → ClassId} {b : Nat} (hfl : l.stackTraces = false) (hx : p.tables.exec = Jvm.exec) (hb : c.code = cL_law) (hml : c.maxLocals = 7) (hown : s.vm.findClass RL = some m.cls) {c9 : Cond} (hts : ∀ w ∈ c9 :: ALL, w.before #[Value.ref bA] s = true) (hE : EV D t b s) (hX : va_X bA L xs s s.heap) (hbl : bA < s.heap.size) (hbA : ¬ geA b bA) {i a1 a2 a3 a4 : Int32} (hi1 : vp_in (i + 1) L) (hi2 : vp_in (i + 2) L) (hi3 : vp_in (i + 3) L) (hi4 : vp_in (i + 4) L) (hx1 : xs (i + 1).toNatClampNeg = a1) (hx2 : xs (i + 2).toNatClampNeg = a2) (hx3 : xs (i + 3).toNatClampNeg = a3) (hx4 : xs (i + 4).toNatClampNeg = a4) {H : Heap} {locs : List Loc} {ls : Array Slot} {cells slots : Nat} {Q : State → Prop} (hcl : cells + 16 ≤ room_1.cells ∧ slots + 96 ≤ room_1.slots) {σ σr : Sg} (hW : wd D t b σ H) (hS : va_S (geA b) s.heap H locs) (hl : lv_has ls 7 [(0, .ref bA), (1, .ref (b + 0)), (2, .ref (b + 193)), (3, .ref (b + 202)), (4, .int i)]) (hf : g_41 σ a1 a2 a3 a4 = some σr) (kk : ∀ (H : Heap) (locs : List Loc) (ls : Array Slot), wd D t b σr H → va_S (geA b) s.heap H locs → lv_has ls 7 [(0, .ref bA), (1, .ref (b + 0)), (2, .ref (b + 193)), (3, .ref (b + 202)), (4, .int i)] → W p l e room_1 s m #[Value.ref bA] below meth c H locs (cells + 16) (slots + 96) Q (F0 m 2838 ls [])) : W p l e room_1 s m #[Value.ref bA] below meth c H locs cells slots Q (F0 m 2433 ls []) := by
  have hta := fun w h => hts w (List.mem_cons_of_mem _ h)
  unfold g_41 at hf
  refine lv_aload_n hx hb dL_law_2433 rfl (lv_at hl 1 rfl) ?_
  obtain ⟨y1, u2, hf⟩ := b1_e hf
  refine mV (k := 0) (q := (0, 0)) (C := RX4) (T := TX4) (N := 8) (ci := 4) (n := 0) (As := []) (rest := []) (c_X4_sulkers l D t b σ y1 u2) sh_0 (by decide) rfl rfl hx hb hml hown hts hE hW hS q466 q467 q468 q91 q469 hy_X4_sulkers ⟨rfl, rfl⟩ ⟨Nat.le_of_ble_eq_true rfl, Nat.le_of_ble_eq_true rfl⟩ rfl rfl hl.1 (Nat.le_of_ble_eq_true rfl) ⟨by obtain ⟨hc1, hc2⟩ := hcl; omega, by obtain ⟨hc1, hc2⟩ := hcl; omega⟩ dL_law_2434 (fun H locs hW hS => ?_)
  refine lv_aload_n hx hb dL_law_2437 rfl (lv_at hl 2 rfl) ?_
  obtain ⟨y3, σ5, u4, hf⟩ := b2_e hf
  refine mV (k := 193) (q := (5, 0)) (C := RX5) (T := TX5) (N := 14) (ci := 5) (n := 0) (As := []) (rest := [.int y1]) (c_X5_sulkers l D t b σ y3 σ5 u4) sh_193 (by decide) rfl rfl hx hb hml hown hts hE hW hS q1644 q1645 q1646 q96 q1647 hy_X5_sulkers ⟨rfl, rfl⟩ ⟨Nat.le_of_ble_eq_true rfl, Nat.le_of_ble_eq_true rfl⟩ rfl rfl hl.1 (Nat.le_of_ble_eq_true rfl) ⟨by obtain ⟨hc1, hc2⟩ := hcl; omega, by obtain ⟨hc1, hc2⟩ := hcl; omega⟩ dL_law_2438 (fun H locs hW hS => ?_)
  refine lv_icmp_eq (tgt := 2838) hx hb dL_law_2441 (by decide) (fun h6 => ?_) (fun h6 => ?_)
  · have hf := ifp h6 hf
    cases hf
    refine W.widen (k := cells + 16) (n := slots + 96) (by omega) (by omega) ?_
    exact kk _ _ _ hW hS (lv_sub hl [0, 1, 2, 3, 4] rfl)
  · have hf := ifn h6 hf
    refine lv_iconst (v := 0) hx hb dL_law_2444 (by decide) ?_
    cases hf
def g_42 (σ : Sg) (a1 a2 a3 a4 : Int32) : Option Sg := b2 (f_L_crowdOn σ a1) fun y2 σ1 => b2 (f_X5_crowdOn σ1 a1) fun y4 σ6 => b1 (f_X5_thrown σ6) fun y7 => if y7 = y2 then (if y2 = 0 then (if (σ6 202 (0 : Int32).toNatClampNeg) = y4 then (some σ6) else (none)) else (some σ6)) else (none)
set_option maxHeartbeats 4000000 in
set_option maxRecDepth 100000 in
theorem k_42 {p : Program} {l : Launch} {e : Env} {s : State} {m : MethodId} {below : List Frame} {meth : Method} {c : Code} {bA L : Nat} {xs : Nat → Int32} {D : va_G} {t : Nat → ClassId} {b : Nat} (hfl : l.stackTraces = false) (hx : p.tables.exec = Jvm.exec) (hb : c.code = cL_law) (hml : c.maxLocals = 7) (hown : s.vm.findClass RL = some m.cls) {c9 : Cond} (hts : ∀ w ∈ c9 :: ALL, w.before #[Value.ref bA] s = true) (hE : EV D t b s) (hX : va_X bA L xs s s.heap) (hbl : bA < s.heap.size) (hbA : ¬ geA b bA) {i a1 a2 a3 a4 : Int32} (hi1 : vp_in (i + 1) L) (hi2 : vp_in (i + 2) L) (hi3 : vp_in (i + 3) L) (hi4 : vp_in (i + 4) L) (hx1 : xs (i + 1).toNatClampNeg = a1) (hx2 : xs (i + 2).toNatClampNeg = a2) (hx3 : xs (i + 3).toNatClampNeg = a3) (hx4 : xs (i + 4).toNatClampNeg = a4) {H : Heap} {locs : List Loc} {ls : Array Slot} {cells slots : Nat} {Q : State → Prop} (hcl : cells + 16 ≤ room_1.cells ∧ slots + 96 ≤ room_1.slots) {σ σr : Sg} (hW : wd D t b σ H) (hS : va_S (geA b) s.heap H locs) (hl : lv_has ls 7 [(0, .ref bA), (1, .ref (b + 0)), (2, .ref (b + 193)), (3, .ref (b + 202)), (4, .int i)]) (hf : g_42 σ a1 a2 a3 a4 = some σr) (kk : ∀ (H : Heap) (locs : List Loc) (ls : Array Slot), wd D t b σr H → va_S (geA b) s.heap H locs → lv_has ls 7 [(0, .ref bA), (1, .ref (b + 0)), (2, .ref (b + 193)), (3, .ref (b + 202)), (4, .int i)] → W p l e room_1 s m #[Value.ref bA] below meth c H locs (cells + 16) (slots + 96) Q (F0 m 2838 ls [])) : W p l e room_1 s m #[Value.ref bA] below meth c H locs cells slots Q (F0 m 2446 ls []) := by
  have hta := fun w h => hts w (List.mem_cons_of_mem _ h)
  unfold g_42 at hf
  refine lv_aload_n hx hb dL_law_2446 rfl (lv_at hl 1 rfl) ?_
  refine lv_aload_n hx hb dL_law_2447 rfl (lv_at hl 0 rfl) ?_
  refine lv_iload hx hb dL_law_2448 (lv_at hl 4 rfl) ?_
  refine lv_iconst (v := 1) hx hb dL_law_2450 (by decide) ?_
  refine lv_iadd hx hb dL_law_2451 ?_
  refine va_sld hx hb hX hbl hbA hS hi1 dL_law_2452 ?_
  rw [hx1]
  refine lv_aload_n hx hb dL_law_2453 rfl (lv_at hl 3 rfl) ?_
  obtain ⟨y2, σ1, u3, hf⟩ := b2_e hf
  refine mSH (n := 3) (As := [.ref (b + 0), .int a1, .ref (b + 202)]) (rest := []) (c_L_crowdOn l hfl D t b σ a1 y2 σ1 u3) hx hb hml hown hts hE hW hS q1137 q1138 q90 qw_L_crowdOn hs_L_crowdOn ⟨rfl, rfl⟩ ⟨Nat.le_of_ble_eq_true rfl, Nat.le_of_ble_eq_true rfl⟩ rfl rfl hl.1 (Nat.le_of_ble_eq_true rfl) ⟨by obtain ⟨hc1, hc2⟩ := hcl; omega, by obtain ⟨hc1, hc2⟩ := hcl; omega⟩ dL_law_2454 (fun H locs hW hS => ?_)
  refine lv_istore (lv' := [(5, .int y2), (0, .ref bA), (1, .ref (b + 0)), (2, .ref (b + 193)), (3, .ref (b + 202)), (4, .int i)]) hx hb dL_law_2457 hl (by decide) rfl (fun ls hl => ?_)
  refine lv_aload_n hx hb dL_law_2459 rfl (lv_at hl 3 rfl) ?_
  refine lv_aload_n hx hb dL_law_2460 rfl (lv_at hl 1 rfl) ?_
  refine lv_iload hx hb dL_law_2461 (lv_at hl 5 rfl) ?_
  refine lv_iconst (v := 1) hx hb dL_law_2463 (by decide) ?_
  refine lv_iadd hx hb dL_law_2464 ?_
  refine va_sld hx hb hX hbl hbA hS hi1 dL_law_2465 ?_
  rw [hx1]
  obtain ⟨y4, σ6, u5, hf⟩ := b2_e hf
  refine mV (k := 193) (q := (5, 0)) (C := RX5) (T := TX5) (N := 14) (ci := 5) (n := 1) (As := [.int a1]) (rest := []) (c_X5_crowdOn l D t b σ1 a1 y4 σ6 u5) sh_193 (by decide) rfl rfl hx hb hml hown hts hE hW hS q1648 q1649 q1650 q96 q1651 hy_X5_crowdOn ⟨rfl, rfl⟩ ⟨Nat.le_of_ble_eq_true rfl, Nat.le_of_ble_eq_true rfl⟩ rfl rfl hl.1 (Nat.le_of_ble_eq_true rfl) ⟨by obtain ⟨hc1, hc2⟩ := hcl; omega, by obtain ⟨hc1, hc2⟩ := hcl; omega⟩ dL_law_2466 (fun H locs hW hS => ?_)
  refine lv_istore (lv' := [(6, .int y4), (5, .int y2), (0, .ref bA), (1, .ref (b + 0)), (2, .ref (b + 193)), (3, .ref (b + 202)), (4, .int i)]) hx hb dL_law_2469 hl (by decide) rfl (fun ls hl => ?_)
  refine lv_aload_n hx hb dL_law_2471 rfl (lv_at hl 4 rfl) ?_
  obtain ⟨y7, u8, hf⟩ := b1_e hf
  refine mV (k := 193) (q := (5, 0)) (C := RX5) (T := TX5) (N := 14) (ci := 5) (n := 0) (As := []) (rest := []) (c_X5_thrown l D t b σ6 y7 u8) sh_193 (by decide) rfl rfl hx hb hml hown hts hE hW hS q1224 q1225 q1226 q96 q1227 hy_X5_thrown ⟨rfl, rfl⟩ ⟨Nat.le_of_ble_eq_true rfl, Nat.le_of_ble_eq_true rfl⟩ rfl rfl hl.1 (Nat.le_of_ble_eq_true rfl) ⟨by obtain ⟨hc1, hc2⟩ := hcl; omega, by obtain ⟨hc1, hc2⟩ := hcl; omega⟩ dL_law_2472 (fun H locs hW hS => ?_)
  refine lv_iload hx hb dL_law_2475 (lv_at hl 1 rfl) ?_
  refine lv_icmp_eq (tgt := 2482) hx hb dL_law_2477 (by decide) (fun h9 => ?_) (fun h9 => ?_)
  · have hf := ifp h9 hf
    refine lv_iload hx hb dL_law_2482 (lv_at hl 1 rfl) ?_
    refine lv_if_ne (tgt := 2499) hx hb dL_law_2484 (by decide) (fun h10 => ?_) (fun h10 => ?_)
    · have hf := ifn h10 hf
      refine lv_goto (tgt := 2838) hx hb dL_law_2499 (by decide) ?_
      cases hf
      refine W.widen (k := cells + 16) (n := slots + 96) (by omega) (by omega) ?_
      exact kk _ _ _ hW hS (lv_sub hl [2, 3, 4, 5, 6] rfl)
    · have hf := ifp h10 hf
      refine lv_aload_n hx hb dL_law_2487 rfl (lv_at hl 5 rfl) ?_
      refine lv_iconst (v := 0) hx hb dL_law_2488 (by decide) ?_
      refine lald hx hb hE.1 hW sh_202 (vp_lit (by decide +kernel)) dL_law_2489 ?_
      refine lv_iload hx hb dL_law_2490 (lv_at hl 0 rfl) ?_
      refine lv_i2l hx hb dL_law_2492 rfl ?_
      refine lcmp_if (tgt := 2499) hx hb dL_law_2493 dL_law_2494 (by decide) (fun h11 => ?_) (fun h11 => ?_)
      · have hf := ifp h11 hf
        refine lv_goto (tgt := 2838) hx hb dL_law_2499 (by decide) ?_
        cases hf
        refine W.widen (k := cells + 16) (n := slots + 96) (by omega) (by omega) ?_
        exact kk _ _ _ hW hS (lv_sub hl [2, 3, 4, 5, 6] rfl)
      · have hf := ifn h11 hf
        refine lv_iconst (v := 0) hx hb dL_law_2497 (by decide) ?_
        cases hf
  · have hf := ifn h9 hf
    refine lv_iconst (v := 0) hx hb dL_law_2480 (by decide) ?_
    cases hf
def g_43 (σ : Sg) (a1 a2 a3 a4 : Int32) : Option Sg := b1 (f_X4_day σ) fun y1 => b2 (f_X5_day σ) fun y3 σ5 => if y1 = y3 then (some σ5) else (none)
set_option maxHeartbeats 4000000 in
set_option maxRecDepth 100000 in
theorem k_43 {p : Program} {l : Launch} {e : Env} {s : State} {m : MethodId} {below : List Frame} {meth : Method} {c : Code} {bA L : Nat} {xs : Nat → Int32} {D : va_G} {t : Nat → ClassId} {b : Nat} (hfl : l.stackTraces = false) (hx : p.tables.exec = Jvm.exec) (hb : c.code = cL_law) (hml : c.maxLocals = 7) (hown : s.vm.findClass RL = some m.cls) {c9 : Cond} (hts : ∀ w ∈ c9 :: ALL, w.before #[Value.ref bA] s = true) (hE : EV D t b s) (hX : va_X bA L xs s s.heap) (hbl : bA < s.heap.size) (hbA : ¬ geA b bA) {i a1 a2 a3 a4 : Int32} (hi1 : vp_in (i + 1) L) (hi2 : vp_in (i + 2) L) (hi3 : vp_in (i + 3) L) (hi4 : vp_in (i + 4) L) (hx1 : xs (i + 1).toNatClampNeg = a1) (hx2 : xs (i + 2).toNatClampNeg = a2) (hx3 : xs (i + 3).toNatClampNeg = a3) (hx4 : xs (i + 4).toNatClampNeg = a4) {H : Heap} {locs : List Loc} {ls : Array Slot} {cells slots : Nat} {Q : State → Prop} (hcl : cells + 16 ≤ room_1.cells ∧ slots + 96 ≤ room_1.slots) {σ σr : Sg} (hW : wd D t b σ H) (hS : va_S (geA b) s.heap H locs) (hl : lv_has ls 7 [(0, .ref bA), (1, .ref (b + 0)), (2, .ref (b + 193)), (3, .ref (b + 202)), (4, .int i)]) (hf : g_43 σ a1 a2 a3 a4 = some σr) (kk : ∀ (H : Heap) (locs : List Loc) (ls : Array Slot), wd D t b σr H → va_S (geA b) s.heap H locs → lv_has ls 7 [(0, .ref bA), (1, .ref (b + 0)), (2, .ref (b + 193)), (3, .ref (b + 202)), (4, .int i)] → W p l e room_1 s m #[Value.ref bA] below meth c H locs (cells + 16) (slots + 96) Q (F0 m 2838 ls [])) : W p l e room_1 s m #[Value.ref bA] below meth c H locs cells slots Q (F0 m 2502 ls []) := by
  have hta := fun w h => hts w (List.mem_cons_of_mem _ h)
  unfold g_43 at hf
  refine lv_aload_n hx hb dL_law_2502 rfl (lv_at hl 1 rfl) ?_
  obtain ⟨y1, u2, hf⟩ := b1_e hf
  refine mV (k := 0) (q := (0, 0)) (C := RX4) (T := TX4) (N := 8) (ci := 4) (n := 0) (As := []) (rest := []) (c_X4_day l D t b σ y1 u2) sh_0 (by decide) rfl rfl hx hb hml hown hts hE hW hS q474 q475 q476 q91 q477 hy_X4_day ⟨rfl, rfl⟩ ⟨Nat.le_of_ble_eq_true rfl, Nat.le_of_ble_eq_true rfl⟩ rfl rfl hl.1 (Nat.le_of_ble_eq_true rfl) ⟨by obtain ⟨hc1, hc2⟩ := hcl; omega, by obtain ⟨hc1, hc2⟩ := hcl; omega⟩ dL_law_2503 (fun H locs hW hS => ?_)
  refine lv_aload_n hx hb dL_law_2506 rfl (lv_at hl 2 rfl) ?_
  obtain ⟨y3, σ5, u4, hf⟩ := b2_e hf
  refine mV (k := 193) (q := (5, 0)) (C := RX5) (T := TX5) (N := 14) (ci := 5) (n := 0) (As := []) (rest := [.int y1]) (c_X5_day l D t b σ y3 σ5 u4) sh_193 (by decide) rfl rfl hx hb hml hown hts hE hW hS q1652 q1653 q1654 q96 q1655 hy_X5_day ⟨rfl, rfl⟩ ⟨Nat.le_of_ble_eq_true rfl, Nat.le_of_ble_eq_true rfl⟩ rfl rfl hl.1 (Nat.le_of_ble_eq_true rfl) ⟨by obtain ⟨hc1, hc2⟩ := hcl; omega, by obtain ⟨hc1, hc2⟩ := hcl; omega⟩ dL_law_2507 (fun H locs hW hS => ?_)
  refine lv_icmp_eq (tgt := 2838) hx hb dL_law_2510 (by decide) (fun h6 => ?_) (fun h6 => ?_)
  · have hf := ifp h6 hf
    cases hf
    refine W.widen (k := cells + 16) (n := slots + 96) (by omega) (by omega) ?_
    exact kk _ _ _ hW hS (lv_sub hl [0, 1, 2, 3, 4] rfl)
  · have hf := ifn h6 hf
    refine lv_iconst (v := 0) hx hb dL_law_2513 (by decide) ?_
    cases hf
def g_44 (σ : Sg) (a1 a2 a3 a4 : Int32) : Option Sg := b1 (f_X4_round σ) fun y1 => b2 (f_X5_round σ) fun y3 σ5 => if y1 = y3 then (some σ5) else (none)
set_option maxHeartbeats 4000000 in
set_option maxRecDepth 100000 in
theorem k_44 {p : Program} {l : Launch} {e : Env} {s : State} {m : MethodId} {below : List Frame} {meth : Method} {c : Code} {bA L : Nat} {xs : Nat → Int32} {D : va_G} {t : Nat → ClassId} {b : Nat} (hfl : l.stackTraces = false) (hx : p.tables.exec = Jvm.exec) (hb : c.code = cL_law) (hml : c.maxLocals = 7) (hown : s.vm.findClass RL = some m.cls) {c9 : Cond} (hts : ∀ w ∈ c9 :: ALL, w.before #[Value.ref bA] s = true) (hE : EV D t b s) (hX : va_X bA L xs s s.heap) (hbl : bA < s.heap.size) (hbA : ¬ geA b bA) {i a1 a2 a3 a4 : Int32} (hi1 : vp_in (i + 1) L) (hi2 : vp_in (i + 2) L) (hi3 : vp_in (i + 3) L) (hi4 : vp_in (i + 4) L) (hx1 : xs (i + 1).toNatClampNeg = a1) (hx2 : xs (i + 2).toNatClampNeg = a2) (hx3 : xs (i + 3).toNatClampNeg = a3) (hx4 : xs (i + 4).toNatClampNeg = a4) {H : Heap} {locs : List Loc} {ls : Array Slot} {cells slots : Nat} {Q : State → Prop} (hcl : cells + 16 ≤ room_1.cells ∧ slots + 96 ≤ room_1.slots) {σ σr : Sg} (hW : wd D t b σ H) (hS : va_S (geA b) s.heap H locs) (hl : lv_has ls 7 [(0, .ref bA), (1, .ref (b + 0)), (2, .ref (b + 193)), (3, .ref (b + 202)), (4, .int i)]) (hf : g_44 σ a1 a2 a3 a4 = some σr) (kk : ∀ (H : Heap) (locs : List Loc) (ls : Array Slot), wd D t b σr H → va_S (geA b) s.heap H locs → lv_has ls 7 [(0, .ref bA), (1, .ref (b + 0)), (2, .ref (b + 193)), (3, .ref (b + 202)), (4, .int i)] → W p l e room_1 s m #[Value.ref bA] below meth c H locs (cells + 16) (slots + 96) Q (F0 m 2838 ls [])) : W p l e room_1 s m #[Value.ref bA] below meth c H locs cells slots Q (F0 m 2515 ls []) := by
  have hta := fun w h => hts w (List.mem_cons_of_mem _ h)
  unfold g_44 at hf
  refine lv_aload_n hx hb dL_law_2515 rfl (lv_at hl 1 rfl) ?_
  obtain ⟨y1, u2, hf⟩ := b1_e hf
  refine mV (k := 0) (q := (0, 0)) (C := RX4) (T := TX4) (N := 8) (ci := 4) (n := 0) (As := []) (rest := []) (c_X4_round l D t b σ y1 u2) sh_0 (by decide) rfl rfl hx hb hml hown hts hE hW hS q478 q479 q480 q91 q481 hy_X4_round ⟨rfl, rfl⟩ ⟨Nat.le_of_ble_eq_true rfl, Nat.le_of_ble_eq_true rfl⟩ rfl rfl hl.1 (Nat.le_of_ble_eq_true rfl) ⟨by obtain ⟨hc1, hc2⟩ := hcl; omega, by obtain ⟨hc1, hc2⟩ := hcl; omega⟩ dL_law_2516 (fun H locs hW hS => ?_)
  refine lv_aload_n hx hb dL_law_2519 rfl (lv_at hl 2 rfl) ?_
  obtain ⟨y3, σ5, u4, hf⟩ := b2_e hf
  refine mV (k := 193) (q := (5, 0)) (C := RX5) (T := TX5) (N := 14) (ci := 5) (n := 0) (As := []) (rest := [.int y1]) (c_X5_round l D t b σ y3 σ5 u4) sh_193 (by decide) rfl rfl hx hb hml hown hts hE hW hS q1656 q1657 q1658 q96 q1659 hy_X5_round ⟨rfl, rfl⟩ ⟨Nat.le_of_ble_eq_true rfl, Nat.le_of_ble_eq_true rfl⟩ rfl rfl hl.1 (Nat.le_of_ble_eq_true rfl) ⟨by obtain ⟨hc1, hc2⟩ := hcl; omega, by obtain ⟨hc1, hc2⟩ := hcl; omega⟩ dL_law_2520 (fun H locs hW hS => ?_)
  refine lv_icmp_eq (tgt := 2838) hx hb dL_law_2523 (by decide) (fun h6 => ?_) (fun h6 => ?_)
  · have hf := ifp h6 hf
    cases hf
    refine W.widen (k := cells + 16) (n := slots + 96) (by omega) (by omega) ?_
    exact kk _ _ _ hW hS (lv_sub hl [0, 1, 2, 3, 4] rfl)
  · have hf := ifn h6 hf
    refine lv_iconst (v := 0) hx hb dL_law_2526 (by decide) ?_
    cases hf
def g_45 (σ : Sg) (a1 a2 a3 a4 : Int32) : Option Sg := b2 (f_L_rainIn σ a1) fun y2 σ1 => b2 (f_X5_rainIn σ1 a1) fun y4 σ6 => b1 (f_X5_thrown σ6) fun y7 => if y7 = y2 then (if y2 = 0 then (if (σ6 202 (0 : Int32).toNatClampNeg) = y4 then (some σ6) else (none)) else (some σ6)) else (none)
set_option maxHeartbeats 4000000 in
set_option maxRecDepth 100000 in
theorem k_45 {p : Program} {l : Launch} {e : Env} {s : State} {m : MethodId} {below : List Frame} {meth : Method} {c : Code} {bA L : Nat} {xs : Nat → Int32} {D : va_G} {t : Nat → ClassId} {b : Nat} (hfl : l.stackTraces = false) (hx : p.tables.exec = Jvm.exec) (hb : c.code = cL_law) (hml : c.maxLocals = 7) (hown : s.vm.findClass RL = some m.cls) {c9 : Cond} (hts : ∀ w ∈ c9 :: ALL, w.before #[Value.ref bA] s = true) (hE : EV D t b s) (hX : va_X bA L xs s s.heap) (hbl : bA < s.heap.size) (hbA : ¬ geA b bA) {i a1 a2 a3 a4 : Int32} (hi1 : vp_in (i + 1) L) (hi2 : vp_in (i + 2) L) (hi3 : vp_in (i + 3) L) (hi4 : vp_in (i + 4) L) (hx1 : xs (i + 1).toNatClampNeg = a1) (hx2 : xs (i + 2).toNatClampNeg = a2) (hx3 : xs (i + 3).toNatClampNeg = a3) (hx4 : xs (i + 4).toNatClampNeg = a4) {H : Heap} {locs : List Loc} {ls : Array Slot} {cells slots : Nat} {Q : State → Prop} (hcl : cells + 16 ≤ room_1.cells ∧ slots + 96 ≤ room_1.slots) {σ σr : Sg} (hW : wd D t b σ H) (hS : va_S (geA b) s.heap H locs) (hl : lv_has ls 7 [(0, .ref bA), (1, .ref (b + 0)), (2, .ref (b + 193)), (3, .ref (b + 202)), (4, .int i)]) (hf : g_45 σ a1 a2 a3 a4 = some σr) (kk : ∀ (H : Heap) (locs : List Loc) (ls : Array Slot), wd D t b σr H → va_S (geA b) s.heap H locs → lv_has ls 7 [(0, .ref bA), (1, .ref (b + 0)), (2, .ref (b + 193)), (3, .ref (b + 202)), (4, .int i)] → W p l e room_1 s m #[Value.ref bA] below meth c H locs (cells + 16) (slots + 96) Q (F0 m 2838 ls [])) : W p l e room_1 s m #[Value.ref bA] below meth c H locs cells slots Q (F0 m 2528 ls []) := by
  have hta := fun w h => hts w (List.mem_cons_of_mem _ h)
  unfold g_45 at hf
  refine lv_aload_n hx hb dL_law_2528 rfl (lv_at hl 1 rfl) ?_
  refine lv_aload_n hx hb dL_law_2529 rfl (lv_at hl 0 rfl) ?_
  refine lv_iload hx hb dL_law_2530 (lv_at hl 4 rfl) ?_
  refine lv_iconst (v := 1) hx hb dL_law_2532 (by decide) ?_
  refine lv_iadd hx hb dL_law_2533 ?_
  refine va_sld hx hb hX hbl hbA hS hi1 dL_law_2534 ?_
  rw [hx1]
  refine lv_aload_n hx hb dL_law_2535 rfl (lv_at hl 3 rfl) ?_
  obtain ⟨y2, σ1, u3, hf⟩ := b2_e hf
  refine mSH (n := 3) (As := [.ref (b + 0), .int a1, .ref (b + 202)]) (rest := []) (c_L_rainIn l hfl D t b σ a1 y2 σ1 u3) hx hb hml hown hts hE hW hS q1148 q1149 q90 qw_L_rainIn hs_L_rainIn ⟨rfl, rfl⟩ ⟨Nat.le_of_ble_eq_true rfl, Nat.le_of_ble_eq_true rfl⟩ rfl rfl hl.1 (Nat.le_of_ble_eq_true rfl) ⟨by obtain ⟨hc1, hc2⟩ := hcl; omega, by obtain ⟨hc1, hc2⟩ := hcl; omega⟩ dL_law_2536 (fun H locs hW hS => ?_)
  refine lv_istore (lv' := [(5, .int y2), (0, .ref bA), (1, .ref (b + 0)), (2, .ref (b + 193)), (3, .ref (b + 202)), (4, .int i)]) hx hb dL_law_2539 hl (by decide) rfl (fun ls hl => ?_)
  refine lv_aload_n hx hb dL_law_2541 rfl (lv_at hl 3 rfl) ?_
  refine lv_aload_n hx hb dL_law_2542 rfl (lv_at hl 1 rfl) ?_
  refine lv_iload hx hb dL_law_2543 (lv_at hl 5 rfl) ?_
  refine lv_iconst (v := 1) hx hb dL_law_2545 (by decide) ?_
  refine lv_iadd hx hb dL_law_2546 ?_
  refine va_sld hx hb hX hbl hbA hS hi1 dL_law_2547 ?_
  rw [hx1]
  obtain ⟨y4, σ6, u5, hf⟩ := b2_e hf
  refine mV (k := 193) (q := (5, 0)) (C := RX5) (T := TX5) (N := 14) (ci := 5) (n := 1) (As := [.int a1]) (rest := []) (c_X5_rainIn l D t b σ1 a1 y4 σ6 u5) sh_193 (by decide) rfl rfl hx hb hml hown hts hE hW hS q1660 q1661 q1662 q96 q1663 hy_X5_rainIn ⟨rfl, rfl⟩ ⟨Nat.le_of_ble_eq_true rfl, Nat.le_of_ble_eq_true rfl⟩ rfl rfl hl.1 (Nat.le_of_ble_eq_true rfl) ⟨by obtain ⟨hc1, hc2⟩ := hcl; omega, by obtain ⟨hc1, hc2⟩ := hcl; omega⟩ dL_law_2548 (fun H locs hW hS => ?_)
  refine lv_istore (lv' := [(6, .int y4), (5, .int y2), (0, .ref bA), (1, .ref (b + 0)), (2, .ref (b + 193)), (3, .ref (b + 202)), (4, .int i)]) hx hb dL_law_2551 hl (by decide) rfl (fun ls hl => ?_)
  refine lv_aload_n hx hb dL_law_2553 rfl (lv_at hl 4 rfl) ?_
  obtain ⟨y7, u8, hf⟩ := b1_e hf
  refine mV (k := 193) (q := (5, 0)) (C := RX5) (T := TX5) (N := 14) (ci := 5) (n := 0) (As := []) (rest := []) (c_X5_thrown l D t b σ6 y7 u8) sh_193 (by decide) rfl rfl hx hb hml hown hts hE hW hS q1224 q1225 q1226 q96 q1227 hy_X5_thrown ⟨rfl, rfl⟩ ⟨Nat.le_of_ble_eq_true rfl, Nat.le_of_ble_eq_true rfl⟩ rfl rfl hl.1 (Nat.le_of_ble_eq_true rfl) ⟨by obtain ⟨hc1, hc2⟩ := hcl; omega, by obtain ⟨hc1, hc2⟩ := hcl; omega⟩ dL_law_2554 (fun H locs hW hS => ?_)
  refine lv_iload hx hb dL_law_2557 (lv_at hl 1 rfl) ?_
  refine lv_icmp_eq (tgt := 2564) hx hb dL_law_2559 (by decide) (fun h9 => ?_) (fun h9 => ?_)
  · have hf := ifp h9 hf
    refine lv_iload hx hb dL_law_2564 (lv_at hl 1 rfl) ?_
    refine lv_if_ne (tgt := 2581) hx hb dL_law_2566 (by decide) (fun h10 => ?_) (fun h10 => ?_)
    · have hf := ifn h10 hf
      refine lv_goto (tgt := 2838) hx hb dL_law_2581 (by decide) ?_
      cases hf
      refine W.widen (k := cells + 16) (n := slots + 96) (by omega) (by omega) ?_
      exact kk _ _ _ hW hS (lv_sub hl [2, 3, 4, 5, 6] rfl)
    · have hf := ifp h10 hf
      refine lv_aload_n hx hb dL_law_2569 rfl (lv_at hl 5 rfl) ?_
      refine lv_iconst (v := 0) hx hb dL_law_2570 (by decide) ?_
      refine lald hx hb hE.1 hW sh_202 (vp_lit (by decide +kernel)) dL_law_2571 ?_
      refine lv_iload hx hb dL_law_2572 (lv_at hl 0 rfl) ?_
      refine lv_i2l hx hb dL_law_2574 rfl ?_
      refine lcmp_if (tgt := 2581) hx hb dL_law_2575 dL_law_2576 (by decide) (fun h11 => ?_) (fun h11 => ?_)
      · have hf := ifp h11 hf
        refine lv_goto (tgt := 2838) hx hb dL_law_2581 (by decide) ?_
        cases hf
        refine W.widen (k := cells + 16) (n := slots + 96) (by omega) (by omega) ?_
        exact kk _ _ _ hW hS (lv_sub hl [2, 3, 4, 5, 6] rfl)
      · have hf := ifn h11 hf
        refine lv_iconst (v := 0) hx hb dL_law_2579 (by decide) ?_
        cases hf
  · have hf := ifn h9 hf
    refine lv_iconst (v := 0) hx hb dL_law_2562 (by decide) ?_
    cases hf
def g_46 (σ : Sg) (a1 a2 a3 a4 : Int32) : Option Sg := b1 (f_X4_isChildDue σ) fun y1 => b2 (f_X5_isChildDue σ) fun y3 σ5 => if y1 = y3 then (some σ5) else (none)
set_option maxHeartbeats 4000000 in
set_option maxRecDepth 100000 in
theorem k_46 {p : Program} {l : Launch} {e : Env} {s : State} {m : MethodId} {below : List Frame} {meth : Method} {c : Code} {bA L : Nat} {xs : Nat → Int32} {D : va_G} {t : Nat → ClassId} {b : Nat} (hfl : l.stackTraces = false) (hx : p.tables.exec = Jvm.exec) (hb : c.code = cL_law) (hml : c.maxLocals = 7) (hown : s.vm.findClass RL = some m.cls) {c9 : Cond} (hts : ∀ w ∈ c9 :: ALL, w.before #[Value.ref bA] s = true) (hE : EV D t b s) (hX : va_X bA L xs s s.heap) (hbl : bA < s.heap.size) (hbA : ¬ geA b bA) {i a1 a2 a3 a4 : Int32} (hi1 : vp_in (i + 1) L) (hi2 : vp_in (i + 2) L) (hi3 : vp_in (i + 3) L) (hi4 : vp_in (i + 4) L) (hx1 : xs (i + 1).toNatClampNeg = a1) (hx2 : xs (i + 2).toNatClampNeg = a2) (hx3 : xs (i + 3).toNatClampNeg = a3) (hx4 : xs (i + 4).toNatClampNeg = a4) {H : Heap} {locs : List Loc} {ls : Array Slot} {cells slots : Nat} {Q : State → Prop} (hcl : cells + 16 ≤ room_1.cells ∧ slots + 96 ≤ room_1.slots) {σ σr : Sg} (hW : wd D t b σ H) (hS : va_S (geA b) s.heap H locs) (hl : lv_has ls 7 [(0, .ref bA), (1, .ref (b + 0)), (2, .ref (b + 193)), (3, .ref (b + 202)), (4, .int i)]) (hf : g_46 σ a1 a2 a3 a4 = some σr) (kk : ∀ (H : Heap) (locs : List Loc) (ls : Array Slot), wd D t b σr H → va_S (geA b) s.heap H locs → lv_has ls 7 [(0, .ref bA), (1, .ref (b + 0)), (2, .ref (b + 193)), (3, .ref (b + 202)), (4, .int i)] → W p l e room_1 s m #[Value.ref bA] below meth c H locs (cells + 16) (slots + 96) Q (F0 m 2838 ls [])) : W p l e room_1 s m #[Value.ref bA] below meth c H locs cells slots Q (F0 m 2584 ls []) := by
  have hta := fun w h => hts w (List.mem_cons_of_mem _ h)
  unfold g_46 at hf
  refine lv_aload_n hx hb dL_law_2584 rfl (lv_at hl 1 rfl) ?_
  obtain ⟨y1, u2, hf⟩ := b1_e hf
  refine mV (k := 0) (q := (0, 0)) (C := RX4) (T := TX4) (N := 8) (ci := 4) (n := 0) (As := []) (rest := []) (c_X4_isChildDue l D t b σ y1 u2) sh_0 (by decide) rfl rfl hx hb hml hown hts hE hW hS q482 q483 q484 q91 q485 hy_X4_isChildDue ⟨rfl, rfl⟩ ⟨Nat.le_of_ble_eq_true rfl, Nat.le_of_ble_eq_true rfl⟩ rfl rfl hl.1 (Nat.le_of_ble_eq_true rfl) ⟨by obtain ⟨hc1, hc2⟩ := hcl; omega, by obtain ⟨hc1, hc2⟩ := hcl; omega⟩ dL_law_2585 (fun H locs hW hS => ?_)
  refine lv_aload_n hx hb dL_law_2588 rfl (lv_at hl 2 rfl) ?_
  obtain ⟨y3, σ5, u4, hf⟩ := b2_e hf
  refine mV (k := 193) (q := (5, 0)) (C := RX5) (T := TX5) (N := 14) (ci := 5) (n := 0) (As := []) (rest := [.int y1]) (c_X5_isChildDue l D t b σ y3 σ5 u4) sh_193 (by decide) rfl rfl hx hb hml hown hts hE hW hS q1664 q1665 q1666 q96 q1667 hy_X5_isChildDue ⟨rfl, rfl⟩ ⟨Nat.le_of_ble_eq_true rfl, Nat.le_of_ble_eq_true rfl⟩ rfl rfl hl.1 (Nat.le_of_ble_eq_true rfl) ⟨by obtain ⟨hc1, hc2⟩ := hcl; omega, by obtain ⟨hc1, hc2⟩ := hcl; omega⟩ dL_law_2589 (fun H locs hW hS => ?_)
  refine lv_icmp_eq (tgt := 2838) hx hb dL_law_2592 (by decide) (fun h6 => ?_) (fun h6 => ?_)
  · have hf := ifp h6 hf
    cases hf
    refine W.widen (k := cells + 16) (n := slots + 96) (by omega) (by omega) ?_
    exact kk _ _ _ hW hS (lv_sub hl [0, 1, 2, 3, 4] rfl)
  · have hf := ifn h6 hf
    refine lv_iconst (v := 0) hx hb dL_law_2595 (by decide) ?_
    cases hf
def g_47 (σ : Sg) (a1 a2 a3 a4 : Int32) : Option Sg := b1 (f_X4_bank σ) fun y1 => b2 (f_X5_bank σ) fun y3 σ5 => if y1 = y3 then (some σ5) else (none)
set_option maxHeartbeats 4000000 in
set_option maxRecDepth 100000 in
theorem k_47 {p : Program} {l : Launch} {e : Env} {s : State} {m : MethodId} {below : List Frame} {meth : Method} {c : Code} {bA L : Nat} {xs : Nat → Int32} {D : va_G} {t : Nat → ClassId} {b : Nat} (hfl : l.stackTraces = false) (hx : p.tables.exec = Jvm.exec) (hb : c.code = cL_law) (hml : c.maxLocals = 7) (hown : s.vm.findClass RL = some m.cls) {c9 : Cond} (hts : ∀ w ∈ c9 :: ALL, w.before #[Value.ref bA] s = true) (hE : EV D t b s) (hX : va_X bA L xs s s.heap) (hbl : bA < s.heap.size) (hbA : ¬ geA b bA) {i a1 a2 a3 a4 : Int32} (hi1 : vp_in (i + 1) L) (hi2 : vp_in (i + 2) L) (hi3 : vp_in (i + 3) L) (hi4 : vp_in (i + 4) L) (hx1 : xs (i + 1).toNatClampNeg = a1) (hx2 : xs (i + 2).toNatClampNeg = a2) (hx3 : xs (i + 3).toNatClampNeg = a3) (hx4 : xs (i + 4).toNatClampNeg = a4) {H : Heap} {locs : List Loc} {ls : Array Slot} {cells slots : Nat} {Q : State → Prop} (hcl : cells + 16 ≤ room_1.cells ∧ slots + 96 ≤ room_1.slots) {σ σr : Sg} (hW : wd D t b σ H) (hS : va_S (geA b) s.heap H locs) (hl : lv_has ls 7 [(0, .ref bA), (1, .ref (b + 0)), (2, .ref (b + 193)), (3, .ref (b + 202)), (4, .int i)]) (hf : g_47 σ a1 a2 a3 a4 = some σr) (kk : ∀ (H : Heap) (locs : List Loc) (ls : Array Slot), wd D t b σr H → va_S (geA b) s.heap H locs → lv_has ls 7 [(0, .ref bA), (1, .ref (b + 0)), (2, .ref (b + 193)), (3, .ref (b + 202)), (4, .int i)] → W p l e room_1 s m #[Value.ref bA] below meth c H locs (cells + 16) (slots + 96) Q (F0 m 2838 ls [])) : W p l e room_1 s m #[Value.ref bA] below meth c H locs cells slots Q (F0 m 2597 ls []) := by
  have hta := fun w h => hts w (List.mem_cons_of_mem _ h)
  unfold g_47 at hf
  refine lv_aload_n hx hb dL_law_2597 rfl (lv_at hl 1 rfl) ?_
  obtain ⟨y1, u2, hf⟩ := b1_e hf
  refine mV (k := 0) (q := (0, 0)) (C := RX4) (T := TX4) (N := 8) (ci := 4) (n := 0) (As := []) (rest := []) (c_X4_bank l D t b σ y1 u2) sh_0 (by decide) rfl rfl hx hb hml hown hts hE hW hS q502 q503 q504 q91 q505 hy_X4_bank ⟨rfl, rfl⟩ ⟨Nat.le_of_ble_eq_true rfl, Nat.le_of_ble_eq_true rfl⟩ rfl rfl hl.1 (Nat.le_of_ble_eq_true rfl) ⟨by obtain ⟨hc1, hc2⟩ := hcl; omega, by obtain ⟨hc1, hc2⟩ := hcl; omega⟩ dL_law_2598 (fun H locs hW hS => ?_)
  refine lv_aload_n hx hb dL_law_2601 rfl (lv_at hl 2 rfl) ?_
  obtain ⟨y3, σ5, u4, hf⟩ := b2_e hf
  refine mV (k := 193) (q := (5, 0)) (C := RX5) (T := TX5) (N := 14) (ci := 5) (n := 0) (As := []) (rest := [.int y1]) (c_X5_bank l D t b σ y3 σ5 u4) sh_193 (by decide) rfl rfl hx hb hml hown hts hE hW hS q1668 q1669 q1670 q96 q1671 hy_X5_bank ⟨rfl, rfl⟩ ⟨Nat.le_of_ble_eq_true rfl, Nat.le_of_ble_eq_true rfl⟩ rfl rfl hl.1 (Nat.le_of_ble_eq_true rfl) ⟨by obtain ⟨hc1, hc2⟩ := hcl; omega, by obtain ⟨hc1, hc2⟩ := hcl; omega⟩ dL_law_2602 (fun H locs hW hS => ?_)
  refine lv_icmp_eq (tgt := 2838) hx hb dL_law_2605 (by decide) (fun h6 => ?_) (fun h6 => ?_)
  · have hf := ifp h6 hf
    cases hf
    refine W.widen (k := cells + 16) (n := slots + 96) (by omega) (by omega) ?_
    exact kk _ _ _ hW hS (lv_sub hl [0, 1, 2, 3, 4] rfl)
  · have hf := ifn h6 hf
    refine lv_iconst (v := 0) hx hb dL_law_2608 (by decide) ?_
    cases hf
def g_48 (σ : Sg) (a1 a2 a3 a4 : Int32) : Option Sg := b1 (f_X4_town σ) fun y1 => b2 (f_X5_town σ) fun y3 σ5 => if y1 = y3 then (some σ5) else (none)
set_option maxHeartbeats 4000000 in
set_option maxRecDepth 100000 in
theorem k_48 {p : Program} {l : Launch} {e : Env} {s : State} {m : MethodId} {below : List Frame} {meth : Method} {c : Code} {bA L : Nat} {xs : Nat → Int32} {D : va_G} {t : Nat → ClassId} {b : Nat} (hfl : l.stackTraces = false) (hx : p.tables.exec = Jvm.exec) (hb : c.code = cL_law) (hml : c.maxLocals = 7) (hown : s.vm.findClass RL = some m.cls) {c9 : Cond} (hts : ∀ w ∈ c9 :: ALL, w.before #[Value.ref bA] s = true) (hE : EV D t b s) (hX : va_X bA L xs s s.heap) (hbl : bA < s.heap.size) (hbA : ¬ geA b bA) {i a1 a2 a3 a4 : Int32} (hi1 : vp_in (i + 1) L) (hi2 : vp_in (i + 2) L) (hi3 : vp_in (i + 3) L) (hi4 : vp_in (i + 4) L) (hx1 : xs (i + 1).toNatClampNeg = a1) (hx2 : xs (i + 2).toNatClampNeg = a2) (hx3 : xs (i + 3).toNatClampNeg = a3) (hx4 : xs (i + 4).toNatClampNeg = a4) {H : Heap} {locs : List Loc} {ls : Array Slot} {cells slots : Nat} {Q : State → Prop} (hcl : cells + 16 ≤ room_1.cells ∧ slots + 96 ≤ room_1.slots) {σ σr : Sg} (hW : wd D t b σ H) (hS : va_S (geA b) s.heap H locs) (hl : lv_has ls 7 [(0, .ref bA), (1, .ref (b + 0)), (2, .ref (b + 193)), (3, .ref (b + 202)), (4, .int i)]) (hf : g_48 σ a1 a2 a3 a4 = some σr) (kk : ∀ (H : Heap) (locs : List Loc) (ls : Array Slot), wd D t b σr H → va_S (geA b) s.heap H locs → lv_has ls 7 [(0, .ref bA), (1, .ref (b + 0)), (2, .ref (b + 193)), (3, .ref (b + 202)), (4, .int i)] → W p l e room_1 s m #[Value.ref bA] below meth c H locs (cells + 16) (slots + 96) Q (F0 m 2838 ls [])) : W p l e room_1 s m #[Value.ref bA] below meth c H locs cells slots Q (F0 m 2610 ls []) := by
  have hta := fun w h => hts w (List.mem_cons_of_mem _ h)
  unfold g_48 at hf
  refine lv_aload_n hx hb dL_law_2610 rfl (lv_at hl 1 rfl) ?_
  obtain ⟨y1, u2, hf⟩ := b1_e hf
  refine mV (k := 0) (q := (0, 0)) (C := RX4) (T := TX4) (N := 8) (ci := 4) (n := 0) (As := []) (rest := []) (c_X4_town l D t b σ y1 u2) sh_0 (by decide) rfl rfl hx hb hml hown hts hE hW hS q506 q507 q508 q91 q509 hy_X4_town ⟨rfl, rfl⟩ ⟨Nat.le_of_ble_eq_true rfl, Nat.le_of_ble_eq_true rfl⟩ rfl rfl hl.1 (Nat.le_of_ble_eq_true rfl) ⟨by obtain ⟨hc1, hc2⟩ := hcl; omega, by obtain ⟨hc1, hc2⟩ := hcl; omega⟩ dL_law_2611 (fun H locs hW hS => ?_)
  refine lv_aload_n hx hb dL_law_2614 rfl (lv_at hl 2 rfl) ?_
  obtain ⟨y3, σ5, u4, hf⟩ := b2_e hf
  refine mV (k := 193) (q := (5, 0)) (C := RX5) (T := TX5) (N := 14) (ci := 5) (n := 0) (As := []) (rest := [.int y1]) (c_X5_town l D t b σ y3 σ5 u4) sh_193 (by decide) rfl rfl hx hb hml hown hts hE hW hS q1672 q1673 q1674 q96 q1675 hy_X5_town ⟨rfl, rfl⟩ ⟨Nat.le_of_ble_eq_true rfl, Nat.le_of_ble_eq_true rfl⟩ rfl rfl hl.1 (Nat.le_of_ble_eq_true rfl) ⟨by obtain ⟨hc1, hc2⟩ := hcl; omega, by obtain ⟨hc1, hc2⟩ := hcl; omega⟩ dL_law_2615 (fun H locs hW hS => ?_)
  refine lv_icmp_eq (tgt := 2838) hx hb dL_law_2618 (by decide) (fun h6 => ?_) (fun h6 => ?_)
  · have hf := ifp h6 hf
    cases hf
    refine W.widen (k := cells + 16) (n := slots + 96) (by omega) (by omega) ?_
    exact kk _ _ _ hW hS (lv_sub hl [0, 1, 2, 3, 4] rfl)
  · have hf := ifn h6 hf
    refine lv_iconst (v := 0) hx hb dL_law_2621 (by decide) ?_
    cases hf
def g_49 (σ : Sg) (a1 a2 a3 a4 : Int32) : Option Sg := b1 (f_X4_allCoins σ) fun y1 => b2 (f_X5_allCoins σ) fun y3 σ5 => if y1 = y3 then (some σ5) else (none)
set_option maxHeartbeats 4000000 in
set_option maxRecDepth 100000 in
theorem k_49 {p : Program} {l : Launch} {e : Env} {s : State} {m : MethodId} {below : List Frame} {meth : Method} {c : Code} {bA L : Nat} {xs : Nat → Int32} {D : va_G} {t : Nat → ClassId} {b : Nat} (hfl : l.stackTraces = false) (hx : p.tables.exec = Jvm.exec) (hb : c.code = cL_law) (hml : c.maxLocals = 7) (hown : s.vm.findClass RL = some m.cls) {c9 : Cond} (hts : ∀ w ∈ c9 :: ALL, w.before #[Value.ref bA] s = true) (hE : EV D t b s) (hX : va_X bA L xs s s.heap) (hbl : bA < s.heap.size) (hbA : ¬ geA b bA) {i a1 a2 a3 a4 : Int32} (hi1 : vp_in (i + 1) L) (hi2 : vp_in (i + 2) L) (hi3 : vp_in (i + 3) L) (hi4 : vp_in (i + 4) L) (hx1 : xs (i + 1).toNatClampNeg = a1) (hx2 : xs (i + 2).toNatClampNeg = a2) (hx3 : xs (i + 3).toNatClampNeg = a3) (hx4 : xs (i + 4).toNatClampNeg = a4) {H : Heap} {locs : List Loc} {ls : Array Slot} {cells slots : Nat} {Q : State → Prop} (hcl : cells + 16 ≤ room_1.cells ∧ slots + 96 ≤ room_1.slots) {σ σr : Sg} (hW : wd D t b σ H) (hS : va_S (geA b) s.heap H locs) (hl : lv_has ls 7 [(0, .ref bA), (1, .ref (b + 0)), (2, .ref (b + 193)), (3, .ref (b + 202)), (4, .int i)]) (hf : g_49 σ a1 a2 a3 a4 = some σr) (kk : ∀ (H : Heap) (locs : List Loc) (ls : Array Slot), wd D t b σr H → va_S (geA b) s.heap H locs → lv_has ls 7 [(0, .ref bA), (1, .ref (b + 0)), (2, .ref (b + 193)), (3, .ref (b + 202)), (4, .int i)] → W p l e room_1 s m #[Value.ref bA] below meth c H locs (cells + 16) (slots + 96) Q (F0 m 2838 ls [])) : W p l e room_1 s m #[Value.ref bA] below meth c H locs cells slots Q (F0 m 2623 ls []) := by
  have hta := fun w h => hts w (List.mem_cons_of_mem _ h)
  unfold g_49 at hf
  refine lv_aload_n hx hb dL_law_2623 rfl (lv_at hl 1 rfl) ?_
  obtain ⟨y1, u2, hf⟩ := b1_e hf
  refine mV (k := 0) (q := (0, 0)) (C := RX4) (T := TX4) (N := 8) (ci := 4) (n := 0) (As := []) (rest := []) (c_X4_allCoins l D t b σ y1 u2) sh_0 (by decide) rfl rfl hx hb hml hown hts hE hW hS q510 q511 q512 q91 q513 hy_X4_allCoins ⟨rfl, rfl⟩ ⟨Nat.le_of_ble_eq_true rfl, Nat.le_of_ble_eq_true rfl⟩ rfl rfl hl.1 (Nat.le_of_ble_eq_true rfl) ⟨by obtain ⟨hc1, hc2⟩ := hcl; omega, by obtain ⟨hc1, hc2⟩ := hcl; omega⟩ dL_law_2624 (fun H locs hW hS => ?_)
  refine lv_aload_n hx hb dL_law_2627 rfl (lv_at hl 2 rfl) ?_
  obtain ⟨y3, σ5, u4, hf⟩ := b2_e hf
  refine mV (k := 193) (q := (5, 0)) (C := RX5) (T := TX5) (N := 14) (ci := 5) (n := 0) (As := []) (rest := [.int y1]) (c_X5_allCoins l D t b σ y3 σ5 u4) sh_193 (by decide) rfl rfl hx hb hml hown hts hE hW hS q1676 q1677 q1678 q96 q1679 hy_X5_allCoins ⟨rfl, rfl⟩ ⟨Nat.le_of_ble_eq_true rfl, Nat.le_of_ble_eq_true rfl⟩ rfl rfl hl.1 (Nat.le_of_ble_eq_true rfl) ⟨by obtain ⟨hc1, hc2⟩ := hcl; omega, by obtain ⟨hc1, hc2⟩ := hcl; omega⟩ dL_law_2628 (fun H locs hW hS => ?_)
  refine lv_icmp_eq (tgt := 2838) hx hb dL_law_2631 (by decide) (fun h6 => ?_) (fun h6 => ?_)
  · have hf := ifp h6 hf
    cases hf
    refine W.widen (k := cells + 16) (n := slots + 96) (by omega) (by omega) ?_
    exact kk _ _ _ hW hS (lv_sub hl [0, 1, 2, 3, 4] rfl)
  · have hf := ifn h6 hf
    refine lv_iconst (v := 0) hx hb dL_law_2634 (by decide) ?_
    cases hf
def g_50 (σ : Sg) (a1 a2 a3 a4 : Int32) : Option Sg := b1 (f_X4_coinsByPlaces σ) fun y1 => b2 (f_X5_coinsByPlaces σ) fun y3 σ5 => if y1 = y3 then (some σ5) else (none)
set_option maxHeartbeats 4000000 in
set_option maxRecDepth 100000 in
theorem k_50 {p : Program} {l : Launch} {e : Env} {s : State} {m : MethodId} {below : List Frame} {meth : Method} {c : Code} {bA L : Nat} {xs : Nat → Int32} {D : va_G} {t : Nat → ClassId} {b : Nat} (hfl : l.stackTraces = false) (hx : p.tables.exec = Jvm.exec) (hb : c.code = cL_law) (hml : c.maxLocals = 7) (hown : s.vm.findClass RL = some m.cls) {c9 : Cond} (hts : ∀ w ∈ c9 :: ALL, w.before #[Value.ref bA] s = true) (hE : EV D t b s) (hX : va_X bA L xs s s.heap) (hbl : bA < s.heap.size) (hbA : ¬ geA b bA) {i a1 a2 a3 a4 : Int32} (hi1 : vp_in (i + 1) L) (hi2 : vp_in (i + 2) L) (hi3 : vp_in (i + 3) L) (hi4 : vp_in (i + 4) L) (hx1 : xs (i + 1).toNatClampNeg = a1) (hx2 : xs (i + 2).toNatClampNeg = a2) (hx3 : xs (i + 3).toNatClampNeg = a3) (hx4 : xs (i + 4).toNatClampNeg = a4) {H : Heap} {locs : List Loc} {ls : Array Slot} {cells slots : Nat} {Q : State → Prop} (hcl : cells + 16 ≤ room_1.cells ∧ slots + 96 ≤ room_1.slots) {σ σr : Sg} (hW : wd D t b σ H) (hS : va_S (geA b) s.heap H locs) (hl : lv_has ls 7 [(0, .ref bA), (1, .ref (b + 0)), (2, .ref (b + 193)), (3, .ref (b + 202)), (4, .int i)]) (hf : g_50 σ a1 a2 a3 a4 = some σr) (kk : ∀ (H : Heap) (locs : List Loc) (ls : Array Slot), wd D t b σr H → va_S (geA b) s.heap H locs → lv_has ls 7 [(0, .ref bA), (1, .ref (b + 0)), (2, .ref (b + 193)), (3, .ref (b + 202)), (4, .int i)] → W p l e room_1 s m #[Value.ref bA] below meth c H locs (cells + 16) (slots + 96) Q (F0 m 2838 ls [])) : W p l e room_1 s m #[Value.ref bA] below meth c H locs cells slots Q (F0 m 2636 ls []) := by
  have hta := fun w h => hts w (List.mem_cons_of_mem _ h)
  unfold g_50 at hf
  refine lv_aload_n hx hb dL_law_2636 rfl (lv_at hl 1 rfl) ?_
  obtain ⟨y1, u2, hf⟩ := b1_e hf
  refine mV (k := 0) (q := (0, 0)) (C := RX4) (T := TX4) (N := 8) (ci := 4) (n := 0) (As := []) (rest := []) (c_X4_coinsByPlaces l D t b σ y1 u2) sh_0 (by decide) rfl rfl hx hb hml hown hts hE hW hS q514 q515 q516 q91 q517 hy_X4_coinsByPlaces ⟨rfl, rfl⟩ ⟨Nat.le_of_ble_eq_true rfl, Nat.le_of_ble_eq_true rfl⟩ rfl rfl hl.1 (Nat.le_of_ble_eq_true rfl) ⟨by obtain ⟨hc1, hc2⟩ := hcl; omega, by obtain ⟨hc1, hc2⟩ := hcl; omega⟩ dL_law_2637 (fun H locs hW hS => ?_)
  refine lv_aload_n hx hb dL_law_2640 rfl (lv_at hl 2 rfl) ?_
  obtain ⟨y3, σ5, u4, hf⟩ := b2_e hf
  refine mV (k := 193) (q := (5, 0)) (C := RX5) (T := TX5) (N := 14) (ci := 5) (n := 0) (As := []) (rest := [.int y1]) (c_X5_coinsByPlaces l D t b σ y3 σ5 u4) sh_193 (by decide) rfl rfl hx hb hml hown hts hE hW hS q1684 q1685 q1686 q96 q1687 hy_X5_coinsByPlaces ⟨rfl, rfl⟩ ⟨Nat.le_of_ble_eq_true rfl, Nat.le_of_ble_eq_true rfl⟩ rfl rfl hl.1 (Nat.le_of_ble_eq_true rfl) ⟨by obtain ⟨hc1, hc2⟩ := hcl; omega, by obtain ⟨hc1, hc2⟩ := hcl; omega⟩ dL_law_2641 (fun H locs hW hS => ?_)
  refine lv_icmp_eq (tgt := 2838) hx hb dL_law_2644 (by decide) (fun h6 => ?_) (fun h6 => ?_)
  · have hf := ifp h6 hf
    cases hf
    refine W.widen (k := cells + 16) (n := slots + 96) (by omega) (by omega) ?_
    exact kk _ _ _ hW hS (lv_sub hl [0, 1, 2, 3, 4] rfl)
  · have hf := ifn h6 hf
    refine lv_iconst (v := 0) hx hb dL_law_2647 (by decide) ?_
    cases hf
def g_51 (σ : Sg) (a1 a2 a3 a4 : Int32) : Option Sg := b1 (f_X4_takings σ) fun y1 => b2 (f_X5_takings σ) fun y3 σ5 => if y1 = y3 then (some σ5) else (none)
set_option maxHeartbeats 4000000 in
set_option maxRecDepth 100000 in
theorem k_51 {p : Program} {l : Launch} {e : Env} {s : State} {m : MethodId} {below : List Frame} {meth : Method} {c : Code} {bA L : Nat} {xs : Nat → Int32} {D : va_G} {t : Nat → ClassId} {b : Nat} (hfl : l.stackTraces = false) (hx : p.tables.exec = Jvm.exec) (hb : c.code = cL_law) (hml : c.maxLocals = 7) (hown : s.vm.findClass RL = some m.cls) {c9 : Cond} (hts : ∀ w ∈ c9 :: ALL, w.before #[Value.ref bA] s = true) (hE : EV D t b s) (hX : va_X bA L xs s s.heap) (hbl : bA < s.heap.size) (hbA : ¬ geA b bA) {i a1 a2 a3 a4 : Int32} (hi1 : vp_in (i + 1) L) (hi2 : vp_in (i + 2) L) (hi3 : vp_in (i + 3) L) (hi4 : vp_in (i + 4) L) (hx1 : xs (i + 1).toNatClampNeg = a1) (hx2 : xs (i + 2).toNatClampNeg = a2) (hx3 : xs (i + 3).toNatClampNeg = a3) (hx4 : xs (i + 4).toNatClampNeg = a4) {H : Heap} {locs : List Loc} {ls : Array Slot} {cells slots : Nat} {Q : State → Prop} (hcl : cells + 16 ≤ room_1.cells ∧ slots + 96 ≤ room_1.slots) {σ σr : Sg} (hW : wd D t b σ H) (hS : va_S (geA b) s.heap H locs) (hl : lv_has ls 7 [(0, .ref bA), (1, .ref (b + 0)), (2, .ref (b + 193)), (3, .ref (b + 202)), (4, .int i)]) (hf : g_51 σ a1 a2 a3 a4 = some σr) (kk : ∀ (H : Heap) (locs : List Loc) (ls : Array Slot), wd D t b σr H → va_S (geA b) s.heap H locs → lv_has ls 7 [(0, .ref bA), (1, .ref (b + 0)), (2, .ref (b + 193)), (3, .ref (b + 202)), (4, .int i)] → W p l e room_1 s m #[Value.ref bA] below meth c H locs (cells + 16) (slots + 96) Q (F0 m 2838 ls [])) : W p l e room_1 s m #[Value.ref bA] below meth c H locs cells slots Q (F0 m 2649 ls []) := by
  have hta := fun w h => hts w (List.mem_cons_of_mem _ h)
  unfold g_51 at hf
  refine lv_aload_n hx hb dL_law_2649 rfl (lv_at hl 1 rfl) ?_
  obtain ⟨y1, u2, hf⟩ := b1_e hf
  refine mV (k := 0) (q := (0, 0)) (C := RX4) (T := TX4) (N := 8) (ci := 4) (n := 0) (As := []) (rest := []) (c_X4_takings l D t b σ y1 u2) sh_0 (by decide) rfl rfl hx hb hml hown hts hE hW hS q526 q527 q528 q91 q529 hy_X4_takings ⟨rfl, rfl⟩ ⟨Nat.le_of_ble_eq_true rfl, Nat.le_of_ble_eq_true rfl⟩ rfl rfl hl.1 (Nat.le_of_ble_eq_true rfl) ⟨by obtain ⟨hc1, hc2⟩ := hcl; omega, by obtain ⟨hc1, hc2⟩ := hcl; omega⟩ dL_law_2650 (fun H locs hW hS => ?_)
  refine lv_aload_n hx hb dL_law_2653 rfl (lv_at hl 2 rfl) ?_
  obtain ⟨y3, σ5, u4, hf⟩ := b2_e hf
  refine mV (k := 193) (q := (5, 0)) (C := RX5) (T := TX5) (N := 14) (ci := 5) (n := 0) (As := []) (rest := [.int y1]) (c_X5_takings l D t b σ y3 σ5 u4) sh_193 (by decide) rfl rfl hx hb hml hown hts hE hW hS q1688 q1689 q1690 q96 q1691 hy_X5_takings ⟨rfl, rfl⟩ ⟨Nat.le_of_ble_eq_true rfl, Nat.le_of_ble_eq_true rfl⟩ rfl rfl hl.1 (Nat.le_of_ble_eq_true rfl) ⟨by obtain ⟨hc1, hc2⟩ := hcl; omega, by obtain ⟨hc1, hc2⟩ := hcl; omega⟩ dL_law_2654 (fun H locs hW hS => ?_)
  refine lv_icmp_eq (tgt := 2838) hx hb dL_law_2657 (by decide) (fun h6 => ?_) (fun h6 => ?_)
  · have hf := ifp h6 hf
    cases hf
    refine W.widen (k := cells + 16) (n := slots + 96) (by omega) (by omega) ?_
    exact kk _ _ _ hW hS (lv_sub hl [0, 1, 2, 3, 4] rfl)
  · have hf := ifn h6 hf
    refine lv_iconst (v := 0) hx hb dL_law_2660 (by decide) ?_
    cases hf
def g_52 (σ : Sg) (a1 a2 a3 a4 : Int32) : Option Sg := b1 (f_X4_takingsByChildren σ) fun y1 => b2 (f_X5_takingsByChildren σ) fun y3 σ5 => if y1 = y3 then (some σ5) else (none)
set_option maxHeartbeats 4000000 in
set_option maxRecDepth 100000 in
theorem k_52 {p : Program} {l : Launch} {e : Env} {s : State} {m : MethodId} {below : List Frame} {meth : Method} {c : Code} {bA L : Nat} {xs : Nat → Int32} {D : va_G} {t : Nat → ClassId} {b : Nat} (hfl : l.stackTraces = false) (hx : p.tables.exec = Jvm.exec) (hb : c.code = cL_law) (hml : c.maxLocals = 7) (hown : s.vm.findClass RL = some m.cls) {c9 : Cond} (hts : ∀ w ∈ c9 :: ALL, w.before #[Value.ref bA] s = true) (hE : EV D t b s) (hX : va_X bA L xs s s.heap) (hbl : bA < s.heap.size) (hbA : ¬ geA b bA) {i a1 a2 a3 a4 : Int32} (hi1 : vp_in (i + 1) L) (hi2 : vp_in (i + 2) L) (hi3 : vp_in (i + 3) L) (hi4 : vp_in (i + 4) L) (hx1 : xs (i + 1).toNatClampNeg = a1) (hx2 : xs (i + 2).toNatClampNeg = a2) (hx3 : xs (i + 3).toNatClampNeg = a3) (hx4 : xs (i + 4).toNatClampNeg = a4) {H : Heap} {locs : List Loc} {ls : Array Slot} {cells slots : Nat} {Q : State → Prop} (hcl : cells + 16 ≤ room_1.cells ∧ slots + 96 ≤ room_1.slots) {σ σr : Sg} (hW : wd D t b σ H) (hS : va_S (geA b) s.heap H locs) (hl : lv_has ls 7 [(0, .ref bA), (1, .ref (b + 0)), (2, .ref (b + 193)), (3, .ref (b + 202)), (4, .int i)]) (hf : g_52 σ a1 a2 a3 a4 = some σr) (kk : ∀ (H : Heap) (locs : List Loc) (ls : Array Slot), wd D t b σr H → va_S (geA b) s.heap H locs → lv_has ls 7 [(0, .ref bA), (1, .ref (b + 0)), (2, .ref (b + 193)), (3, .ref (b + 202)), (4, .int i)] → W p l e room_1 s m #[Value.ref bA] below meth c H locs (cells + 16) (slots + 96) Q (F0 m 2838 ls [])) : W p l e room_1 s m #[Value.ref bA] below meth c H locs cells slots Q (F0 m 2662 ls []) := by
  have hta := fun w h => hts w (List.mem_cons_of_mem _ h)
  unfold g_52 at hf
  refine lv_aload_n hx hb dL_law_2662 rfl (lv_at hl 1 rfl) ?_
  obtain ⟨y1, u2, hf⟩ := b1_e hf
  refine mV (k := 0) (q := (0, 0)) (C := RX4) (T := TX4) (N := 8) (ci := 4) (n := 0) (As := []) (rest := []) (c_X4_takingsByChildren l D t b σ y1 u2) sh_0 (by decide) rfl rfl hx hb hml hown hts hE hW hS q530 q531 q532 q91 q533 hy_X4_takingsByChildren ⟨rfl, rfl⟩ ⟨Nat.le_of_ble_eq_true rfl, Nat.le_of_ble_eq_true rfl⟩ rfl rfl hl.1 (Nat.le_of_ble_eq_true rfl) ⟨by obtain ⟨hc1, hc2⟩ := hcl; omega, by obtain ⟨hc1, hc2⟩ := hcl; omega⟩ dL_law_2663 (fun H locs hW hS => ?_)
  refine lv_aload_n hx hb dL_law_2666 rfl (lv_at hl 2 rfl) ?_
  obtain ⟨y3, σ5, u4, hf⟩ := b2_e hf
  refine mV (k := 193) (q := (5, 0)) (C := RX5) (T := TX5) (N := 14) (ci := 5) (n := 0) (As := []) (rest := [.int y1]) (c_X5_takingsByChildren l D t b σ y3 σ5 u4) sh_193 (by decide) rfl rfl hx hb hml hown hts hE hW hS q1692 q1693 q1694 q96 q1695 hy_X5_takingsByChildren ⟨rfl, rfl⟩ ⟨Nat.le_of_ble_eq_true rfl, Nat.le_of_ble_eq_true rfl⟩ rfl rfl hl.1 (Nat.le_of_ble_eq_true rfl) ⟨by obtain ⟨hc1, hc2⟩ := hcl; omega, by obtain ⟨hc1, hc2⟩ := hcl; omega⟩ dL_law_2667 (fun H locs hW hS => ?_)
  refine lv_icmp_eq (tgt := 2838) hx hb dL_law_2670 (by decide) (fun h6 => ?_) (fun h6 => ?_)
  · have hf := ifp h6 hf
    cases hf
    refine W.widen (k := cells + 16) (n := slots + 96) (by omega) (by omega) ?_
    exact kk _ _ _ hW hS (lv_sub hl [0, 1, 2, 3, 4] rfl)
  · have hf := ifn h6 hf
    refine lv_iconst (v := 0) hx hb dL_law_2673 (by decide) ?_
    cases hf
def g_53 (σ : Sg) (a1 a2 a3 a4 : Int32) : Option Sg := b1 (f_X4_plays σ) fun y1 => b2 (f_X5_plays σ) fun y3 σ5 => if y1 = y3 then (some σ5) else (none)
set_option maxHeartbeats 4000000 in
set_option maxRecDepth 100000 in
theorem k_53 {p : Program} {l : Launch} {e : Env} {s : State} {m : MethodId} {below : List Frame} {meth : Method} {c : Code} {bA L : Nat} {xs : Nat → Int32} {D : va_G} {t : Nat → ClassId} {b : Nat} (hfl : l.stackTraces = false) (hx : p.tables.exec = Jvm.exec) (hb : c.code = cL_law) (hml : c.maxLocals = 7) (hown : s.vm.findClass RL = some m.cls) {c9 : Cond} (hts : ∀ w ∈ c9 :: ALL, w.before #[Value.ref bA] s = true) (hE : EV D t b s) (hX : va_X bA L xs s s.heap) (hbl : bA < s.heap.size) (hbA : ¬ geA b bA) {i a1 a2 a3 a4 : Int32} (hi1 : vp_in (i + 1) L) (hi2 : vp_in (i + 2) L) (hi3 : vp_in (i + 3) L) (hi4 : vp_in (i + 4) L) (hx1 : xs (i + 1).toNatClampNeg = a1) (hx2 : xs (i + 2).toNatClampNeg = a2) (hx3 : xs (i + 3).toNatClampNeg = a3) (hx4 : xs (i + 4).toNatClampNeg = a4) {H : Heap} {locs : List Loc} {ls : Array Slot} {cells slots : Nat} {Q : State → Prop} (hcl : cells + 16 ≤ room_1.cells ∧ slots + 96 ≤ room_1.slots) {σ σr : Sg} (hW : wd D t b σ H) (hS : va_S (geA b) s.heap H locs) (hl : lv_has ls 7 [(0, .ref bA), (1, .ref (b + 0)), (2, .ref (b + 193)), (3, .ref (b + 202)), (4, .int i)]) (hf : g_53 σ a1 a2 a3 a4 = some σr) (kk : ∀ (H : Heap) (locs : List Loc) (ls : Array Slot), wd D t b σr H → va_S (geA b) s.heap H locs → lv_has ls 7 [(0, .ref bA), (1, .ref (b + 0)), (2, .ref (b + 193)), (3, .ref (b + 202)), (4, .int i)] → W p l e room_1 s m #[Value.ref bA] below meth c H locs (cells + 16) (slots + 96) Q (F0 m 2838 ls [])) : W p l e room_1 s m #[Value.ref bA] below meth c H locs cells slots Q (F0 m 2675 ls []) := by
  have hta := fun w h => hts w (List.mem_cons_of_mem _ h)
  unfold g_53 at hf
  refine lv_aload_n hx hb dL_law_2675 rfl (lv_at hl 1 rfl) ?_
  obtain ⟨y1, u2, hf⟩ := b1_e hf
  refine mV (k := 0) (q := (0, 0)) (C := RX4) (T := TX4) (N := 8) (ci := 4) (n := 0) (As := []) (rest := []) (c_X4_plays l D t b σ y1 u2) sh_0 (by decide) rfl rfl hx hb hml hown hts hE hW hS q534 q535 q536 q91 q537 hy_X4_plays ⟨rfl, rfl⟩ ⟨Nat.le_of_ble_eq_true rfl, Nat.le_of_ble_eq_true rfl⟩ rfl rfl hl.1 (Nat.le_of_ble_eq_true rfl) ⟨by obtain ⟨hc1, hc2⟩ := hcl; omega, by obtain ⟨hc1, hc2⟩ := hcl; omega⟩ dL_law_2676 (fun H locs hW hS => ?_)
  refine lv_aload_n hx hb dL_law_2679 rfl (lv_at hl 2 rfl) ?_
  obtain ⟨y3, σ5, u4, hf⟩ := b2_e hf
  refine mV (k := 193) (q := (5, 0)) (C := RX5) (T := TX5) (N := 14) (ci := 5) (n := 0) (As := []) (rest := [.int y1]) (c_X5_plays l D t b σ y3 σ5 u4) sh_193 (by decide) rfl rfl hx hb hml hown hts hE hW hS q1696 q1697 q1698 q96 q1699 hy_X5_plays ⟨rfl, rfl⟩ ⟨Nat.le_of_ble_eq_true rfl, Nat.le_of_ble_eq_true rfl⟩ rfl rfl hl.1 (Nat.le_of_ble_eq_true rfl) ⟨by obtain ⟨hc1, hc2⟩ := hcl; omega, by obtain ⟨hc1, hc2⟩ := hcl; omega⟩ dL_law_2680 (fun H locs hW hS => ?_)
  refine lv_icmp_eq (tgt := 2838) hx hb dL_law_2683 (by decide) (fun h6 => ?_) (fun h6 => ?_)
  · have hf := ifp h6 hf
    cases hf
    refine W.widen (k := cells + 16) (n := slots + 96) (by omega) (by omega) ?_
    exact kk _ _ _ hW hS (lv_sub hl [0, 1, 2, 3, 4] rfl)
  · have hf := ifn h6 hf
    refine lv_iconst (v := 0) hx hb dL_law_2686 (by decide) ?_
    cases hf
def g_54 (σ : Sg) (a1 a2 a3 a4 : Int32) : Option Sg := b2 (f_X4_takingsToday σ) fun y1 σ3 => b2 (f_X5_takingsToday σ3) fun y4 σ6 => if y1 = y4 then (some σ6) else (none)
set_option maxHeartbeats 4000000 in
set_option maxRecDepth 100000 in
theorem k_54 {p : Program} {l : Launch} {e : Env} {s : State} {m : MethodId} {below : List Frame} {meth : Method} {c : Code} {bA L : Nat} {xs : Nat → Int32} {D : va_G} {t : Nat → ClassId} {b : Nat} (hfl : l.stackTraces = false) (hx : p.tables.exec = Jvm.exec) (hb : c.code = cL_law) (hml : c.maxLocals = 7) (hown : s.vm.findClass RL = some m.cls) {c9 : Cond} (hts : ∀ w ∈ c9 :: ALL, w.before #[Value.ref bA] s = true) (hE : EV D t b s) (hX : va_X bA L xs s s.heap) (hbl : bA < s.heap.size) (hbA : ¬ geA b bA) {i a1 a2 a3 a4 : Int32} (hi1 : vp_in (i + 1) L) (hi2 : vp_in (i + 2) L) (hi3 : vp_in (i + 3) L) (hi4 : vp_in (i + 4) L) (hx1 : xs (i + 1).toNatClampNeg = a1) (hx2 : xs (i + 2).toNatClampNeg = a2) (hx3 : xs (i + 3).toNatClampNeg = a3) (hx4 : xs (i + 4).toNatClampNeg = a4) {H : Heap} {locs : List Loc} {ls : Array Slot} {cells slots : Nat} {Q : State → Prop} (hcl : cells + 16 ≤ room_1.cells ∧ slots + 96 ≤ room_1.slots) {σ σr : Sg} (hW : wd D t b σ H) (hS : va_S (geA b) s.heap H locs) (hl : lv_has ls 7 [(0, .ref bA), (1, .ref (b + 0)), (2, .ref (b + 193)), (3, .ref (b + 202)), (4, .int i)]) (hf : g_54 σ a1 a2 a3 a4 = some σr) (kk : ∀ (H : Heap) (locs : List Loc) (ls : Array Slot), wd D t b σr H → va_S (geA b) s.heap H locs → lv_has ls 7 [(0, .ref bA), (1, .ref (b + 0)), (2, .ref (b + 193)), (3, .ref (b + 202)), (4, .int i)] → W p l e room_1 s m #[Value.ref bA] below meth c H locs (cells + 16) (slots + 96) Q (F0 m 2838 ls [])) : W p l e room_1 s m #[Value.ref bA] below meth c H locs cells slots Q (F0 m 2688 ls []) := by
  have hta := fun w h => hts w (List.mem_cons_of_mem _ h)
  unfold g_54 at hf
  refine lv_aload_n hx hb dL_law_2688 rfl (lv_at hl 1 rfl) ?_
  obtain ⟨y1, σ3, u2, hf⟩ := b2_e hf
  refine mV (k := 0) (q := (0, 0)) (C := RX4) (T := TX4) (N := 8) (ci := 4) (n := 0) (As := []) (rest := []) (c_X4_takingsToday l D t b σ y1 σ3 u2) sh_0 (by decide) rfl rfl hx hb hml hown hts hE hW hS q538 q539 q540 q91 q541 hy_X4_takingsToday ⟨rfl, rfl⟩ ⟨Nat.le_of_ble_eq_true rfl, Nat.le_of_ble_eq_true rfl⟩ rfl rfl hl.1 (Nat.le_of_ble_eq_true rfl) ⟨by obtain ⟨hc1, hc2⟩ := hcl; omega, by obtain ⟨hc1, hc2⟩ := hcl; omega⟩ dL_law_2689 (fun H locs hW hS => ?_)
  refine lv_aload_n hx hb dL_law_2692 rfl (lv_at hl 2 rfl) ?_
  obtain ⟨y4, σ6, u5, hf⟩ := b2_e hf
  refine mV (k := 193) (q := (5, 0)) (C := RX5) (T := TX5) (N := 14) (ci := 5) (n := 0) (As := []) (rest := [.int y1]) (c_X5_takingsToday l D t b σ3 y4 σ6 u5) sh_193 (by decide) rfl rfl hx hb hml hown hts hE hW hS q1700 q1701 q1702 q96 q1703 hy_X5_takingsToday ⟨rfl, rfl⟩ ⟨Nat.le_of_ble_eq_true rfl, Nat.le_of_ble_eq_true rfl⟩ rfl rfl hl.1 (Nat.le_of_ble_eq_true rfl) ⟨by obtain ⟨hc1, hc2⟩ := hcl; omega, by obtain ⟨hc1, hc2⟩ := hcl; omega⟩ dL_law_2693 (fun H locs hW hS => ?_)
  refine lv_icmp_eq (tgt := 2838) hx hb dL_law_2696 (by decide) (fun h7 => ?_) (fun h7 => ?_)
  · have hf := ifp h7 hf
    cases hf
    refine W.widen (k := cells + 16) (n := slots + 96) (by omega) (by omega) ?_
    exact kk _ _ _ hW hS (lv_sub hl [0, 1, 2, 3, 4] rfl)
  · have hf := ifn h7 hf
    refine lv_iconst (v := 0) hx hb dL_law_2699 (by decide) ?_
    cases hf
def g_55 (σ : Sg) (a1 a2 a3 a4 : Int32) : Option Sg := b2 (f_L_homeIn σ a1) fun y2 σ1 => b2 (f_X5_homeIn σ1 a1) fun y4 σ6 => b1 (f_X5_thrown σ6) fun y7 => if y7 = y2 then (if y2 = 0 then (if (σ6 202 (0 : Int32).toNatClampNeg) = y4 then (some σ6) else (none)) else (some σ6)) else (none)
set_option maxHeartbeats 4000000 in
set_option maxRecDepth 100000 in
theorem k_55 {p : Program} {l : Launch} {e : Env} {s : State} {m : MethodId} {below : List Frame} {meth : Method} {c : Code} {bA L : Nat} {xs : Nat → Int32} {D : va_G} {t : Nat → ClassId} {b : Nat} (hfl : l.stackTraces = false) (hx : p.tables.exec = Jvm.exec) (hb : c.code = cL_law) (hml : c.maxLocals = 7) (hown : s.vm.findClass RL = some m.cls) {c9 : Cond} (hts : ∀ w ∈ c9 :: ALL, w.before #[Value.ref bA] s = true) (hE : EV D t b s) (hX : va_X bA L xs s s.heap) (hbl : bA < s.heap.size) (hbA : ¬ geA b bA) {i a1 a2 a3 a4 : Int32} (hi1 : vp_in (i + 1) L) (hi2 : vp_in (i + 2) L) (hi3 : vp_in (i + 3) L) (hi4 : vp_in (i + 4) L) (hx1 : xs (i + 1).toNatClampNeg = a1) (hx2 : xs (i + 2).toNatClampNeg = a2) (hx3 : xs (i + 3).toNatClampNeg = a3) (hx4 : xs (i + 4).toNatClampNeg = a4) {H : Heap} {locs : List Loc} {ls : Array Slot} {cells slots : Nat} {Q : State → Prop} (hcl : cells + 16 ≤ room_1.cells ∧ slots + 96 ≤ room_1.slots) {σ σr : Sg} (hW : wd D t b σ H) (hS : va_S (geA b) s.heap H locs) (hl : lv_has ls 7 [(0, .ref bA), (1, .ref (b + 0)), (2, .ref (b + 193)), (3, .ref (b + 202)), (4, .int i)]) (hf : g_55 σ a1 a2 a3 a4 = some σr) (kk : ∀ (H : Heap) (locs : List Loc) (ls : Array Slot), wd D t b σr H → va_S (geA b) s.heap H locs → lv_has ls 7 [(0, .ref bA), (1, .ref (b + 0)), (2, .ref (b + 193)), (3, .ref (b + 202)), (4, .int i)] → W p l e room_1 s m #[Value.ref bA] below meth c H locs (cells + 16) (slots + 96) Q (F0 m 2838 ls [])) : W p l e room_1 s m #[Value.ref bA] below meth c H locs cells slots Q (F0 m 2701 ls []) := by
  have hta := fun w h => hts w (List.mem_cons_of_mem _ h)
  unfold g_55 at hf
  refine lv_aload_n hx hb dL_law_2701 rfl (lv_at hl 1 rfl) ?_
  refine lv_aload_n hx hb dL_law_2702 rfl (lv_at hl 0 rfl) ?_
  refine lv_iload hx hb dL_law_2703 (lv_at hl 4 rfl) ?_
  refine lv_iconst (v := 1) hx hb dL_law_2705 (by decide) ?_
  refine lv_iadd hx hb dL_law_2706 ?_
  refine va_sld hx hb hX hbl hbA hS hi1 dL_law_2707 ?_
  rw [hx1]
  refine lv_aload_n hx hb dL_law_2708 rfl (lv_at hl 3 rfl) ?_
  obtain ⟨y2, σ1, u3, hf⟩ := b2_e hf
  refine mSH (n := 3) (As := [.ref (b + 0), .int a1, .ref (b + 202)]) (rest := []) (c_L_homeIn l hfl D t b σ a1 y2 σ1 u3) hx hb hml hown hts hE hW hS q1156 q1157 q90 qw_L_homeIn hs_L_homeIn ⟨rfl, rfl⟩ ⟨Nat.le_of_ble_eq_true rfl, Nat.le_of_ble_eq_true rfl⟩ rfl rfl hl.1 (Nat.le_of_ble_eq_true rfl) ⟨by obtain ⟨hc1, hc2⟩ := hcl; omega, by obtain ⟨hc1, hc2⟩ := hcl; omega⟩ dL_law_2709 (fun H locs hW hS => ?_)
  refine lv_istore (lv' := [(5, .int y2), (0, .ref bA), (1, .ref (b + 0)), (2, .ref (b + 193)), (3, .ref (b + 202)), (4, .int i)]) hx hb dL_law_2712 hl (by decide) rfl (fun ls hl => ?_)
  refine lv_aload_n hx hb dL_law_2714 rfl (lv_at hl 3 rfl) ?_
  refine lv_aload_n hx hb dL_law_2715 rfl (lv_at hl 1 rfl) ?_
  refine lv_iload hx hb dL_law_2716 (lv_at hl 5 rfl) ?_
  refine lv_iconst (v := 1) hx hb dL_law_2718 (by decide) ?_
  refine lv_iadd hx hb dL_law_2719 ?_
  refine va_sld hx hb hX hbl hbA hS hi1 dL_law_2720 ?_
  rw [hx1]
  obtain ⟨y4, σ6, u5, hf⟩ := b2_e hf
  refine mV (k := 193) (q := (5, 0)) (C := RX5) (T := TX5) (N := 14) (ci := 5) (n := 1) (As := [.int a1]) (rest := []) (c_X5_homeIn l D t b σ1 a1 y4 σ6 u5) sh_193 (by decide) rfl rfl hx hb hml hown hts hE hW hS q1704 q1705 q1706 q96 q1707 hy_X5_homeIn ⟨rfl, rfl⟩ ⟨Nat.le_of_ble_eq_true rfl, Nat.le_of_ble_eq_true rfl⟩ rfl rfl hl.1 (Nat.le_of_ble_eq_true rfl) ⟨by obtain ⟨hc1, hc2⟩ := hcl; omega, by obtain ⟨hc1, hc2⟩ := hcl; omega⟩ dL_law_2721 (fun H locs hW hS => ?_)
  refine lv_istore (lv' := [(6, .int y4), (5, .int y2), (0, .ref bA), (1, .ref (b + 0)), (2, .ref (b + 193)), (3, .ref (b + 202)), (4, .int i)]) hx hb dL_law_2724 hl (by decide) rfl (fun ls hl => ?_)
  refine lv_aload_n hx hb dL_law_2726 rfl (lv_at hl 4 rfl) ?_
  obtain ⟨y7, u8, hf⟩ := b1_e hf
  refine mV (k := 193) (q := (5, 0)) (C := RX5) (T := TX5) (N := 14) (ci := 5) (n := 0) (As := []) (rest := []) (c_X5_thrown l D t b σ6 y7 u8) sh_193 (by decide) rfl rfl hx hb hml hown hts hE hW hS q1224 q1225 q1226 q96 q1227 hy_X5_thrown ⟨rfl, rfl⟩ ⟨Nat.le_of_ble_eq_true rfl, Nat.le_of_ble_eq_true rfl⟩ rfl rfl hl.1 (Nat.le_of_ble_eq_true rfl) ⟨by obtain ⟨hc1, hc2⟩ := hcl; omega, by obtain ⟨hc1, hc2⟩ := hcl; omega⟩ dL_law_2727 (fun H locs hW hS => ?_)
  refine lv_iload hx hb dL_law_2730 (lv_at hl 1 rfl) ?_
  refine lv_icmp_eq (tgt := 2737) hx hb dL_law_2732 (by decide) (fun h9 => ?_) (fun h9 => ?_)
  · have hf := ifp h9 hf
    refine lv_iload hx hb dL_law_2737 (lv_at hl 1 rfl) ?_
    refine lv_if_ne (tgt := 2754) hx hb dL_law_2739 (by decide) (fun h10 => ?_) (fun h10 => ?_)
    · have hf := ifn h10 hf
      refine lv_goto (tgt := 2838) hx hb dL_law_2754 (by decide) ?_
      cases hf
      refine W.widen (k := cells + 16) (n := slots + 96) (by omega) (by omega) ?_
      exact kk _ _ _ hW hS (lv_sub hl [2, 3, 4, 5, 6] rfl)
    · have hf := ifp h10 hf
      refine lv_aload_n hx hb dL_law_2742 rfl (lv_at hl 5 rfl) ?_
      refine lv_iconst (v := 0) hx hb dL_law_2743 (by decide) ?_
      refine lald hx hb hE.1 hW sh_202 (vp_lit (by decide +kernel)) dL_law_2744 ?_
      refine lv_iload hx hb dL_law_2745 (lv_at hl 0 rfl) ?_
      refine lv_i2l hx hb dL_law_2747 rfl ?_
      refine lcmp_if (tgt := 2754) hx hb dL_law_2748 dL_law_2749 (by decide) (fun h11 => ?_) (fun h11 => ?_)
      · have hf := ifp h11 hf
        refine lv_goto (tgt := 2838) hx hb dL_law_2754 (by decide) ?_
        cases hf
        refine W.widen (k := cells + 16) (n := slots + 96) (by omega) (by omega) ?_
        exact kk _ _ _ hW hS (lv_sub hl [2, 3, 4, 5, 6] rfl)
      · have hf := ifn h11 hf
        refine lv_iconst (v := 0) hx hb dL_law_2752 (by decide) ?_
        cases hf
  · have hf := ifn h9 hf
    refine lv_iconst (v := 0) hx hb dL_law_2735 (by decide) ?_
    cases hf
def g_56 (σ : Sg) (a1 a2 a3 a4 : Int32) : Option Sg := b2 (f_L_bestPitch σ a1 a2) fun y2 σ1 => b2 (f_X5_bestPitch σ1 a1 a2) fun y4 σ6 => b1 (f_X5_thrown σ6) fun y7 => if y7 = y2 then (if y2 = 0 then (if (σ6 202 (0 : Int32).toNatClampNeg) = y4 then (some σ6) else (none)) else (some σ6)) else (none)
set_option maxHeartbeats 4000000 in
set_option maxRecDepth 100000 in
theorem k_56 {p : Program} {l : Launch} {e : Env} {s : State} {m : MethodId} {below : List Frame} {meth : Method} {c : Code} {bA L : Nat} {xs : Nat → Int32} {D : va_G} {t : Nat → ClassId} {b : Nat} (hfl : l.stackTraces = false) (hx : p.tables.exec = Jvm.exec) (hb : c.code = cL_law) (hml : c.maxLocals = 7) (hown : s.vm.findClass RL = some m.cls) {c9 : Cond} (hts : ∀ w ∈ c9 :: ALL, w.before #[Value.ref bA] s = true) (hE : EV D t b s) (hX : va_X bA L xs s s.heap) (hbl : bA < s.heap.size) (hbA : ¬ geA b bA) {i a1 a2 a3 a4 : Int32} (hi1 : vp_in (i + 1) L) (hi2 : vp_in (i + 2) L) (hi3 : vp_in (i + 3) L) (hi4 : vp_in (i + 4) L) (hx1 : xs (i + 1).toNatClampNeg = a1) (hx2 : xs (i + 2).toNatClampNeg = a2) (hx3 : xs (i + 3).toNatClampNeg = a3) (hx4 : xs (i + 4).toNatClampNeg = a4) {H : Heap} {locs : List Loc} {ls : Array Slot} {cells slots : Nat} {Q : State → Prop} (hcl : cells + 16 ≤ room_1.cells ∧ slots + 96 ≤ room_1.slots) {σ σr : Sg} (hW : wd D t b σ H) (hS : va_S (geA b) s.heap H locs) (hl : lv_has ls 7 [(0, .ref bA), (1, .ref (b + 0)), (2, .ref (b + 193)), (3, .ref (b + 202)), (4, .int i)]) (hf : g_56 σ a1 a2 a3 a4 = some σr) (kk : ∀ (H : Heap) (locs : List Loc) (ls : Array Slot), wd D t b σr H → va_S (geA b) s.heap H locs → lv_has ls 7 [(0, .ref bA), (1, .ref (b + 0)), (2, .ref (b + 193)), (3, .ref (b + 202)), (4, .int i)] → W p l e room_1 s m #[Value.ref bA] below meth c H locs (cells + 16) (slots + 96) Q (F0 m 2838 ls [])) : W p l e room_1 s m #[Value.ref bA] below meth c H locs cells slots Q (F0 m 2757 ls []) := by
  have hta := fun w h => hts w (List.mem_cons_of_mem _ h)
  unfold g_56 at hf
  refine lv_aload_n hx hb dL_law_2757 rfl (lv_at hl 1 rfl) ?_
  refine lv_aload_n hx hb dL_law_2758 rfl (lv_at hl 0 rfl) ?_
  refine lv_iload hx hb dL_law_2759 (lv_at hl 4 rfl) ?_
  refine lv_iconst (v := 1) hx hb dL_law_2761 (by decide) ?_
  refine lv_iadd hx hb dL_law_2762 ?_
  refine va_sld hx hb hX hbl hbA hS hi1 dL_law_2763 ?_
  rw [hx1]
  refine lv_aload_n hx hb dL_law_2764 rfl (lv_at hl 0 rfl) ?_
  refine lv_iload hx hb dL_law_2765 (lv_at hl 4 rfl) ?_
  refine lv_iconst (v := 2) hx hb dL_law_2767 (by decide) ?_
  refine lv_iadd hx hb dL_law_2768 ?_
  refine va_sld hx hb hX hbl hbA hS hi2 dL_law_2769 ?_
  rw [hx2]
  refine lv_aload_n hx hb dL_law_2770 rfl (lv_at hl 3 rfl) ?_
  obtain ⟨y2, σ1, u3, hf⟩ := b2_e hf
  refine mSH (n := 4) (As := [.ref (b + 0), .int a1, .int a2, .ref (b + 202)]) (rest := []) (c_L_bestPitch l hfl D t b σ a1 a2 y2 σ1 u3) hx hb hml hown hts hE hW hS q1163 q1164 q90 qw_L_bestPitch hs_L_bestPitch ⟨rfl, rfl⟩ ⟨Nat.le_of_ble_eq_true rfl, Nat.le_of_ble_eq_true rfl⟩ rfl rfl hl.1 (Nat.le_of_ble_eq_true rfl) ⟨by obtain ⟨hc1, hc2⟩ := hcl; omega, by obtain ⟨hc1, hc2⟩ := hcl; omega⟩ dL_law_2771 (fun H locs hW hS => ?_)
  refine lv_istore (lv' := [(5, .int y2), (0, .ref bA), (1, .ref (b + 0)), (2, .ref (b + 193)), (3, .ref (b + 202)), (4, .int i)]) hx hb dL_law_2774 hl (by decide) rfl (fun ls hl => ?_)
  refine lv_aload_n hx hb dL_law_2776 rfl (lv_at hl 3 rfl) ?_
  refine lv_aload_n hx hb dL_law_2777 rfl (lv_at hl 1 rfl) ?_
  refine lv_iload hx hb dL_law_2778 (lv_at hl 5 rfl) ?_
  refine lv_iconst (v := 1) hx hb dL_law_2780 (by decide) ?_
  refine lv_iadd hx hb dL_law_2781 ?_
  refine va_sld hx hb hX hbl hbA hS hi1 dL_law_2782 ?_
  rw [hx1]
  refine lv_aload_n hx hb dL_law_2783 rfl (lv_at hl 1 rfl) ?_
  refine lv_iload hx hb dL_law_2784 (lv_at hl 5 rfl) ?_
  refine lv_iconst (v := 2) hx hb dL_law_2786 (by decide) ?_
  refine lv_iadd hx hb dL_law_2787 ?_
  refine va_sld hx hb hX hbl hbA hS hi2 dL_law_2788 ?_
  rw [hx2]
  obtain ⟨y4, σ6, u5, hf⟩ := b2_e hf
  refine mV (k := 193) (q := (5, 0)) (C := RX5) (T := TX5) (N := 14) (ci := 5) (n := 2) (As := [.int a1, .int a2]) (rest := []) (c_X5_bestPitch l D t b σ1 a1 a2 y4 σ6 u5) sh_193 (by decide) rfl rfl hx hb hml hown hts hE hW hS q1712 q1713 q1714 q96 q1715 hy_X5_bestPitch ⟨rfl, rfl⟩ ⟨Nat.le_of_ble_eq_true rfl, Nat.le_of_ble_eq_true rfl⟩ rfl rfl hl.1 (Nat.le_of_ble_eq_true rfl) ⟨by obtain ⟨hc1, hc2⟩ := hcl; omega, by obtain ⟨hc1, hc2⟩ := hcl; omega⟩ dL_law_2789 (fun H locs hW hS => ?_)
  refine lv_istore (lv' := [(6, .int y4), (5, .int y2), (0, .ref bA), (1, .ref (b + 0)), (2, .ref (b + 193)), (3, .ref (b + 202)), (4, .int i)]) hx hb dL_law_2792 hl (by decide) rfl (fun ls hl => ?_)
  refine lv_aload_n hx hb dL_law_2794 rfl (lv_at hl 4 rfl) ?_
  obtain ⟨y7, u8, hf⟩ := b1_e hf
  refine mV (k := 193) (q := (5, 0)) (C := RX5) (T := TX5) (N := 14) (ci := 5) (n := 0) (As := []) (rest := []) (c_X5_thrown l D t b σ6 y7 u8) sh_193 (by decide) rfl rfl hx hb hml hown hts hE hW hS q1224 q1225 q1226 q96 q1227 hy_X5_thrown ⟨rfl, rfl⟩ ⟨Nat.le_of_ble_eq_true rfl, Nat.le_of_ble_eq_true rfl⟩ rfl rfl hl.1 (Nat.le_of_ble_eq_true rfl) ⟨by obtain ⟨hc1, hc2⟩ := hcl; omega, by obtain ⟨hc1, hc2⟩ := hcl; omega⟩ dL_law_2795 (fun H locs hW hS => ?_)
  refine lv_iload hx hb dL_law_2798 (lv_at hl 1 rfl) ?_
  refine lv_icmp_eq (tgt := 2805) hx hb dL_law_2800 (by decide) (fun h9 => ?_) (fun h9 => ?_)
  · have hf := ifp h9 hf
    refine lv_iload hx hb dL_law_2805 (lv_at hl 1 rfl) ?_
    refine lv_if_ne (tgt := 2822) hx hb dL_law_2807 (by decide) (fun h10 => ?_) (fun h10 => ?_)
    · have hf := ifn h10 hf
      refine lv_goto (tgt := 2838) hx hb dL_law_2822 (by decide) ?_
      cases hf
      refine W.widen (k := cells + 16) (n := slots + 96) (by omega) (by omega) ?_
      exact kk _ _ _ hW hS (lv_sub hl [2, 3, 4, 5, 6] rfl)
    · have hf := ifp h10 hf
      refine lv_aload_n hx hb dL_law_2810 rfl (lv_at hl 5 rfl) ?_
      refine lv_iconst (v := 0) hx hb dL_law_2811 (by decide) ?_
      refine lald hx hb hE.1 hW sh_202 (vp_lit (by decide +kernel)) dL_law_2812 ?_
      refine lv_iload hx hb dL_law_2813 (lv_at hl 0 rfl) ?_
      refine lv_i2l hx hb dL_law_2815 rfl ?_
      refine lcmp_if (tgt := 2822) hx hb dL_law_2816 dL_law_2817 (by decide) (fun h11 => ?_) (fun h11 => ?_)
      · have hf := ifp h11 hf
        refine lv_goto (tgt := 2838) hx hb dL_law_2822 (by decide) ?_
        cases hf
        refine W.widen (k := cells + 16) (n := slots + 96) (by omega) (by omega) ?_
        exact kk _ _ _ hW hS (lv_sub hl [2, 3, 4, 5, 6] rfl)
      · have hf := ifn h11 hf
        refine lv_iconst (v := 0) hx hb dL_law_2820 (by decide) ?_
        cases hf
  · have hf := ifn h9 hf
    refine lv_iconst (v := 0) hx hb dL_law_2803 (by decide) ?_
    cases hf
def g_57 (σ : Sg) (a1 a2 a3 a4 : Int32) : Option Sg := b1 (f_X4_recordedStates σ) fun y1 => b2 (f_X5_recordedStates σ) fun y3 σ5 => if y1 = y3 then (some σ5) else (none)
set_option maxHeartbeats 4000000 in
set_option maxRecDepth 100000 in
theorem k_57 {p : Program} {l : Launch} {e : Env} {s : State} {m : MethodId} {below : List Frame} {meth : Method} {c : Code} {bA L : Nat} {xs : Nat → Int32} {D : va_G} {t : Nat → ClassId} {b : Nat} (hfl : l.stackTraces = false) (hx : p.tables.exec = Jvm.exec) (hb : c.code = cL_law) (hml : c.maxLocals = 7) (hown : s.vm.findClass RL = some m.cls) {c9 : Cond} (hts : ∀ w ∈ c9 :: ALL, w.before #[Value.ref bA] s = true) (hE : EV D t b s) (hX : va_X bA L xs s s.heap) (hbl : bA < s.heap.size) (hbA : ¬ geA b bA) {i a1 a2 a3 a4 : Int32} (hi1 : vp_in (i + 1) L) (hi2 : vp_in (i + 2) L) (hi3 : vp_in (i + 3) L) (hi4 : vp_in (i + 4) L) (hx1 : xs (i + 1).toNatClampNeg = a1) (hx2 : xs (i + 2).toNatClampNeg = a2) (hx3 : xs (i + 3).toNatClampNeg = a3) (hx4 : xs (i + 4).toNatClampNeg = a4) {H : Heap} {locs : List Loc} {ls : Array Slot} {cells slots : Nat} {Q : State → Prop} (hcl : cells + 16 ≤ room_1.cells ∧ slots + 96 ≤ room_1.slots) {σ σr : Sg} (hW : wd D t b σ H) (hS : va_S (geA b) s.heap H locs) (hl : lv_has ls 7 [(0, .ref bA), (1, .ref (b + 0)), (2, .ref (b + 193)), (3, .ref (b + 202)), (4, .int i)]) (hf : g_57 σ a1 a2 a3 a4 = some σr) (kk : ∀ (H : Heap) (locs : List Loc) (ls : Array Slot), wd D t b σr H → va_S (geA b) s.heap H locs → lv_has ls 7 [(0, .ref bA), (1, .ref (b + 0)), (2, .ref (b + 193)), (3, .ref (b + 202)), (4, .int i)] → W p l e room_1 s m #[Value.ref bA] below meth c H locs (cells + 16) (slots + 96) Q (F0 m 2838 ls [])) : W p l e room_1 s m #[Value.ref bA] below meth c H locs cells slots Q (F0 m 2825 ls []) := by
  have hta := fun w h => hts w (List.mem_cons_of_mem _ h)
  unfold g_57 at hf
  refine lv_aload_n hx hb dL_law_2825 rfl (lv_at hl 1 rfl) ?_
  obtain ⟨y1, u2, hf⟩ := b1_e hf
  refine mV (k := 0) (q := (0, 0)) (C := RX4) (T := TX4) (N := 8) (ci := 4) (n := 0) (As := []) (rest := []) (c_X4_recordedStates l D t b σ y1 u2) sh_0 (by decide) rfl rfl hx hb hml hown hts hE hW hS q632 q633 q634 q91 q635 hy_X4_recordedStates ⟨rfl, rfl⟩ ⟨Nat.le_of_ble_eq_true rfl, Nat.le_of_ble_eq_true rfl⟩ rfl rfl hl.1 (Nat.le_of_ble_eq_true rfl) ⟨by obtain ⟨hc1, hc2⟩ := hcl; omega, by obtain ⟨hc1, hc2⟩ := hcl; omega⟩ dL_law_2826 (fun H locs hW hS => ?_)
  refine lv_aload_n hx hb dL_law_2829 rfl (lv_at hl 2 rfl) ?_
  obtain ⟨y3, σ5, u4, hf⟩ := b2_e hf
  refine mV (k := 193) (q := (5, 0)) (C := RX5) (T := TX5) (N := 14) (ci := 5) (n := 0) (As := []) (rest := [.int y1]) (c_X5_recordedStates l D t b σ y3 σ5 u4) sh_193 (by decide) rfl rfl hx hb hml hown hts hE hW hS q1720 q1721 q1722 q96 q1723 hy_X5_recordedStates ⟨rfl, rfl⟩ ⟨Nat.le_of_ble_eq_true rfl, Nat.le_of_ble_eq_true rfl⟩ rfl rfl hl.1 (Nat.le_of_ble_eq_true rfl) ⟨by obtain ⟨hc1, hc2⟩ := hcl; omega, by obtain ⟨hc1, hc2⟩ := hcl; omega⟩ dL_law_2830 (fun H locs hW hS => ?_)
  refine lv_icmp_eq (tgt := 2838) hx hb dL_law_2833 (by decide) (fun h6 => ?_) (fun h6 => ?_)
  · have hf := ifp h6 hf
    cases hf
    refine W.widen (k := cells + 16) (n := slots + 96) (by omega) (by omega) ?_
    exact kk _ _ _ hW hS (lv_sub hl [0, 1, 2, 3, 4] rfl)
  · have hf := ifn h6 hf
    refine lv_iconst (v := 0) hx hb dL_law_2836 (by decide) ?_
    cases hf

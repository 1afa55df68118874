/-! the law's start: the surroundings out of what the Statement gives, the constructors, the loop */ -/
theorem cl_flags {l : Launch} (h : l.flags = flags0) : l.stackTraces = false := by
  unfold Launch.stackTraces
  rw [h]
  decide +kernel
theorem str_1 : ∀ q ∈ STRS, Cond.stringRef q.1 q.2.1 q.2.2 ∈ lw_tbl := by decide +kernel
theorem str_2 : ∀ q ∈ STRS, Cond.exactly (.string q.1 q.2.1) "java/lang/String" ∈ flatC (Jvm.Cond.and given_1 narrow_1) := by decide +kernel
theorem ng_in : ∀ w ∈ NG, w ∈ lw_tbl := by decide +kernel
theorem nc_in : ∀ q ∈ NCS, Cond.not (.castable q.1 q.2) ∈ flatC (Jvm.Cond.and given_1 narrow_1) := by decide +kernel
theorem st_1 : Cond.isRef (.static Bundle.tN "UNASSIGNED_STACK" Bundle.steD) ∈ flatC (Jvm.Cond.and given_1 narrow_1) := by decide +kernel
theorem st_2 : Cond.isRef (.static Bundle.tN "SUPPRESSED_SENTINEL" Bundle.listD) ∈ flatC (Jvm.Cond.and given_1 narrow_1) := by decide +kernel
theorem st_3 : Cond.laysStatic Bundle.tN "UNASSIGNED_STACK" Bundle.steD ∈ lw_tbl := by decide +kernel
theorem st_4 : Cond.laysStatic Bundle.tN "SUPPRESSED_SENTINEL" Bundle.listD ∈ lw_tbl := by decide +kernel
theorem st_5 : Cond.initialized Bundle.tN ∈ lw_tbl := by decide +kernel
theorem ao_1 : Cond.arrayOver (.object "PrizePurses$Stall") ∈ lw_tbl := by decide +kernel
theorem ao_2 : Cond.arrayOver (.object "PrizePurses$Fair") ∈ lw_tbl := by decide +kernel
theorem arr_prim {args : Array Value} {s : State} {ty : FieldType} (hty : ∀ C, ty ≠ .object C) (h : (Cond.arrayClass ty).before args s = true) : ∃ cA, ArrOfT s cA ty ∧ va_RA s cA ty := by
  obtain ⟨cA, k, comp, h1, h2, h3⟩ := Cond.arrayClass_spec h
  refine ⟨cA, fun n z => ⟨(fun k h => by cases h), k, h2, comp, h3⟩, ?_⟩
  cases ty with
  | object C => exact absurd rfl (hty C)
  | _ => exact h1
theorem arr_obj {args : Array Value} {s : State} {C : String} (h : (Cond.arrayOver (.object C)).before args s = true) : ∃ cA, ArrOfT s cA (.object C) ∧ va_RA s cA (.object C) := by
  obtain ⟨comp, cA, k, h1, h2, h3, h4, h5⟩ := Cond.arrayOver_spec h
  exact ⟨cA, fun n z => ⟨(fun k h => by cases h), k, h3, comp, h4⟩, ⟨k, comp, h3, h4, h1, h5⟩⟩
theorem start_EV {s : State} {bA : Nat} (hts : ∀ w ∈ lw_tbl, w.before #[Value.ref bA] s = true) (hgv : (Jvm.Cond.and given_1 narrow_1).before #[Value.ref bA] s = true) : ∃ (D : va_G) (t : Nat → ClassId), EV D t s.heap.size s ∧ EVC D t s := by
  have hta : ∀ w ∈ ALL, w.before #[Value.ref bA] s = true := fun w h => hts w (List.mem_filter.mp h).1
  have hg := flat_of_before _ hgv
  obtain ⟨c0, iS0, k0⟩ := u_known (C := RX0) (T := TX0) (N := 10) (n := 10) hta inA0 (hta _ qin_0)
  obtain ⟨c1, iS1, k1⟩ := u_known (C := RX1) (T := TX1) (N := 13) (n := 13) hta inA1 (hta _ qin_1)
  obtain ⟨c2, iS2, k2⟩ := u_known (C := RX2) (T := TX2) (N := 11) (n := 11) hta inA2 (hta _ qin_2)
  obtain ⟨c3, iS3, k3⟩ := u_known (C := RX3) (T := TX3) (N := 11) (n := 11) hta inA3 (hta _ qin_3)
  obtain ⟨c4, iS4, k4⟩ := u_known (C := RX4) (T := TX4) (N := 8) (n := 8) hta inA4 (hta _ qin_4)
  obtain ⟨c5, iS5, k5⟩ := u_known (C := RX5) (T := TX5) (N := 14) (n := 14) hta inA5 (hta _ qin_5)
  obtain ⟨t0, a0, b0⟩ := arr_prim (ty := .int) (fun C h => by cases h) (hta _ qac_int)
  obtain ⟨t1, a1, b1⟩ := arr_prim (ty := .char) (fun C h => by cases h) (hta _ qac_char)
  obtain ⟨t2, a2, b2⟩ := arr_obj (hts _ ao_1)
  obtain ⟨t3, a3, b3⟩ := arr_obj (hts _ ao_2)
  obtain ⟨t4, a4, b4⟩ := arr_prim (ty := .long) (fun C h => by cases h) (hta _ qac_long)
  have hK : ∃ (D : va_G) (t : Nat → ClassId), va_K D vwCl (tyL t) s := by
    refine ⟨(fun k => if k = 0 then c0 else if k = 1 then c1 else if k = 2 then c2 else if k = 3 then c3 else if k = 4 then c4 else c5, fun k => if k = 0 then iS0 else if k = 1 then iS1 else if k = 2 then iS2 else if k = 3 then iS3 else if k = 4 then iS4 else iS5), fun k => if k = 0 then t0 else if k = 1 then t1 else if k = 2 then t2 else if k = 3 then t3 else t4, ?_, ?_⟩
    · intro k q hq
      match k, hq with
      | 0, hq => cases hq; exact k0
      | 1, hq => cases hq; exact k1
      | 2, hq => cases hq; exact k2
      | 3, hq => cases hq; exact k3
      | 4, hq => cases hq; exact k4
      | 5, hq => cases hq; exact k5
      | n + 6, hq => simp [vwCl] at hq
    · intro k q hq
      match k, hq with
      | 0, hq => cases hq; exact ⟨a0, b0⟩
      | 1, hq => cases hq; exact ⟨a1, b1⟩
      | 2, hq => cases hq; exact ⟨a2, b2⟩
      | 3, hq => cases hq; exact ⟨a3, b3⟩
      | 4, hq => cases hq; exact ⟨a4, b4⟩
      | n + 5, hq => simp [tyL] at hq
  obtain ⟨D, t, hK⟩ := hK
  have hN : ∀ w ∈ NG, va_Nw w s := fun w h => va_Nw.of (NG_tab w h) (hts w (ng_in w h))
  have hA : ∀ a : Nat, a < s.heap.size → ¬ geA s.heap.size a := fun a h1 h2 => Nat.not_le.mpr h1 h2
  refine ⟨D, t, ⟨hK, hN, fun q hq => ?_, vx_Zqof (hts _ st_3) (hts _ st_5) (hg _ st_1) hA, vx_Zqof (hts _ st_4) (hts _ st_5) (hg _ st_2) hA, fun q hq => va_Nc.of (hg _ (nc_in q hq))⟩, ⟨hK, hN, va_AO.of (hts _ ao_1), va_AO.of (hts _ ao_2)⟩⟩
  obtain ⟨a, c, cell, k, h1, -⟩ := Cond.exactly_spec (hg _ (str_2 q hq))
  exact ⟨a, vk_R.of (hts _ (str_1 q hq)) h1⟩

set_option maxHeartbeats 4000000 in
set_option maxRecDepth 100000 in
/-- the law from its entry, where an invariant of the pure step is given -/
theorem start_open {p : Program} {e : Env} {s : State} {m : MethodId} {below : List Frame} {meth : Method} {c : Code} (l : Launch) (hflags : l.flags = flags0) {bA L : Nat} {xs : Nat → Int32} (hL : L ≤ 2560) (C0 : lw_At p s m meth c bA L xs) (Inv : Sg → Prop) (h0 : Inv s0) (hstep : ∀ σ a0 a1 a2 a3 a4, Inv σ → ∃ σ', gstep σ a0 a1 a2 a3 a4 = some σ' ∧ Inv σ') : W p l e room_1 s m #[Value.ref bA] below meth c s.heap [] 0 0 (lw_Z below #[Value.ref bA] s) (entryFrame m ([Value.ref bA] : List Value).toArray 7) := by
  obtain ⟨hx, hb, hr, hml, hown, htl, hX, hbl, hlocks, hgv⟩ := id C0
  have hfl := cl_flags hflags
  obtain ⟨D, t, hE, hE2⟩ := start_EV htl hgv
  have hta : ∀ w ∈ ALL, w.before #[Value.ref bA] s = true := fun w h => htl w (List.mem_filter.mp h).1
  have hts : ∀ w ∈ Cond.arrayClass .int :: ALL, w.before #[Value.ref bA] s = true := fun w h => (List.mem_cons.mp h).elim (fun e => by rw [e]; exact hta _ qac_int) (hta w)
  have hl := lv_entry ([.ref bA]) (n := 7) (Nat.le_of_ble_eq_true rfl)
  rw [lg_entry_eq]
  generalize (lg_sl ([.ref bA]) ++ List.replicate (7 - (lg_sl ([.ref bA])).length) Slot.unset).toArray = ls at hl ⊢
  have hl : lv_has ls 7 [(0, .ref bA)] := hl
  obtain ⟨b, hbs⟩ : ∃ b, b = s.heap.size := ⟨_, rfl⟩
  rw [← hbs] at hE
  refine cnew (ci := 4) (C := RX4) (T := TX4) (N := 8) (h := b + 0) inA4 tyX4_ok rfl (fs := [.null, .null, .null, .int 0, .null, .int 0, .int 0, .null]) (by decide +kernel) hx hb hta hown hE.1 q105 qin_4 q91 (by rw [hbs]; rfl) (Nat.le_of_ble_eq_true rfl) (Nat.le_of_ble_eq_true rfl) dL_law_0 (fun H1 hN z1 o1 => ?_)
  refine lv_dup hx hb dL_law_3 rfl ?_
  refine mI (k := 0) (n := 193) (rest := [.ref (b + 0)]) (c_X4_init l D t b) hx hb hml hown hts hE2 (by rw [z1]) hN q107 q108 q91 q109 rfl hs_X4_init ⟨rfl, rfl⟩ ⟨Nat.le_of_ble_eq_true rfl, Nat.le_of_ble_eq_true rfl⟩ rfl hl.1 (Nat.le_of_ble_eq_true rfl) ⟨Nat.le_of_ble_eq_true rfl, Nat.le_of_ble_eq_true rfl⟩ dL_law_4 (fun H2 L2 hz hC o2 hL2 => ?_)
  refine lv_astore_n (lv' := [(1, .ref (b + 0)), (0, .ref bA)]) hx hb dL_law_7 rfl hl (by decide) rfl (fun ls hl => ?_)
  refine cnew (ci := 5) (C := RX5) (T := TX5) (N := 14) (h := b + 193) inA5 tyX5_ok rfl (fs := [.null, .null, .int 0, .null, .int 0, .null, .null, .null, .null, .int 0, .int 0, .int 0, .null, .int 0]) (by decide +kernel) hx hb hta hown hE.1 q1175 qin_5 q96 hz (Nat.le_of_ble_eq_true rfl) (Nat.le_of_ble_eq_true rfl) dL_law_8 (fun H3 hN z3 o3 => ?_)
  refine lv_dup hx hb dL_law_11 rfl ?_
  have hC := hC.kept (fun j h1 h2 => o3 (b + j) (by omega))
  refine mI (k := 193) (n := 202) (rest := [.ref (b + 193)]) (c_X5_init l D t b) hx hb hml hown hts hE2 (by rw [z3]) hN q1177 q1178 q96 q1179 rfl hs_X5_init ⟨rfl, rfl⟩ ⟨Nat.le_of_ble_eq_true rfl, Nat.le_of_ble_eq_true rfl⟩ rfl hl.1 (Nat.le_of_ble_eq_true rfl) ⟨Nat.le_of_ble_eq_true rfl, Nat.le_of_ble_eq_true rfl⟩ dL_law_12 (fun H4 L4 hz hC2 o4 hL4 => ?_)
  have hC := (hC.kept (fun j h1 h2 => o4 (b + j) (by omega))).app hC2
  refine lv_astore_n (lv' := [(2, .ref (b + 193)), (1, .ref (b + 0)), (0, .ref bA)]) hx hb dL_law_15 rfl hl (by decide) rfl (fun ls hl => ?_)
  refine lv_iconst (v := 1) hx hb dL_law_16 (by decide) ?_
  refine cnewL (h := b + 202) (N := 1) hx hb hta hE.1 qac_long (by decide) (by decide +kernel) (by decide) hz (Nat.le_of_ble_eq_true rfl) (Nat.le_of_ble_eq_true rfl) dL_law_17 (fun H5 hN z5 o5 => ?_)
  have hC := (hC.kept (fun j h1 h2 => o5 (b + j) (by omega))).snoc (n := 202) (by
    rw [s0_z (by rw [sh_202]; intro z; cases z) (by decide), sh_202]
    exact hN)
  refine lv_astore_n (lv' := [(3, .ref (b + 202)), (2, .ref (b + 193)), (1, .ref (b + 0)), (0, .ref bA)]) hx hb dL_law_19 rfl hl (by decide) rfl (fun ls hl => ?_)
  refine lv_iconst (v := 0) hx hb dL_law_20 (by decide) ?_
  refine lv_istore (lv' := [(4, .int 0), (3, .ref (b + 202)), (2, .ref (b + 193)), (1, .ref (b + 0)), (0, .ref bA)]) hx hb dL_law_21 hl (by decide) rfl (fun ls hl => ?_)
  have hW : wd D t b s0 H5 := by
    intro k q hq
    obtain ⟨hk, hq1⟩ := wl_1 hq
    have h9 := wl_at (b := b) (t := t) (σ := s0) (k := k) (q := sh k) rfl (by
      have h7 : ∀ k, k < 203 → (sh k).1 ≠ 99 := by decide +kernel
      exact h7 k hk)
    rw [hq] at h9
    cases h9
    exact hC k (Nat.zero_le _) hk
  have hS : va_S (geA b) s.heap H5 ([] ++ L2 ++ L4) := by
    refine ⟨by omega, fun q h1 h2 => ?_, fun z hz9 => ?_⟩
    · exact (o5 q (by omega)).trans ((o4 q (by omega)).trans ((o3 q (by omega)).trans ((o2 q (by omega)).trans (o1 q (by omega)))))
    · rcases List.mem_append.mp hz9 with h | h
      · rcases List.mem_append.mp h with h | h
        · cases h
        · exact hL2 z h
      · exact Nat.le_trans (show b ≤ b + 193 by omega) (hL4 z h)
  refine W.widen (k := 300 + 16 * 0) (n := 50000 + 96 * 0) (Nat.le_of_ble_eq_true rfl) (Nat.le_of_ble_eq_true rfl) ?_
  exact law_loop hfl hx hb hml hown hts hE hX hbl (by rw [hbs]; exact Nat.not_le.mpr hbl) hbs hr hlocks hL Inv hstep (L + 1) 0 s0 H5 _ ls (by omega) (by omega) h0 hW hS (lv_sub hl [4, 3, 2, 1, 0] rfl)

/-! the law's start: the surroundings out of what the Statement gives, the constructors, the loop */ -/
theorem cl_flags {l : Launch} (h : l.flags = flags0) : l.stackTraces = false := by
  unfold Launch.stackTraces
  rw [h]
  decide +kernel
theorem str_1 : ∀ q ∈ STRS, Cond.stringRef q.1 q.2.1 q.2.2 ∈ lw_tbl := by decide +kernel
theorem str_2 : ∀ q ∈ STRS, Cond.exactly (.string q.1 q.2.1) "java/lang/String" ∈ flatC (Jvm.Cond.and given_1 narrow_1) := by decide +kernel
theorem ng_in : ∀ w ∈ NG, w ∈ lw_tbl := by decide +kernel
theorem nc_in : ∀ q ∈ NCS, Cond.not (.castable q.1 q.2) ∈ flatC (Jvm.Cond.and given_1 narrow_1) := by decide +kernel
theorem st_1 : Cond.isRef (.static Bundle.tN "UNASSIGNED_STACK" Bundle.steD) ∈ flatC (Jvm.Cond.and given_1 narrow_1) := by decide +kernel
theorem st_2 : Cond.isRef (.static Bundle.tN "SUPPRESSED_SENTINEL" Bundle.listD) ∈ flatC (Jvm.Cond.and given_1 narrow_1) := by decide +kernel
theorem st_3 : Cond.laysStatic Bundle.tN "UNASSIGNED_STACK" Bundle.steD ∈ lw_tbl := by decide +kernel
theorem st_4 : Cond.laysStatic Bundle.tN "SUPPRESSED_SENTINEL" Bundle.listD ∈ lw_tbl := by decide +kernel
theorem st_5 : Cond.initialized Bundle.tN ∈ lw_tbl := by decide +kernel
theorem ao_1 : Cond.arrayOver (.object "PrizePurses$Stall") ∈ lw_tbl := by decide +kernel
theorem ao_2 : Cond.arrayOver (.object "PrizePurses$Fair") ∈ lw_tbl := by decide +kernel
theorem arr_prim {args : Array Value} {s : State} {ty : FieldType} (hty : ∀ C, ty ≠ .object C) (h : (Cond.arrayClass ty).before args s = true) : ∃ cA, ArrOfT s cA ty ∧ va_RA s cA ty := by
  obtain ⟨cA, k, comp, h1, h2, h3⟩ := Cond.arrayClass_spec h
  refine ⟨cA, fun n z => ⟨(fun k h => by cases h), k, h2, comp, h3⟩, ?_⟩
  cases ty with
  | object C => exact absurd rfl (hty C)
  | _ => exact h1
theorem arr_obj {args : Array Value} {s : State} {C : String} (h : (Cond.arrayOver (.object C)).before args s = true) : ∃ cA, ArrOfT s cA (.object C) ∧ va_RA s cA (.object C) := by
  obtain ⟨comp, cA, k, h1, h2, h3, h4, h5⟩ := Cond.arrayOver_spec h
  exact ⟨cA, fun n z => ⟨(fun k h => by cases h), k, h3, comp, h4⟩, ⟨k, comp, h3, h4, h1, h5⟩⟩
theorem start_EV {s : State} {bA : Nat} (hts : ∀ w ∈ lw_tbl, w.before #[Value.ref bA] s = true) (hgv : (Jvm.Cond.and given_1 narrow_1).before #[Value.ref bA] s = true) : ∃ (D : va_G) (t : Nat → ClassId), EVA D t (geC s.heap.size) s ∧ EVC D t s := by
  have hta : ∀ w ∈ ALL, w.before #[Value.ref bA] s = true := fun w h => hts w (List.mem_filter.mp h).1
  have hg := flat_of_before _ hgv
  obtain ⟨c0, iS0, k0⟩ := u_known (C := RX0) (T := TX0) (N := 10) (n := 10) hta inA0 (hta _ qin_0)
  obtain ⟨c1, iS1, k1⟩ := u_known (C := RX1) (T := TX1) (N := 13) (n := 13) hta inA1 (hta _ qin_1)
  obtain ⟨c2, iS2, k2⟩ := u_known (C := RX2) (T := TX2) (N := 11) (n := 11) hta inA2 (hta _ qin_2)
  obtain ⟨c3, iS3, k3⟩ := u_known (C := RX3) (T := TX3) (N := 11) (n := 11) hta inA3 (hta _ qin_3)
  obtain ⟨c4, iS4, k4⟩ := u_known (C := RX4) (T := TX4) (N := 8) (n := 8) hta inA4 (hta _ qin_4)
  obtain ⟨t0, a0, b0⟩ := arr_prim (ty := .int) (fun C h => by cases h) (hta _ qac_int)
  obtain ⟨t1, a1, b1⟩ := arr_prim (ty := .char) (fun C h => by cases h) (hta _ qac_char)
  obtain ⟨t2, a2, b2⟩ := arr_obj (hts _ ao_1)
  obtain ⟨t3, a3, b3⟩ := arr_obj (hts _ ao_2)
  obtain ⟨t4, a4, b4⟩ := arr_prim (ty := .long) (fun C h => by cases h) (hta _ qac_long)
  have hK : ∃ (D : va_G) (t : Nat → ClassId), va_K D vwCl (tyL t) s := by
    refine ⟨(fun k => if k = 0 then c0 else if k = 1 then c1 else if k = 2 then c2 else if k = 3 then c3 else c4, fun k => if k = 0 then iS0 else if k = 1 then iS1 else if k = 2 then iS2 else if k = 3 then iS3 else iS4), fun k => if k = 0 then t0 else if k = 1 then t1 else if k = 2 then t2 else if k = 3 then t3 else t4, ?_, ?_⟩
    · intro k q hq
      match k, hq with
      | 0, hq => cases hq; exact k0
      | 1, hq => cases hq; exact k1
      | 2, hq => cases hq; exact k2
      | 3, hq => cases hq; exact k3
      | 4, hq => cases hq; exact k4
      | n + 5, hq => simp [vwCl] at hq
    · intro k q hq
      match k, hq with
      | 0, hq => cases hq; exact ⟨a0, b0⟩
      | 1, hq => cases hq; exact ⟨a1, b1⟩
      | 2, hq => cases hq; exact ⟨a2, b2⟩
      | 3, hq => cases hq; exact ⟨a3, b3⟩
      | 4, hq => cases hq; exact ⟨a4, b4⟩
      | n + 5, hq => simp [tyL] at hq
  obtain ⟨D, t, hK⟩ := hK
  have hN : ∀ w ∈ NG, va_Nw w s := fun w h => va_Nw.of (NG_tab w h) (hts w (ng_in w h))
  have hA : ∀ a : Nat, a < s.heap.size → ¬ geC s.heap.size a := fun a h1 h2 => Nat.not_le.mpr h1 h2
  refine ⟨D, t, ⟨hK, hN, fun q hq => ?_, vx_Zqof (hts _ st_3) (hts _ st_5) (hg _ st_1) hA, vx_Zqof (hts _ st_4) (hts _ st_5) (hg _ st_2) hA, fun q hq => va_Nc.of (hg _ (nc_in q hq))⟩, ⟨hK, hN, va_AO.of (hts _ ao_1), va_AO.of (hts _ ao_2)⟩⟩
  obtain ⟨a, c, cell, k, h1, -⟩ := Cond.exactly_spec (hg _ (str_2 q hq))
  exact ⟨a, vk_R.of (hts _ (str_1 q hq)) h1⟩


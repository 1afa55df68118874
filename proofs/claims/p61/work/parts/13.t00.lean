def f_X4_needPitch (σ : Sg) (p1 : Int32) : Option (Nat ⊕ Unit) := if p1 < 0 then (some (.inl 1)) else (if p1 < 12 then (some (.inr ())) else (some (.inl 1)))
set_option maxHeartbeats 4000000 in
set_option maxRecDepth 100000 in
theorem c_X4_needPitch (l : Launch) (hfl : l.stackTraces = false) (D : va_G) (t : Nat → ClassId) (b : Nat) (σ : Sg) (p1 : Int32) (r : (Nat ⊕ Unit)) (hf : f_X4_needPitch σ p1 = some r) : vx_Met l yX4_needPitch (Cond.code yX4_needPitch cX4_needPitch 2 none :: ALL) ({ frames := 6, cells := 1, slots := 6, locals := 82 }) (PM D t b σ [.ref (b + 0), .int p1]) (QX D t b (Sum.map (fun k => (k, σ)) (fun _ => (none, σ)) r)) (XX D t b (Sum.map (fun k => (k, σ)) (fun _ => (none, σ)) r)) 1 6 (geA b) := by
  refine vx_ofW (cc := cX4_needPitch) (maxL := 2) (ret := none) (by decide) rfl ?_
  intro p e s m args below meth c s₁ B hml htab hv
  obtain ⟨rfl, hW, hE⟩ := hv
  have hx := B.exec
  have hb := B.bytes
  have hr := B.returns
  have hts := atoms_spec (ws := Cond.code yX4_needPitch cX4_needPitch 2 none :: ALL) B.pre
  have hta := fun w h => hts w (List.mem_cons_of_mem _ h)
  have hown : s.vm.findClass RX4 = some m.cls := findClass_of_methodNamed B.named
  have hlocks := B.notSynchronized
  have hS : va_S (geA b) s.heap s.heap [] := va_S.rf
  have hl := lv_entry ([.ref (b + 0), .int p1]) (n := 2) (Nat.le_of_ble_eq_true rfl)
  rw [lg_entry_eq]
  generalize (lg_sl ([.ref (b + 0), .int p1]) ++ List.replicate (2 - (lg_sl ([.ref (b + 0), .int p1])).length) Slot.unset).toArray = ls at hl ⊢
  have hl : lv_has ls 2 [(0, .ref (b + 0)), (1, .int p1)] := hl
  unfold f_X4_needPitch at hf
  refine lv_iload_n hx hb dX4_needPitch_0 rfl (lv_at hl 1 rfl) ?_
  refine lv_if_lt (tgt := 10) hx hb dX4_needPitch_1 (by decide) (fun h1 => ?_) (fun h1 => ?_)
  · have hf := ifp h1 hf
    cases hf
    exact mthrowW (k1 := 1) (is := 307) (text := "there is no such pitch") (rest := []) hfl fit_1 hx hb hown hta hE hW hS thA_1 thB_1 (by decide +kernel) thC_1 thD_1 thE_1 (hl.1.trans hml.symm) dX4_needPitch_10 dX4_needPitch_13 dX4_needPitch_14 dX4_needPitch_17 dX4_needPitch_20 htab (Nat.le_of_ble_eq_true rfl) (Nat.le_of_ble_eq_true rfl) (Nat.le_of_ble_eq_true rfl) (Nat.le_of_ble_eq_true rfl) hlocks (Nat.le_of_ble_eq_true rfl) (Nat.le_of_ble_eq_true rfl)
  · have hf := ifn h1 hf
    refine lv_iload_n hx hb dX4_needPitch_4 rfl (lv_at hl 1 rfl) ?_
    refine lv_bipush (v := 12) hx hb dX4_needPitch_5 (by decide) ?_
    refine lv_icmp_lt (tgt := 21) hx hb dX4_needPitch_7 (by decide) (fun h2 => ?_) (fun h2 => ?_)
    · have hf := ifp h2 hf
      cases hf
      refine vx_ret ?_
      refine W.widen (k := 1) (n := 6) (Nat.le_of_ble_eq_true rfl) (Nat.le_of_ble_eq_true rfl) ?_
      exact W.vret hx hb hr (fun u hu _ => ⟨_, _, rfl, ⟨rfl, by rw [hu]; exact hW⟩, hS.F hu⟩) hS.2.2 dX4_needPitch_21
    · have hf := ifn h2 hf
      cases hf
      exact mthrowW (k1 := 1) (is := 307) (text := "there is no such pitch") (rest := []) hfl fit_1 hx hb hown hta hE hW hS thA_1 thB_1 (by decide +kernel) thC_1 thD_1 thE_1 (hl.1.trans hml.symm) dX4_needPitch_10 dX4_needPitch_13 dX4_needPitch_14 dX4_needPitch_17 dX4_needPitch_20 htab (Nat.le_of_ble_eq_true rfl) (Nat.le_of_ble_eq_true rfl) (Nat.le_of_ble_eq_true rfl) (Nat.le_of_ble_eq_true rfl) hlocks (Nat.le_of_ble_eq_true rfl) (Nat.le_of_ble_eq_true rfl)
def f_X4_needKind (σ : Sg) (p1 : Int32) : Option (Nat ⊕ Unit) := if p1 < 0 then (some (.inl 1)) else (if p1 < 5 then (some (.inr ())) else (some (.inl 1)))
set_option maxHeartbeats 4000000 in
set_option maxRecDepth 100000 in
theorem c_X4_needKind (l : Launch) (hfl : l.stackTraces = false) (D : va_G) (t : Nat → ClassId) (b : Nat) (σ : Sg) (p1 : Int32) (r : (Nat ⊕ Unit)) (hf : f_X4_needKind σ p1 = some r) : vx_Met l yX4_needKind (Cond.code yX4_needKind cX4_needKind 2 none :: ALL) ({ frames := 6, cells := 1, slots := 6, locals := 82 }) (PM D t b σ [.ref (b + 0), .int p1]) (QX D t b (Sum.map (fun k => (k, σ)) (fun _ => (none, σ)) r)) (XX D t b (Sum.map (fun k => (k, σ)) (fun _ => (none, σ)) r)) 1 6 (geA b) := by
  refine vx_ofW (cc := cX4_needKind) (maxL := 2) (ret := none) (by decide) rfl ?_
  intro p e s m args below meth c s₁ B hml htab hv
  obtain ⟨rfl, hW, hE⟩ := hv
  have hx := B.exec
  have hb := B.bytes
  have hr := B.returns
  have hts := atoms_spec (ws := Cond.code yX4_needKind cX4_needKind 2 none :: ALL) B.pre
  have hta := fun w h => hts w (List.mem_cons_of_mem _ h)
  have hown : s.vm.findClass RX4 = some m.cls := findClass_of_methodNamed B.named
  have hlocks := B.notSynchronized
  have hS : va_S (geA b) s.heap s.heap [] := va_S.rf
  have hl := lv_entry ([.ref (b + 0), .int p1]) (n := 2) (Nat.le_of_ble_eq_true rfl)
  rw [lg_entry_eq]
  generalize (lg_sl ([.ref (b + 0), .int p1]) ++ List.replicate (2 - (lg_sl ([.ref (b + 0), .int p1])).length) Slot.unset).toArray = ls at hl ⊢
  have hl : lv_has ls 2 [(0, .ref (b + 0)), (1, .int p1)] := hl
  unfold f_X4_needKind at hf
  refine lv_iload_n hx hb dX4_needKind_0 rfl (lv_at hl 1 rfl) ?_
  refine lv_if_lt (tgt := 9) hx hb dX4_needKind_1 (by decide) (fun h1 => ?_) (fun h1 => ?_)
  · have hf := ifp h1 hf
    cases hf
    exact mthrowW (k1 := 1) (is := 310) (text := "there is no such kind") (rest := []) hfl fit_1 hx hb hown hta hE hW hS thA_1 thB_1 (by decide +kernel) thC_1 thD_1 thE_1 (hl.1.trans hml.symm) dX4_needKind_9 dX4_needKind_12 dX4_needKind_13 dX4_needKind_16 dX4_needKind_19 htab (Nat.le_of_ble_eq_true rfl) (Nat.le_of_ble_eq_true rfl) (Nat.le_of_ble_eq_true rfl) (Nat.le_of_ble_eq_true rfl) hlocks (Nat.le_of_ble_eq_true rfl) (Nat.le_of_ble_eq_true rfl)
  · have hf := ifn h1 hf
    refine lv_iload_n hx hb dX4_needKind_4 rfl (lv_at hl 1 rfl) ?_
    refine lv_iconst (v := 5) hx hb dX4_needKind_5 (by decide) ?_
    refine lv_icmp_lt (tgt := 20) hx hb dX4_needKind_6 (by decide) (fun h2 => ?_) (fun h2 => ?_)
    · have hf := ifp h2 hf
      cases hf
      refine vx_ret ?_
      refine W.widen (k := 1) (n := 6) (Nat.le_of_ble_eq_true rfl) (Nat.le_of_ble_eq_true rfl) ?_
      exact W.vret hx hb hr (fun u hu _ => ⟨_, _, rfl, ⟨rfl, by rw [hu]; exact hW⟩, hS.F hu⟩) hS.2.2 dX4_needKind_20
    · have hf := ifn h2 hf
      cases hf
      exact mthrowW (k1 := 1) (is := 310) (text := "there is no such kind") (rest := []) hfl fit_1 hx hb hown hta hE hW hS thA_1 thB_1 (by decide +kernel) thC_1 thD_1 thE_1 (hl.1.trans hml.symm) dX4_needKind_9 dX4_needKind_12 dX4_needKind_13 dX4_needKind_16 dX4_needKind_19 htab (Nat.le_of_ble_eq_true rfl) (Nat.le_of_ble_eq_true rfl) (Nat.le_of_ble_eq_true rfl) (Nat.le_of_ble_eq_true rfl) hlocks (Nat.le_of_ble_eq_true rfl) (Nat.le_of_ble_eq_true rfl)
def f_X4_needPrice (σ : Sg) (p1 : Int32) : Option (Nat ⊕ Unit) := if p1 < 1 then (some (.inl 2)) else (if p1 ≤ 9 then (some (.inr ())) else (some (.inl 2)))
set_option maxHeartbeats 4000000 in
set_option maxRecDepth 100000 in
theorem c_X4_needPrice (l : Launch) (hfl : l.stackTraces = false) (D : va_G) (t : Nat → ClassId) (b : Nat) (σ : Sg) (p1 : Int32) (r : (Nat ⊕ Unit)) (hf : f_X4_needPrice σ p1 = some r) : vx_Met l yX4_needPrice (Cond.code yX4_needPrice cX4_needPrice 2 none :: ALL) ({ frames := 6, cells := 1, slots := 6, locals := 82 }) (PM D t b σ [.ref (b + 0), .int p1]) (QX D t b (Sum.map (fun k => (k, σ)) (fun _ => (none, σ)) r)) (XX D t b (Sum.map (fun k => (k, σ)) (fun _ => (none, σ)) r)) 1 6 (geA b) := by
  refine vx_ofW (cc := cX4_needPrice) (maxL := 2) (ret := none) (by decide) rfl ?_
  intro p e s m args below meth c s₁ B hml htab hv
  obtain ⟨rfl, hW, hE⟩ := hv
  have hx := B.exec
  have hb := B.bytes
  have hr := B.returns
  have hts := atoms_spec (ws := Cond.code yX4_needPrice cX4_needPrice 2 none :: ALL) B.pre
  have hta := fun w h => hts w (List.mem_cons_of_mem _ h)
  have hown : s.vm.findClass RX4 = some m.cls := findClass_of_methodNamed B.named
  have hlocks := B.notSynchronized
  have hS : va_S (geA b) s.heap s.heap [] := va_S.rf
  have hl := lv_entry ([.ref (b + 0), .int p1]) (n := 2) (Nat.le_of_ble_eq_true rfl)
  rw [lg_entry_eq]
  generalize (lg_sl ([.ref (b + 0), .int p1]) ++ List.replicate (2 - (lg_sl ([.ref (b + 0), .int p1])).length) Slot.unset).toArray = ls at hl ⊢
  have hl : lv_has ls 2 [(0, .ref (b + 0)), (1, .int p1)] := hl
  unfold f_X4_needPrice at hf
  refine lv_iload_n hx hb dX4_needPrice_0 rfl (lv_at hl 1 rfl) ?_
  refine lv_iconst (v := 1) hx hb dX4_needPrice_1 (by decide) ?_
  refine lv_icmp_lt (tgt := 11) hx hb dX4_needPrice_2 (by decide) (fun h1 => ?_) (fun h1 => ?_)
  · have hf := ifp h1 hf
    cases hf
    exact mthrowW (k1 := 2) (is := 329) (text := "the price is 1 to 9") (rest := []) hfl fit_2 hx hb hown hta hE hW hS thA_2 thB_2 (by decide +kernel) thC_2 thD_2 thE_2 (hl.1.trans hml.symm) dX4_needPrice_11 dX4_needPrice_14 dX4_needPrice_15 dX4_needPrice_18 dX4_needPrice_21 htab (Nat.le_of_ble_eq_true rfl) (Nat.le_of_ble_eq_true rfl) (Nat.le_of_ble_eq_true rfl) (Nat.le_of_ble_eq_true rfl) hlocks (Nat.le_of_ble_eq_true rfl) (Nat.le_of_ble_eq_true rfl)
  · have hf := ifn h1 hf
    refine lv_iload_n hx hb dX4_needPrice_5 rfl (lv_at hl 1 rfl) ?_
    refine lv_bipush (v := 9) hx hb dX4_needPrice_6 (by decide) ?_
    refine lv_icmp_le (tgt := 22) hx hb dX4_needPrice_8 (by decide) (fun h2 => ?_) (fun h2 => ?_)
    · have hf := ifp h2 hf
      cases hf
      refine vx_ret ?_
      refine W.widen (k := 1) (n := 6) (Nat.le_of_ble_eq_true rfl) (Nat.le_of_ble_eq_true rfl) ?_
      exact W.vret hx hb hr (fun u hu _ => ⟨_, _, rfl, ⟨rfl, by rw [hu]; exact hW⟩, hS.F hu⟩) hS.2.2 dX4_needPrice_22
    · have hf := ifn h2 hf
      cases hf
      exact mthrowW (k1 := 2) (is := 329) (text := "the price is 1 to 9") (rest := []) hfl fit_2 hx hb hown hta hE hW hS thA_2 thB_2 (by decide +kernel) thC_2 thD_2 thE_2 (hl.1.trans hml.symm) dX4_needPrice_11 dX4_needPrice_14 dX4_needPrice_15 dX4_needPrice_18 dX4_needPrice_21 htab (Nat.le_of_ble_eq_true rfl) (Nat.le_of_ble_eq_true rfl) (Nat.le_of_ble_eq_true rfl) (Nat.le_of_ble_eq_true rfl) hlocks (Nat.le_of_ble_eq_true rfl) (Nat.le_of_ble_eq_true rfl)
def f_X4_build (σ : Sg) (p1 : Int32) (p2 : Int32) (p3 : Int32) (p4 : Int32) : Option (Nat ⊕ (Int32 × Sg)) := bt (f_X4_needPitch σ p1) fun y5 => bt (f_X4_needKind σ p2) fun y10 => bt (f_X4_needPrice σ p3) fun y15 => b1 (f_X1_canBuild 1 σ p1 p4) fun y16 => if y16 = 0 then (some (.inl 3)) else (b1 (f_X4_keepRecord σ) fun σ21 => b2 (f_X1_buildStall 1 σ21 p1 p2 p3 p4) fun y22 σ24 => some (.inr (y22, σ24)))
set_option maxHeartbeats 4000000 in
set_option maxRecDepth 100000 in
theorem c_X4_build (l : Launch) (hfl : l.stackTraces = false) (D : va_G) (t : Nat → ClassId) (b : Nat) (σ : Sg) (p1 : Int32) (p2 : Int32) (p3 : Int32) (p4 : Int32) (r : (Nat ⊕ (Int32 × Sg))) (hf : f_X4_build σ p1 p2 p3 p4 = some r) : vx_Met l yX4_build (Cond.code yX4_build cX4_build 5 (some .int) :: ALL) ({ frames := 7, cells := 4, slots := 24, locals := 123 }) (PM D t b σ [.ref (b + 0), .int p1, .int p2, .int p3, .int p4]) (QX D t b (Sum.map (fun k => (k, σ)) (fun y => (some (.int y.1), y.2)) r)) (XX D t b (Sum.map (fun k => (k, σ)) (fun y => (some (.int y.1), y.2)) r)) 4 24 (geA b) := by
  refine vx_ofW (cc := cX4_build) (maxL := 5) (ret := (some .int)) (by decide) rfl ?_
  intro p e s m args below meth c s₁ B hml htab hv
  obtain ⟨rfl, hW, hE⟩ := hv
  have hx := B.exec
  have hb := B.bytes
  have hr := B.returns
  have hts := atoms_spec (ws := Cond.code yX4_build cX4_build 5 (some .int) :: ALL) B.pre
  have hta := fun w h => hts w (List.mem_cons_of_mem _ h)
  have hown : s.vm.findClass RX4 = some m.cls := findClass_of_methodNamed B.named
  have hlocks := B.notSynchronized
  have hS : va_S (geA b) s.heap s.heap [] := va_S.rf
  have hl := lv_entry ([.ref (b + 0), .int p1, .int p2, .int p3, .int p4]) (n := 5) (Nat.le_of_ble_eq_true rfl)
  rw [lg_entry_eq]
  generalize (lg_sl ([.ref (b + 0), .int p1, .int p2, .int p3, .int p4]) ++ List.replicate (5 - (lg_sl ([.ref (b + 0), .int p1, .int p2, .int p3, .int p4])).length) Slot.unset).toArray = ls at hl ⊢
  have hl : lv_has ls 5 [(0, .ref (b + 0)), (1, .int p1), (2, .int p2), (3, .int p3), (4, .int p4)] := hl
  unfold f_X4_build at hf
  refine lv_aload_n hx hb dX4_build_0 rfl (lv_at hl 0 rfl) ?_
  refine lv_iload_n hx hb dX4_build_1 rfl (lv_at hl 1 rfl) ?_
  rcases bt_e hf with ⟨k3, u4, hf⟩ | ⟨y5, u4, hf⟩
  · subst hf
    refine mVXt (k := 0) (q := (0, 0)) (C := RX4) (T := TX4) (N := 8) (ci := 4) (n := 1) (As := [.int p1]) (rest := []) (c_X4_needPitch l hfl D t b σ p1 (.inl k3) u4) sh_0 (by decide) rfl rfl hx hb hml hown hts hE hW hS q303 q305 q0 q34 q306 hy_X4_needPitch ⟨rfl, rfl⟩ ⟨Nat.le_of_ble_eq_true rfl, Nat.le_of_ble_eq_true rfl⟩ rfl rfl hl.1 (Nat.le_of_ble_eq_true rfl) ⟨Nat.le_of_ble_eq_true rfl, Nat.le_of_ble_eq_true rfl⟩ dX4_build_2 htab hlocks ⟨Nat.le_of_ble_eq_true rfl, Nat.le_of_ble_eq_true rfl⟩
  · refine mVXn (k := 0) (q := (0, 0)) (C := RX4) (T := TX4) (N := 8) (ci := 4) (n := 1) (As := [.int p1]) (rest := []) (c_X4_needPitch l hfl D t b σ p1 (.inr y5) u4) sh_0 (by decide) rfl rfl hx hb hml hown hts hE hW hS q303 q305 q0 q34 q306 hy_X4_needPitch ⟨rfl, rfl⟩ ⟨Nat.le_of_ble_eq_true rfl, Nat.le_of_ble_eq_true rfl⟩ rfl rfl hl.1 (Nat.le_of_ble_eq_true rfl) ⟨Nat.le_of_ble_eq_true rfl, Nat.le_of_ble_eq_true rfl⟩ dX4_build_2 (fun H locs hW hS => ?_)
    refine lv_aload_n hx hb dX4_build_5 rfl (lv_at hl 0 rfl) ?_
    refine lv_iload_n hx hb dX4_build_6 rfl (lv_at hl 2 rfl) ?_
    rcases bt_e hf with ⟨k8, u9, hf⟩ | ⟨y10, u9, hf⟩
    · subst hf
      refine mVXt (k := 0) (q := (0, 0)) (C := RX4) (T := TX4) (N := 8) (ci := 4) (n := 1) (As := [.int p2]) (rest := []) (c_X4_needKind l hfl D t b σ p2 (.inl k8) u9) sh_0 (by decide) rfl rfl hx hb hml hown hts hE hW hS q375 q377 q2 q34 q378 hy_X4_needKind ⟨rfl, rfl⟩ ⟨Nat.le_of_ble_eq_true rfl, Nat.le_of_ble_eq_true rfl⟩ rfl rfl hl.1 (Nat.le_of_ble_eq_true rfl) ⟨Nat.le_of_ble_eq_true rfl, Nat.le_of_ble_eq_true rfl⟩ dX4_build_7 htab hlocks ⟨Nat.le_of_ble_eq_true rfl, Nat.le_of_ble_eq_true rfl⟩
    · refine mVXn (k := 0) (q := (0, 0)) (C := RX4) (T := TX4) (N := 8) (ci := 4) (n := 1) (As := [.int p2]) (rest := []) (c_X4_needKind l hfl D t b σ p2 (.inr y10) u9) sh_0 (by decide) rfl rfl hx hb hml hown hts hE hW hS q375 q377 q2 q34 q378 hy_X4_needKind ⟨rfl, rfl⟩ ⟨Nat.le_of_ble_eq_true rfl, Nat.le_of_ble_eq_true rfl⟩ rfl rfl hl.1 (Nat.le_of_ble_eq_true rfl) ⟨Nat.le_of_ble_eq_true rfl, Nat.le_of_ble_eq_true rfl⟩ dX4_build_7 (fun H locs hW hS => ?_)
      refine lv_aload_n hx hb dX4_build_10 rfl (lv_at hl 0 rfl) ?_
      refine lv_iload_n hx hb dX4_build_11 rfl (lv_at hl 3 rfl) ?_
      rcases bt_e hf with ⟨k13, u14, hf⟩ | ⟨y15, u14, hf⟩
      · subst hf
        refine mVXt (k := 0) (q := (0, 0)) (C := RX4) (T := TX4) (N := 8) (ci := 4) (n := 1) (As := [.int p3]) (rest := []) (c_X4_needPrice l hfl D t b σ p3 (.inl k13) u14) sh_0 (by decide) rfl rfl hx hb hml hown hts hE hW hS q380 q382 q3 q34 q383 hy_X4_needPrice ⟨rfl, rfl⟩ ⟨Nat.le_of_ble_eq_true rfl, Nat.le_of_ble_eq_true rfl⟩ rfl rfl hl.1 (Nat.le_of_ble_eq_true rfl) ⟨Nat.le_of_ble_eq_true rfl, Nat.le_of_ble_eq_true rfl⟩ dX4_build_12 htab hlocks ⟨Nat.le_of_ble_eq_true rfl, Nat.le_of_ble_eq_true rfl⟩
      · refine mVXn (k := 0) (q := (0, 0)) (C := RX4) (T := TX4) (N := 8) (ci := 4) (n := 1) (As := [.int p3]) (rest := []) (c_X4_needPrice l hfl D t b σ p3 (.inr y15) u14) sh_0 (by decide) rfl rfl hx hb hml hown hts hE hW hS q380 q382 q3 q34 q383 hy_X4_needPrice ⟨rfl, rfl⟩ ⟨Nat.le_of_ble_eq_true rfl, Nat.le_of_ble_eq_true rfl⟩ rfl rfl hl.1 (Nat.le_of_ble_eq_true rfl) ⟨Nat.le_of_ble_eq_true rfl, Nat.le_of_ble_eq_true rfl⟩ dX4_build_12 (fun H locs hW hS => ?_)
        refine lv_aload_n hx hb dX4_build_15 rfl (lv_at hl 0 rfl) ?_
        refine getP hx hb hta hown hE.1 hW 0 (by decide) q274 rfl dX4_build_16 ?_
        refine lv_iload_n hx hb dX4_build_19 rfl (lv_at hl 1 rfl) ?_
        refine lv_iload hx hb dX4_build_20 (lv_at hl 4 rfl) ?_
        obtain ⟨y16, u17, hf⟩ := b1_e hf
        refine mV (k := 1) (q := (1, 0)) (C := RX1) (T := TX1) (N := 13) (ci := 1) (n := 2) (As := [.int p1, .int p4]) (rest := []) (c_X1_canBuild l D t b 1 σ p1 p4 y16 sh_1 u17) sh_1 (by decide) rfl rfl hx hb hml hown hts hE hW hS q400 q401 q402 q35 q403 hy_X1_canBuild ⟨rfl, rfl⟩ ⟨Nat.le_of_ble_eq_true rfl, Nat.le_of_ble_eq_true rfl⟩ rfl rfl hl.1 (Nat.le_of_ble_eq_true rfl) ⟨Nat.le_of_ble_eq_true rfl, Nat.le_of_ble_eq_true rfl⟩ dX4_build_22 (fun H locs hW hS => ?_)
        refine lv_if_ne (tgt := 38) hx hb dX4_build_25 (by decide) (fun h18 => ?_) (fun h18 => ?_)
        · have hf := ifn h18 hf
          refine lv_aload_n hx hb dX4_build_38 rfl (lv_at hl 0 rfl) ?_
          obtain ⟨σ21, u20, hf⟩ := b1_e hf
          refine mV (k := 0) (q := (0, 0)) (C := RX4) (T := TX4) (N := 8) (ci := 4) (n := 0) (As := []) (rest := []) (c_X4_keepRecord l D t b σ σ21 u20) sh_0 (by decide) rfl rfl hx hb hml hown hts hE hW hS q427 q429 q4 q34 q430 hy_X4_keepRecord ⟨rfl, rfl⟩ ⟨Nat.le_of_ble_eq_true rfl, Nat.le_of_ble_eq_true rfl⟩ rfl rfl hl.1 (Nat.le_of_ble_eq_true rfl) ⟨Nat.le_of_ble_eq_true rfl, Nat.le_of_ble_eq_true rfl⟩ dX4_build_39 (fun H locs hW hS => ?_)
          refine lv_aload_n hx hb dX4_build_42 rfl (lv_at hl 0 rfl) ?_
          refine getP hx hb hta hown hE.1 hW 0 (by decide) q274 rfl dX4_build_43 ?_
          refine lv_iload_n hx hb dX4_build_46 rfl (lv_at hl 1 rfl) ?_
          refine lv_iload_n hx hb dX4_build_47 rfl (lv_at hl 2 rfl) ?_
          refine lv_iload_n hx hb dX4_build_48 rfl (lv_at hl 3 rfl) ?_
          refine lv_iload hx hb dX4_build_49 (lv_at hl 4 rfl) ?_
          obtain ⟨y22, σ24, u23, hf⟩ := b2_e hf
          refine mV (k := 1) (q := (1, 0)) (C := RX1) (T := TX1) (N := 13) (ci := 1) (n := 4) (As := [.int p1, .int p2, .int p3, .int p4]) (rest := []) (c_X1_buildStall l D t b 1 σ21 p1 p2 p3 p4 y22 σ24 sh_1 u23) sh_1 (by decide) rfl rfl hx hb hml hown hts hE hW hS q448 q449 q450 q35 q451 hy_X1_buildStall ⟨rfl, rfl⟩ ⟨Nat.le_of_ble_eq_true rfl, Nat.le_of_ble_eq_true rfl⟩ rfl rfl hl.1 (Nat.le_of_ble_eq_true rfl) ⟨Nat.le_of_ble_eq_true rfl, Nat.le_of_ble_eq_true rfl⟩ dX4_build_51 (fun H locs hW hS => ?_)
          cases hf
          refine vx_ret ?_
          refine W.widen (k := 4) (n := 24) (Nat.le_of_ble_eq_true rfl) (Nat.le_of_ble_eq_true rfl) ?_
          exact W.iret hx hb hr (fun u hu _ => ⟨_, _, rfl, ⟨rfl, by rw [hu]; exact hW⟩, hS.F hu⟩) hS.2.2 dX4_build_54
        · have hf := ifp h18 hf
          cases hf
          exact mthrow (k1 := 3) (is := 60) (text := "the pitch is taken, there are 6 stalls, or coins lack") (rest := []) hfl fit_3 hx hb hown hta hE hW hS thA_3 thB_3 (by decide +kernel) thC_3 thD_3 thE_3 (hl.1.trans hml.symm) dX4_build_28 dX4_build_31 dX4_build_32 dX4_build_34 dX4_build_37 htab (Nat.le_of_ble_eq_true rfl) (Nat.le_of_ble_eq_true rfl) (Nat.le_of_ble_eq_true rfl) (Nat.le_of_ble_eq_true rfl) hlocks (Nat.le_of_ble_eq_true rfl) (Nat.le_of_ble_eq_true rfl)
def f_X4_needStall (σ : Sg) (p1 : Int32) : Option (Nat ⊕ Unit) := b1 (f_X1_hasStall 1 σ p1) fun y1 => if y1 = 0 then (some (.inl 1)) else (some (.inr ()))
set_option maxHeartbeats 4000000 in
set_option maxRecDepth 100000 in
theorem c_X4_needStall (l : Launch) (hfl : l.stackTraces = false) (D : va_G) (t : Nat → ClassId) (b : Nat) (σ : Sg) (p1 : Int32) (r : (Nat ⊕ Unit)) (hf : f_X4_needStall σ p1 = some r) : vx_Met l yX4_needStall (Cond.code yX4_needStall cX4_needStall 2 none :: ALL) ({ frames := 6, cells := 1, slots := 6, locals := 82 }) (PM D t b σ [.ref (b + 0), .int p1]) (QX D t b (Sum.map (fun k => (k, σ)) (fun _ => (none, σ)) r)) (XX D t b (Sum.map (fun k => (k, σ)) (fun _ => (none, σ)) r)) 1 6 (geA b) := by
  refine vx_ofW (cc := cX4_needStall) (maxL := 2) (ret := none) (by decide) rfl ?_
  intro p e s m args below meth c s₁ B hml htab hv
  obtain ⟨rfl, hW, hE⟩ := hv
  have hx := B.exec
  have hb := B.bytes
  have hr := B.returns
  have hts := atoms_spec (ws := Cond.code yX4_needStall cX4_needStall 2 none :: ALL) B.pre
  have hta := fun w h => hts w (List.mem_cons_of_mem _ h)
  have hown : s.vm.findClass RX4 = some m.cls := findClass_of_methodNamed B.named
  have hlocks := B.notSynchronized
  have hS : va_S (geA b) s.heap s.heap [] := va_S.rf
  have hl := lv_entry ([.ref (b + 0), .int p1]) (n := 2) (Nat.le_of_ble_eq_true rfl)
  rw [lg_entry_eq]
  generalize (lg_sl ([.ref (b + 0), .int p1]) ++ List.replicate (2 - (lg_sl ([.ref (b + 0), .int p1])).length) Slot.unset).toArray = ls at hl ⊢
  have hl : lv_has ls 2 [(0, .ref (b + 0)), (1, .int p1)] := hl
  unfold f_X4_needStall at hf
  refine lv_aload_n hx hb dX4_needStall_0 rfl (lv_at hl 0 rfl) ?_
  refine getP hx hb hta hown hE.1 hW 0 (by decide) q274 rfl dX4_needStall_1 ?_
  refine lv_iload_n hx hb dX4_needStall_4 rfl (lv_at hl 1 rfl) ?_
  obtain ⟨y1, u2, hf⟩ := b1_e hf
  refine mV (k := 1) (q := (1, 0)) (C := RX1) (T := TX1) (N := 13) (ci := 1) (n := 1) (As := [.int p1]) (rest := []) (c_X1_hasStall l D t b 1 σ p1 y1 sh_1 u2) sh_1 (by decide) rfl rfl hx hb hml hown hts hE hW hS q478 q479 q480 q35 q481 hy_X1_hasStall ⟨rfl, rfl⟩ ⟨Nat.le_of_ble_eq_true rfl, Nat.le_of_ble_eq_true rfl⟩ rfl rfl hl.1 (Nat.le_of_ble_eq_true rfl) ⟨Nat.le_of_ble_eq_true rfl, Nat.le_of_ble_eq_true rfl⟩ dX4_needStall_5 (fun H locs hW hS => ?_)
  refine lv_if_ne (tgt := 22) hx hb dX4_needStall_8 (by decide) (fun h3 => ?_) (fun h3 => ?_)
  · have hf := ifn h3 hf
    cases hf
    refine vx_ret ?_
    refine W.widen (k := 1) (n := 6) (Nat.le_of_ble_eq_true rfl) (Nat.le_of_ble_eq_true rfl) ?_
    exact W.vret hx hb hr (fun u hu _ => ⟨_, _, rfl, ⟨rfl, by rw [hu]; exact hW⟩, hS.F hu⟩) hS.2.2 dX4_needStall_22
  · have hf := ifp h3 hf
    cases hf
    exact mthrowW (k1 := 1) (is := 323) (text := "there is no such stall") (rest := []) hfl fit_1 hx hb hown hta hE hW hS thA_1 thB_1 (by decide +kernel) thC_1 thD_1 thE_1 (hl.1.trans hml.symm) dX4_needStall_11 dX4_needStall_14 dX4_needStall_15 dX4_needStall_18 dX4_needStall_21 htab (Nat.le_of_ble_eq_true rfl) (Nat.le_of_ble_eq_true rfl) (Nat.le_of_ble_eq_true rfl) (Nat.le_of_ble_eq_true rfl) hlocks (Nat.le_of_ble_eq_true rfl) (Nat.le_of_ble_eq_true rfl)
def f_X4_pullDown (σ : Sg) (p1 : Int32) : Option (Nat ⊕ (Int32 × Sg)) := bt (f_X4_needStall σ p1) fun y5 => b1 (f_X4_keepRecord σ) fun σ8 => b2 (f_X1_emptyPurse 1 σ8 p1) fun y9 σ11 => b1 (f_X1_removeStall 1 σ11 p1) fun σ14 => some (.inr (y9, σ14))
set_option maxHeartbeats 4000000 in
set_option maxRecDepth 100000 in
theorem c_X4_pullDown (l : Launch) (hfl : l.stackTraces = false) (D : va_G) (t : Nat → ClassId) (b : Nat) (σ : Sg) (p1 : Int32) (r : (Nat ⊕ (Int32 × Sg))) (hf : f_X4_pullDown σ p1 = some r) : vx_Met l yX4_pullDown (Cond.code yX4_pullDown cX4_pullDown 3 (some .int) :: ALL) ({ frames := 7, cells := 1, slots := 6, locals := 123 }) (PM D t b σ [.ref (b + 0), .int p1]) (QX D t b (Sum.map (fun k => (k, σ)) (fun y => (some (.int y.1), y.2)) r)) (XX D t b (Sum.map (fun k => (k, σ)) (fun y => (some (.int y.1), y.2)) r)) 1 6 (geA b) := by
  refine vx_ofW (cc := cX4_pullDown) (maxL := 3) (ret := (some .int)) (by decide) rfl ?_
  intro p e s m args below meth c s₁ B hml htab hv
  obtain ⟨rfl, hW, hE⟩ := hv
  have hx := B.exec
  have hb := B.bytes
  have hr := B.returns
  have hts := atoms_spec (ws := Cond.code yX4_pullDown cX4_pullDown 3 (some .int) :: ALL) B.pre
  have hta := fun w h => hts w (List.mem_cons_of_mem _ h)
  have hown : s.vm.findClass RX4 = some m.cls := findClass_of_methodNamed B.named
  have hlocks := B.notSynchronized
  have hS : va_S (geA b) s.heap s.heap [] := va_S.rf
  have hl := lv_entry ([.ref (b + 0), .int p1]) (n := 3) (Nat.le_of_ble_eq_true rfl)
  rw [lg_entry_eq]
  generalize (lg_sl ([.ref (b + 0), .int p1]) ++ List.replicate (3 - (lg_sl ([.ref (b + 0), .int p1])).length) Slot.unset).toArray = ls at hl ⊢
  have hl : lv_has ls 3 [(0, .ref (b + 0)), (1, .int p1)] := hl
  unfold f_X4_pullDown at hf
  refine lv_aload_n hx hb dX4_pullDown_0 rfl (lv_at hl 0 rfl) ?_
  refine lv_iload_n hx hb dX4_pullDown_1 rfl (lv_at hl 1 rfl) ?_
  rcases bt_e hf with ⟨k3, u4, hf⟩ | ⟨y5, u4, hf⟩
  · subst hf
    refine mVXt (k := 0) (q := (0, 0)) (C := RX4) (T := TX4) (N := 8) (ci := 4) (n := 1) (As := [.int p1]) (rest := []) (c_X4_needStall l hfl D t b σ p1 (.inl k3) u4) sh_0 (by decide) rfl rfl hx hb hml hown hts hE hW hS q474 q476 q6 q34 q477 hy_X4_needStall ⟨rfl, rfl⟩ ⟨Nat.le_of_ble_eq_true rfl, Nat.le_of_ble_eq_true rfl⟩ rfl rfl hl.1 (Nat.le_of_ble_eq_true rfl) ⟨Nat.le_of_ble_eq_true rfl, Nat.le_of_ble_eq_true rfl⟩ dX4_pullDown_2 htab hlocks ⟨Nat.le_of_ble_eq_true rfl, Nat.le_of_ble_eq_true rfl⟩
  · refine mVXn (k := 0) (q := (0, 0)) (C := RX4) (T := TX4) (N := 8) (ci := 4) (n := 1) (As := [.int p1]) (rest := []) (c_X4_needStall l hfl D t b σ p1 (.inr y5) u4) sh_0 (by decide) rfl rfl hx hb hml hown hts hE hW hS q474 q476 q6 q34 q477 hy_X4_needStall ⟨rfl, rfl⟩ ⟨Nat.le_of_ble_eq_true rfl, Nat.le_of_ble_eq_true rfl⟩ rfl rfl hl.1 (Nat.le_of_ble_eq_true rfl) ⟨Nat.le_of_ble_eq_true rfl, Nat.le_of_ble_eq_true rfl⟩ dX4_pullDown_2 (fun H locs hW hS => ?_)
    refine lv_aload_n hx hb dX4_pullDown_5 rfl (lv_at hl 0 rfl) ?_
    obtain ⟨σ8, u7, hf⟩ := b1_e hf
    refine mV (k := 0) (q := (0, 0)) (C := RX4) (T := TX4) (N := 8) (ci := 4) (n := 0) (As := []) (rest := []) (c_X4_keepRecord l D t b σ σ8 u7) sh_0 (by decide) rfl rfl hx hb hml hown hts hE hW hS q427 q429 q4 q34 q430 hy_X4_keepRecord ⟨rfl, rfl⟩ ⟨Nat.le_of_ble_eq_true rfl, Nat.le_of_ble_eq_true rfl⟩ rfl rfl hl.1 (Nat.le_of_ble_eq_true rfl) ⟨Nat.le_of_ble_eq_true rfl, Nat.le_of_ble_eq_true rfl⟩ dX4_pullDown_6 (fun H locs hW hS => ?_)
    refine lv_aload_n hx hb dX4_pullDown_9 rfl (lv_at hl 0 rfl) ?_
    refine getP hx hb hta hown hE.1 hW 0 (by decide) q274 rfl dX4_pullDown_10 ?_
    refine lv_iload_n hx hb dX4_pullDown_13 rfl (lv_at hl 1 rfl) ?_
    obtain ⟨y9, σ11, u10, hf⟩ := b2_e hf
    refine mV (k := 1) (q := (1, 0)) (C := RX1) (T := TX1) (N := 13) (ci := 1) (n := 1) (As := [.int p1]) (rest := []) (c_X1_emptyPurse l D t b 1 σ8 p1 y9 σ11 sh_1 u10) sh_1 (by decide) rfl rfl hx hb hml hown hts hE hW hS q586 q587 q588 q35 q589 hy_X1_emptyPurse ⟨rfl, rfl⟩ ⟨Nat.le_of_ble_eq_true rfl, Nat.le_of_ble_eq_true rfl⟩ rfl rfl hl.1 (Nat.le_of_ble_eq_true rfl) ⟨Nat.le_of_ble_eq_true rfl, Nat.le_of_ble_eq_true rfl⟩ dX4_pullDown_14 (fun H locs hW hS => ?_)
    refine lv_istore_n (lv' := [(2, .int y9), (0, .ref (b + 0)), (1, .int p1)]) hx hb dX4_pullDown_17 rfl hl (by decide) rfl (fun ls hl => ?_)
    refine lv_aload_n hx hb dX4_pullDown_18 rfl (lv_at hl 1 rfl) ?_
    refine getP hx hb hta hown hE.1 hW 0 (by decide) q274 rfl dX4_pullDown_19 ?_
    refine lv_iload_n hx hb dX4_pullDown_22 rfl (lv_at hl 2 rfl) ?_
    obtain ⟨σ14, u13, hf⟩ := b1_e hf
    refine mV (k := 1) (q := (1, 0)) (C := RX1) (T := TX1) (N := 13) (ci := 1) (n := 1) (As := [.int p1]) (rest := []) (c_X1_removeStall l D t b 1 σ11 p1 σ14 sh_1 u13) sh_1 (by decide) rfl rfl hx hb hml hown hts hE hW hS q590 q591 q592 q35 q593 hy_X1_removeStall ⟨rfl, rfl⟩ ⟨Nat.le_of_ble_eq_true rfl, Nat.le_of_ble_eq_true rfl⟩ rfl rfl hl.1 (Nat.le_of_ble_eq_true rfl) ⟨Nat.le_of_ble_eq_true rfl, Nat.le_of_ble_eq_true rfl⟩ dX4_pullDown_23 (fun H locs hW hS => ?_)
    refine lv_iload_n hx hb dX4_pullDown_26 rfl (lv_at hl 0 rfl) ?_
    cases hf
    refine vx_ret ?_
    refine W.widen (k := 1) (n := 6) (Nat.le_of_ble_eq_true rfl) (Nat.le_of_ble_eq_true rfl) ?_
    exact W.iret hx hb hr (fun u hu _ => ⟨_, _, rfl, ⟨rfl, by rw [hu]; exact hW⟩, hS.F hu⟩) hS.2.2 dX4_pullDown_27
def f_X4_stallNumbered (σ : Sg) (p1 : Int32) : Option (Nat ⊕ Nat) := bt (f_X4_needStall σ p1) fun y5 => gd p1 7 (some (.inr (sk (1 + 3) p1)))
set_option maxHeartbeats 4000000 in
set_option maxRecDepth 100000 in
theorem c_X4_stallNumbered (l : Launch) (hfl : l.stackTraces = false) (D : va_G) (t : Nat → ClassId) (b : Nat) (σ : Sg) (p1 : Int32) (r : (Nat ⊕ Nat)) (hf : f_X4_stallNumbered σ p1 = some r) : vx_Met l yX4_stallNumbered (Cond.code yX4_stallNumbered cX4_stallNumbered 2 (some (.object "PrizePurses$Stall")) :: ALL) ({ frames := 7, cells := 1, slots := 6, locals := 103 }) (PM D t b σ [.ref (b + 0), .int p1]) (QX D t b (Sum.map (fun k => (k, σ)) (fun y => (some (.ref (b + y)), σ)) r)) (XX D t b (Sum.map (fun k => (k, σ)) (fun y => (some (.ref (b + y)), σ)) r)) 1 6 (geA b) := by
  refine vx_ofW (cc := cX4_stallNumbered) (maxL := 2) (ret := (some (.object "PrizePurses$Stall"))) (by decide) rfl ?_
  intro p e s m args below meth c s₁ B hml htab hv
  obtain ⟨rfl, hW, hE⟩ := hv
  have hx := B.exec
  have hb := B.bytes
  have hr := B.returns
  have hts := atoms_spec (ws := Cond.code yX4_stallNumbered cX4_stallNumbered 2 (some (.object "PrizePurses$Stall")) :: ALL) B.pre
  have hta := fun w h => hts w (List.mem_cons_of_mem _ h)
  have hown : s.vm.findClass RX4 = some m.cls := findClass_of_methodNamed B.named
  have hlocks := B.notSynchronized
  have hS : va_S (geA b) s.heap s.heap [] := va_S.rf
  have hl := lv_entry ([.ref (b + 0), .int p1]) (n := 2) (Nat.le_of_ble_eq_true rfl)
  rw [lg_entry_eq]
  generalize (lg_sl ([.ref (b + 0), .int p1]) ++ List.replicate (2 - (lg_sl ([.ref (b + 0), .int p1])).length) Slot.unset).toArray = ls at hl ⊢
  have hl : lv_has ls 2 [(0, .ref (b + 0)), (1, .int p1)] := hl
  unfold f_X4_stallNumbered at hf
  refine lv_aload_n hx hb dX4_stallNumbered_0 rfl (lv_at hl 0 rfl) ?_
  refine lv_iload_n hx hb dX4_stallNumbered_1 rfl (lv_at hl 1 rfl) ?_
  rcases bt_e hf with ⟨k3, u4, hf⟩ | ⟨y5, u4, hf⟩
  · subst hf
    refine mVXt (k := 0) (q := (0, 0)) (C := RX4) (T := TX4) (N := 8) (ci := 4) (n := 1) (As := [.int p1]) (rest := []) (c_X4_needStall l hfl D t b σ p1 (.inl k3) u4) sh_0 (by decide) rfl rfl hx hb hml hown hts hE hW hS q474 q476 q6 q34 q477 hy_X4_needStall ⟨rfl, rfl⟩ ⟨Nat.le_of_ble_eq_true rfl, Nat.le_of_ble_eq_true rfl⟩ rfl rfl hl.1 (Nat.le_of_ble_eq_true rfl) ⟨Nat.le_of_ble_eq_true rfl, Nat.le_of_ble_eq_true rfl⟩ dX4_stallNumbered_2 htab hlocks ⟨Nat.le_of_ble_eq_true rfl, Nat.le_of_ble_eq_true rfl⟩
  · refine mVXn (k := 0) (q := (0, 0)) (C := RX4) (T := TX4) (N := 8) (ci := 4) (n := 1) (As := [.int p1]) (rest := []) (c_X4_needStall l hfl D t b σ p1 (.inr y5) u4) sh_0 (by decide) rfl rfl hx hb hml hown hts hE hW hS q474 q476 q6 q34 q477 hy_X4_needStall ⟨rfl, rfl⟩ ⟨Nat.le_of_ble_eq_true rfl, Nat.le_of_ble_eq_true rfl⟩ rfl rfl hl.1 (Nat.le_of_ble_eq_true rfl) ⟨Nat.le_of_ble_eq_true rfl, Nat.le_of_ble_eq_true rfl⟩ dX4_stallNumbered_2 (fun H locs hW hS => ?_)
    refine lv_aload_n hx hb dX4_stallNumbered_5 rfl (lv_at hl 0 rfl) ?_
    refine getP hx hb hta hown hE.1 hW 0 (by decide) q274 rfl dX4_stallNumbered_6 ?_
    refine getF hx hb hta hown hE.1 hW sh_1 11 (by decide) q193 rfl dX4_stallNumbered_9 ?_
    refine lv_iload_n hx hb dX4_stallNumbered_12 rfl (lv_at hl 1 rfl) ?_
    obtain ⟨g6, hf⟩ := gd_e hf
    refine sald hx hb hE.1 hW (shF_3 sh_1) g6 dX4_stallNumbered_13 ?_
    cases hf
    refine vx_ret ?_
    refine W.widen (k := 1) (n := 6) (Nat.le_of_ble_eq_true rfl) (Nat.le_of_ble_eq_true rfl) ?_
    exact W.aret hx hb hr (Or.inl ⟨_, rfl⟩) (Or.inr ⟨_, rfl⟩) (fun u hu _ => ⟨_, _, rfl, ⟨rfl, by rw [hu]; exact hW⟩, hS.F hu⟩) hS.2.2 dX4_stallNumbered_14
def f_X4_setPrice (σ : Sg) (p1 : Int32) (p2 : Int32) : Option (Nat ⊕ (Int32 × Sg)) := bt (f_X4_stallNumbered σ p1) fun y5 => sg y5 3 (bt (f_X4_needPrice σ p2) fun y11 => b1 (f_X4_keepRecord σ) fun σ14 => st (u2 σ14 y5 2 p2) fun σ15 => some (.inr ((σ14 y5 2), σ15)))
set_option maxHeartbeats 4000000 in
set_option maxRecDepth 100000 in
theorem c_X4_setPrice (l : Launch) (hfl : l.stackTraces = false) (D : va_G) (t : Nat → ClassId) (b : Nat) (σ : Sg) (p1 : Int32) (p2 : Int32) (r : (Nat ⊕ (Int32 × Sg))) (hf : f_X4_setPrice σ p1 p2 = some r) : vx_Met l yX4_setPrice (Cond.code yX4_setPrice cX4_setPrice 5 (some .int) :: ALL) ({ frames := 8, cells := 2, slots := 12, locals := 124 }) (PM D t b σ [.ref (b + 0), .int p1, .int p2]) (QX D t b (Sum.map (fun k => (k, σ)) (fun y => (some (.int y.1), y.2)) r)) (XX D t b (Sum.map (fun k => (k, σ)) (fun y => (some (.int y.1), y.2)) r)) 2 12 (geA b) := by
  refine vx_ofW (cc := cX4_setPrice) (maxL := 5) (ret := (some .int)) (by decide) rfl ?_
  intro p e s m args below meth c s₁ B hml htab hv
  obtain ⟨rfl, hW, hE⟩ := hv
  have hx := B.exec
  have hb := B.bytes
  have hr := B.returns
  have hts := atoms_spec (ws := Cond.code yX4_setPrice cX4_setPrice 5 (some .int) :: ALL) B.pre
  have hta := fun w h => hts w (List.mem_cons_of_mem _ h)
  have hown : s.vm.findClass RX4 = some m.cls := findClass_of_methodNamed B.named
  have hlocks := B.notSynchronized
  have hS : va_S (geA b) s.heap s.heap [] := va_S.rf
  have hl := lv_entry ([.ref (b + 0), .int p1, .int p2]) (n := 5) (Nat.le_of_ble_eq_true rfl)
  rw [lg_entry_eq]
  generalize (lg_sl ([.ref (b + 0), .int p1, .int p2]) ++ List.replicate (5 - (lg_sl ([.ref (b + 0), .int p1, .int p2])).length) Slot.unset).toArray = ls at hl ⊢
  have hl : lv_has ls 5 [(0, .ref (b + 0)), (1, .int p1), (2, .int p2)] := hl
  unfold f_X4_setPrice at hf
  refine lv_aload_n hx hb dX4_setPrice_0 rfl (lv_at hl 0 rfl) ?_
  refine lv_iload_n hx hb dX4_setPrice_1 rfl (lv_at hl 1 rfl) ?_
  rcases bt_e hf with ⟨k3, u4, hf⟩ | ⟨y5, u4, hf⟩
  · subst hf
    refine mVXt (k := 0) (q := (0, 0)) (C := RX4) (T := TX4) (N := 8) (ci := 4) (n := 1) (As := [.int p1]) (rest := []) (c_X4_stallNumbered l hfl D t b σ p1 (.inl k3) u4) sh_0 (by decide) rfl rfl hx hb hml hown hts hE hW hS q470 q472 q5 q34 q473 hy_X4_stallNumbered ⟨rfl, rfl⟩ ⟨Nat.le_of_ble_eq_true rfl, Nat.le_of_ble_eq_true rfl⟩ rfl rfl hl.1 (Nat.le_of_ble_eq_true rfl) ⟨Nat.le_of_ble_eq_true rfl, Nat.le_of_ble_eq_true rfl⟩ dX4_setPrice_2 htab hlocks ⟨Nat.le_of_ble_eq_true rfl, Nat.le_of_ble_eq_true rfl⟩
  · refine mVXn (k := 0) (q := (0, 0)) (C := RX4) (T := TX4) (N := 8) (ci := 4) (n := 1) (As := [.int p1]) (rest := []) (c_X4_stallNumbered l hfl D t b σ p1 (.inr y5) u4) sh_0 (by decide) rfl rfl hx hb hml hown hts hE hW hS q470 q472 q5 q34 q473 hy_X4_stallNumbered ⟨rfl, rfl⟩ ⟨Nat.le_of_ble_eq_true rfl, Nat.le_of_ble_eq_true rfl⟩ rfl rfl hl.1 (Nat.le_of_ble_eq_true rfl) ⟨Nat.le_of_ble_eq_true rfl, Nat.le_of_ble_eq_true rfl⟩ dX4_setPrice_2 (fun H locs hW hS => ?_)
    obtain ⟨g6, hf⟩ := sg_e hf
    refine lv_astore_n (lv' := [(3, .ref (b + y5)), (0, .ref (b + 0)), (1, .int p1), (2, .int p2)]) hx hb dX4_setPrice_5 rfl hl (by decide) rfl (fun ls hl => ?_)
    refine lv_aload_n hx hb dX4_setPrice_6 rfl (lv_at hl 1 rfl) ?_
    refine lv_iload_n hx hb dX4_setPrice_7 rfl (lv_at hl 3 rfl) ?_
    rcases bt_e hf with ⟨k9, u10, hf⟩ | ⟨y11, u10, hf⟩
    · subst hf
      refine mVXt (k := 0) (q := (0, 0)) (C := RX4) (T := TX4) (N := 8) (ci := 4) (n := 1) (As := [.int p2]) (rest := []) (c_X4_needPrice l hfl D t b σ p2 (.inl k9) u10) sh_0 (by decide) rfl rfl hx hb hml hown hts hE hW hS q380 q382 q3 q34 q383 hy_X4_needPrice ⟨rfl, rfl⟩ ⟨Nat.le_of_ble_eq_true rfl, Nat.le_of_ble_eq_true rfl⟩ rfl rfl hl.1 (Nat.le_of_ble_eq_true rfl) ⟨Nat.le_of_ble_eq_true rfl, Nat.le_of_ble_eq_true rfl⟩ dX4_setPrice_8 htab hlocks ⟨Nat.le_of_ble_eq_true rfl, Nat.le_of_ble_eq_true rfl⟩
    · refine mVXn (k := 0) (q := (0, 0)) (C := RX4) (T := TX4) (N := 8) (ci := 4) (n := 1) (As := [.int p2]) (rest := []) (c_X4_needPrice l hfl D t b σ p2 (.inr y11) u10) sh_0 (by decide) rfl rfl hx hb hml hown hts hE hW hS q380 q382 q3 q34 q383 hy_X4_needPrice ⟨rfl, rfl⟩ ⟨Nat.le_of_ble_eq_true rfl, Nat.le_of_ble_eq_true rfl⟩ rfl rfl hl.1 (Nat.le_of_ble_eq_true rfl) ⟨Nat.le_of_ble_eq_true rfl, Nat.le_of_ble_eq_true rfl⟩ dX4_setPrice_8 (fun H locs hW hS => ?_)
      refine lv_aload_n hx hb dX4_setPrice_11 rfl (lv_at hl 1 rfl) ?_
      obtain ⟨σ14, u13, hf⟩ := b1_e hf
      refine mV (k := 0) (q := (0, 0)) (C := RX4) (T := TX4) (N := 8) (ci := 4) (n := 0) (As := []) (rest := []) (c_X4_keepRecord l D t b σ σ14 u13) sh_0 (by decide) rfl rfl hx hb hml hown hts hE hW hS q427 q429 q4 q34 q430 hy_X4_keepRecord ⟨rfl, rfl⟩ ⟨Nat.le_of_ble_eq_true rfl, Nat.le_of_ble_eq_true rfl⟩ rfl rfl hl.1 (Nat.le_of_ble_eq_true rfl) ⟨Nat.le_of_ble_eq_true rfl, Nat.le_of_ble_eq_true rfl⟩ dX4_setPrice_12 (fun H locs hW hS => ?_)
      refine lv_aload_n hx hb dX4_setPrice_15 rfl (lv_at hl 0 rfl) ?_
      refine getS hx hb hta hown hE.1 hW g6 2 (by decide) q127 rfl dX4_setPrice_16 ?_
      refine lv_istore (lv' := [(4, .int (σ14 y5 2)), (3, .ref (b + y5)), (0, .ref (b + 0)), (1, .int p1), (2, .int p2)]) hx hb dX4_setPrice_19 hl (by decide) rfl (fun ls hl => ?_)
      refine lv_aload_n hx hb dX4_setPrice_21 rfl (lv_at hl 1 rfl) ?_
      refine lv_iload_n hx hb dX4_setPrice_22 rfl (lv_at hl 4 rfl) ?_
      refine putX (k := y5) (q := (3, 0)) (ci := 3) (x := p2) inA3 tyX3_ok nmX3 rfl (by decide) rfl hx hb hta hown hE.1 hW hS g6 2 (by decide) q127 rfl rfl rfl (Nat.le_of_ble_eq_true rfl) rfl dX4_setPrice_23 (fun H locs hW hS => ?_)
      obtain ⟨σ15, e16, hf⟩ := st_e hf
      rw [e16] at hW
      refine lv_iload hx hb dX4_setPrice_26 (lv_at hl 0 rfl) ?_
      cases hf
      refine vx_ret ?_
      refine W.widen (k := 2) (n := 12) (Nat.le_of_ble_eq_true rfl) (Nat.le_of_ble_eq_true rfl) ?_
      exact W.iret hx hb hr (fun u hu _ => ⟨_, _, rfl, ⟨rfl, by rw [hu]; exact hW⟩, hS.F hu⟩) hS.2.2 dX4_setPrice_28
def f_X4_turnStall (σ : Sg) (p1 : Int32) : Option (Nat ⊕ (Int32 × Sg)) := bt (f_X4_stallNumbered σ p1) fun y5 => sg y5 3 (b1 (f_X4_keepRecord σ) fun σ9 => if (σ9 y5 4) = 0 then (st (u2 σ9 y5 4 1) fun σ11 => gd (σ11 y5 4) 2 (some (.inr ((σ11 y5 4), σ11)))) else (st (u2 σ9 y5 4 0) fun σ14 => gd (σ14 y5 4) 2 (some (.inr ((σ14 y5 4), σ14)))))
set_option maxHeartbeats 4000000 in
set_option maxRecDepth 100000 in
theorem c_X4_turnStall (l : Launch) (hfl : l.stackTraces = false) (D : va_G) (t : Nat → ClassId) (b : Nat) (σ : Sg) (p1 : Int32) (r : (Nat ⊕ (Int32 × Sg))) (hf : f_X4_turnStall σ p1 = some r) : vx_Met l yX4_turnStall (Cond.code yX4_turnStall cX4_turnStall 3 (some .boolean) :: ALL) ({ frames := 8, cells := 1, slots := 6, locals := 124 }) (PM D t b σ [.ref (b + 0), .int p1]) (QX D t b (Sum.map (fun k => (k, σ)) (fun y => (some (.int y.1), y.2)) r)) (XX D t b (Sum.map (fun k => (k, σ)) (fun y => (some (.int y.1), y.2)) r)) 1 6 (geA b) := by
  refine vx_ofW (cc := cX4_turnStall) (maxL := 3) (ret := (some .boolean)) (by decide) rfl ?_
  intro p e s m args below meth c s₁ B hml htab hv
  obtain ⟨rfl, hW, hE⟩ := hv
  have hx := B.exec
  have hb := B.bytes
  have hr := B.returns
  have hts := atoms_spec (ws := Cond.code yX4_turnStall cX4_turnStall 3 (some .boolean) :: ALL) B.pre
  have hta := fun w h => hts w (List.mem_cons_of_mem _ h)
  have hown : s.vm.findClass RX4 = some m.cls := findClass_of_methodNamed B.named
  have hlocks := B.notSynchronized
  have hS : va_S (geA b) s.heap s.heap [] := va_S.rf
  have hl := lv_entry ([.ref (b + 0), .int p1]) (n := 3) (Nat.le_of_ble_eq_true rfl)
  rw [lg_entry_eq]
  generalize (lg_sl ([.ref (b + 0), .int p1]) ++ List.replicate (3 - (lg_sl ([.ref (b + 0), .int p1])).length) Slot.unset).toArray = ls at hl ⊢
  have hl : lv_has ls 3 [(0, .ref (b + 0)), (1, .int p1)] := hl
  unfold f_X4_turnStall at hf
  refine lv_aload_n hx hb dX4_turnStall_0 rfl (lv_at hl 0 rfl) ?_
  refine lv_iload_n hx hb dX4_turnStall_1 rfl (lv_at hl 1 rfl) ?_
  rcases bt_e hf with ⟨k3, u4, hf⟩ | ⟨y5, u4, hf⟩
  · subst hf
    refine mVXt (k := 0) (q := (0, 0)) (C := RX4) (T := TX4) (N := 8) (ci := 4) (n := 1) (As := [.int p1]) (rest := []) (c_X4_stallNumbered l hfl D t b σ p1 (.inl k3) u4) sh_0 (by decide) rfl rfl hx hb hml hown hts hE hW hS q470 q472 q5 q34 q473 hy_X4_stallNumbered ⟨rfl, rfl⟩ ⟨Nat.le_of_ble_eq_true rfl, Nat.le_of_ble_eq_true rfl⟩ rfl rfl hl.1 (Nat.le_of_ble_eq_true rfl) ⟨Nat.le_of_ble_eq_true rfl, Nat.le_of_ble_eq_true rfl⟩ dX4_turnStall_2 htab hlocks ⟨Nat.le_of_ble_eq_true rfl, Nat.le_of_ble_eq_true rfl⟩
  · refine mVXn (k := 0) (q := (0, 0)) (C := RX4) (T := TX4) (N := 8) (ci := 4) (n := 1) (As := [.int p1]) (rest := []) (c_X4_stallNumbered l hfl D t b σ p1 (.inr y5) u4) sh_0 (by decide) rfl rfl hx hb hml hown hts hE hW hS q470 q472 q5 q34 q473 hy_X4_stallNumbered ⟨rfl, rfl⟩ ⟨Nat.le_of_ble_eq_true rfl, Nat.le_of_ble_eq_true rfl⟩ rfl rfl hl.1 (Nat.le_of_ble_eq_true rfl) ⟨Nat.le_of_ble_eq_true rfl, Nat.le_of_ble_eq_true rfl⟩ dX4_turnStall_2 (fun H locs hW hS => ?_)
    obtain ⟨g6, hf⟩ := sg_e hf
    refine lv_astore_n (lv' := [(2, .ref (b + y5)), (0, .ref (b + 0)), (1, .int p1)]) hx hb dX4_turnStall_5 rfl hl (by decide) rfl (fun ls hl => ?_)
    refine lv_aload_n hx hb dX4_turnStall_6 rfl (lv_at hl 1 rfl) ?_
    obtain ⟨σ9, u8, hf⟩ := b1_e hf
    refine mV (k := 0) (q := (0, 0)) (C := RX4) (T := TX4) (N := 8) (ci := 4) (n := 0) (As := []) (rest := []) (c_X4_keepRecord l D t b σ σ9 u8) sh_0 (by decide) rfl rfl hx hb hml hown hts hE hW hS q427 q429 q4 q34 q430 hy_X4_keepRecord ⟨rfl, rfl⟩ ⟨Nat.le_of_ble_eq_true rfl, Nat.le_of_ble_eq_true rfl⟩ rfl rfl hl.1 (Nat.le_of_ble_eq_true rfl) ⟨Nat.le_of_ble_eq_true rfl, Nat.le_of_ble_eq_true rfl⟩ dX4_turnStall_7 (fun H locs hW hS => ?_)
    refine lv_aload_n hx hb dX4_turnStall_10 rfl (lv_at hl 0 rfl) ?_
    refine lv_aload_n hx hb dX4_turnStall_11 rfl (lv_at hl 0 rfl) ?_
    refine getS hx hb hta hown hE.1 hW g6 4 (by decide) q133 rfl dX4_turnStall_12 ?_
    refine lv_if_ne (tgt := 22) hx hb dX4_turnStall_15 (by decide) (fun h10 => ?_) (fun h10 => ?_)
    · have hf := ifn h10 hf
      refine lv_iconst (v := 0) hx hb dX4_turnStall_22 (by decide) ?_
      refine putX (k := y5) (q := (3, 0)) (ci := 3) (x := 0) inA3 tyX3_ok nmX3 rfl (by decide) rfl hx hb hta hown hE.1 hW hS g6 4 (by decide) q133 rfl (by decide) (by decide) (Nat.le_of_ble_eq_true rfl) rfl dX4_turnStall_23 (fun H locs hW hS => ?_)
      obtain ⟨σ14, e15, hf⟩ := st_e hf
      rw [e15] at hW
      refine lv_aload_n hx hb dX4_turnStall_26 rfl (lv_at hl 0 rfl) ?_
      refine getS hx hb hta hown hE.1 hW g6 4 (by decide) q133 rfl dX4_turnStall_27 ?_
      obtain ⟨g16, hf⟩ := gd_e hf
      cases hf
      refine vx_ret ?_
      refine W.widen (k := 1) (n := 6) (Nat.le_of_ble_eq_true rfl) (Nat.le_of_ble_eq_true rfl) ?_
      exact W.zret (ty := .boolean) hx hb hr (nar_bool g16).1 (fun u hu _ => ⟨_, _, rfl, ⟨rfl, by rw [hu]; exact hW⟩, hS.F hu⟩) hS.2.2 dX4_turnStall_30
    · have hf := ifp h10 hf
      refine lv_iconst (v := 1) hx hb dX4_turnStall_18 (by decide) ?_
      refine lv_goto (tgt := 23) hx hb dX4_turnStall_19 (by decide) ?_
      refine putX (k := y5) (q := (3, 0)) (ci := 3) (x := 1) inA3 tyX3_ok nmX3 rfl (by decide) rfl hx hb hta hown hE.1 hW hS g6 4 (by decide) q133 rfl (by decide) (by decide) (Nat.le_of_ble_eq_true rfl) rfl dX4_turnStall_23 (fun H locs hW hS => ?_)
      obtain ⟨σ11, e12, hf⟩ := st_e hf
      rw [e12] at hW
      refine lv_aload_n hx hb dX4_turnStall_26 rfl (lv_at hl 0 rfl) ?_
      refine getS hx hb hta hown hE.1 hW g6 4 (by decide) q133 rfl dX4_turnStall_27 ?_
      obtain ⟨g13, hf⟩ := gd_e hf
      cases hf
      refine vx_ret ?_
      refine W.widen (k := 1) (n := 6) (Nat.le_of_ble_eq_true rfl) (Nat.le_of_ble_eq_true rfl) ?_
      exact W.zret (ty := .boolean) hx hb hr (nar_bool g13).1 (fun u hu _ => ⟨_, _, rfl, ⟨rfl, by rw [hu]; exact hW⟩, hS.F hu⟩) hS.2.2 dX4_turnStall_30
def f_X4_needLevel (σ : Sg) (p1 : Int32) : Option (Nat ⊕ Unit) := if p1 < 0 then (some (.inl 1)) else (if p1 < 4 then (some (.inr ())) else (some (.inl 1)))
set_option maxHeartbeats 4000000 in
set_option maxRecDepth 100000 in
theorem c_X4_needLevel (l : Launch) (hfl : l.stackTraces = false) (D : va_G) (t : Nat → ClassId) (b : Nat) (σ : Sg) (p1 : Int32) (r : (Nat ⊕ Unit)) (hf : f_X4_needLevel σ p1 = some r) : vx_Met l yX4_needLevel (Cond.code yX4_needLevel cX4_needLevel 2 none :: ALL) ({ frames := 6, cells := 1, slots := 6, locals := 82 }) (PM D t b σ [.ref (b + 0), .int p1]) (QX D t b (Sum.map (fun k => (k, σ)) (fun _ => (none, σ)) r)) (XX D t b (Sum.map (fun k => (k, σ)) (fun _ => (none, σ)) r)) 1 6 (geA b) := by
  refine vx_ofW (cc := cX4_needLevel) (maxL := 2) (ret := none) (by decide) rfl ?_
  intro p e s m args below meth c s₁ B hml htab hv
  obtain ⟨rfl, hW, hE⟩ := hv
  have hx := B.exec
  have hb := B.bytes
  have hr := B.returns
  have hts := atoms_spec (ws := Cond.code yX4_needLevel cX4_needLevel 2 none :: ALL) B.pre
  have hta := fun w h => hts w (List.mem_cons_of_mem _ h)
  have hown : s.vm.findClass RX4 = some m.cls := findClass_of_methodNamed B.named
  have hlocks := B.notSynchronized
  have hS : va_S (geA b) s.heap s.heap [] := va_S.rf
  have hl := lv_entry ([.ref (b + 0), .int p1]) (n := 2) (Nat.le_of_ble_eq_true rfl)
  rw [lg_entry_eq]
  generalize (lg_sl ([.ref (b + 0), .int p1]) ++ List.replicate (2 - (lg_sl ([.ref (b + 0), .int p1])).length) Slot.unset).toArray = ls at hl ⊢
  have hl : lv_has ls 2 [(0, .ref (b + 0)), (1, .int p1)] := hl
  unfold f_X4_needLevel at hf
  refine lv_iload_n hx hb dX4_needLevel_0 rfl (lv_at hl 1 rfl) ?_
  refine lv_if_lt (tgt := 9) hx hb dX4_needLevel_1 (by decide) (fun h1 => ?_) (fun h1 => ?_)
  · have hf := ifp h1 hf
    cases hf
    exact mthrowW (k1 := 1) (is := 312) (text := "there is no such level") (rest := []) hfl fit_1 hx hb hown hta hE hW hS thA_1 thB_1 (by decide +kernel) thC_1 thD_1 thE_1 (hl.1.trans hml.symm) dX4_needLevel_9 dX4_needLevel_12 dX4_needLevel_13 dX4_needLevel_16 dX4_needLevel_19 htab (Nat.le_of_ble_eq_true rfl) (Nat.le_of_ble_eq_true rfl) (Nat.le_of_ble_eq_true rfl) (Nat.le_of_ble_eq_true rfl) hlocks (Nat.le_of_ble_eq_true rfl) (Nat.le_of_ble_eq_true rfl)
  · have hf := ifn h1 hf
    refine lv_iload_n hx hb dX4_needLevel_4 rfl (lv_at hl 1 rfl) ?_
    refine lv_iconst (v := 4) hx hb dX4_needLevel_5 (by decide) ?_
    refine lv_icmp_lt (tgt := 20) hx hb dX4_needLevel_6 (by decide) (fun h2 => ?_) (fun h2 => ?_)
    · have hf := ifp h2 hf
      cases hf
      refine vx_ret ?_
      refine W.widen (k := 1) (n := 6) (Nat.le_of_ble_eq_true rfl) (Nat.le_of_ble_eq_true rfl) ?_
      exact W.vret hx hb hr (fun u hu _ => ⟨_, _, rfl, ⟨rfl, by rw [hu]; exact hW⟩, hS.F hu⟩) hS.2.2 dX4_needLevel_20
    · have hf := ifn h2 hf
      cases hf
      exact mthrowW (k1 := 1) (is := 312) (text := "there is no such level") (rest := []) hfl fit_1 hx hb hown hta hE hW hS thA_1 thB_1 (by decide +kernel) thC_1 thD_1 thE_1 (hl.1.trans hml.symm) dX4_needLevel_9 dX4_needLevel_12 dX4_needLevel_13 dX4_needLevel_16 dX4_needLevel_19 htab (Nat.le_of_ble_eq_true rfl) (Nat.le_of_ble_eq_true rfl) (Nat.le_of_ble_eq_true rfl) (Nat.le_of_ble_eq_true rfl) hlocks (Nat.le_of_ble_eq_true rfl) (Nat.le_of_ble_eq_true rfl)
def f_X4_needColour (σ : Sg) (p1 : Int32) : Option (Nat ⊕ Unit) := if p1 < 0 then (some (.inl 1)) else (if p1 < 4 then (some (.inr ())) else (some (.inl 1)))
set_option maxHeartbeats 4000000 in
set_option maxRecDepth 100000 in
theorem c_X4_needColour (l : Launch) (hfl : l.stackTraces = false) (D : va_G) (t : Nat → ClassId) (b : Nat) (σ : Sg) (p1 : Int32) (r : (Nat ⊕ Unit)) (hf : f_X4_needColour σ p1 = some r) : vx_Met l yX4_needColour (Cond.code yX4_needColour cX4_needColour 2 none :: ALL) ({ frames := 6, cells := 1, slots := 6, locals := 82 }) (PM D t b σ [.ref (b + 0), .int p1]) (QX D t b (Sum.map (fun k => (k, σ)) (fun _ => (none, σ)) r)) (XX D t b (Sum.map (fun k => (k, σ)) (fun _ => (none, σ)) r)) 1 6 (geA b) := by
  refine vx_ofW (cc := cX4_needColour) (maxL := 2) (ret := none) (by decide) rfl ?_
  intro p e s m args below meth c s₁ B hml htab hv
  obtain ⟨rfl, hW, hE⟩ := hv
  have hx := B.exec
  have hb := B.bytes
  have hr := B.returns
  have hts := atoms_spec (ws := Cond.code yX4_needColour cX4_needColour 2 none :: ALL) B.pre
  have hta := fun w h => hts w (List.mem_cons_of_mem _ h)
  have hown : s.vm.findClass RX4 = some m.cls := findClass_of_methodNamed B.named
  have hlocks := B.notSynchronized
  have hS : va_S (geA b) s.heap s.heap [] := va_S.rf
  have hl := lv_entry ([.ref (b + 0), .int p1]) (n := 2) (Nat.le_of_ble_eq_true rfl)
  rw [lg_entry_eq]
  generalize (lg_sl ([.ref (b + 0), .int p1]) ++ List.replicate (2 - (lg_sl ([.ref (b + 0), .int p1])).length) Slot.unset).toArray = ls at hl ⊢
  have hl : lv_has ls 2 [(0, .ref (b + 0)), (1, .int p1)] := hl
  unfold f_X4_needColour at hf
  refine lv_iload_n hx hb dX4_needColour_0 rfl (lv_at hl 1 rfl) ?_
  refine lv_if_lt (tgt := 9) hx hb dX4_needColour_1 (by decide) (fun h1 => ?_) (fun h1 => ?_)
  · have hf := ifp h1 hf
    cases hf
    exact mthrowW (k1 := 1) (is := 314) (text := "there is no such colour") (rest := []) hfl fit_1 hx hb hown hta hE hW hS thA_1 thB_1 (by decide +kernel) thC_1 thD_1 thE_1 (hl.1.trans hml.symm) dX4_needColour_9 dX4_needColour_12 dX4_needColour_13 dX4_needColour_16 dX4_needColour_19 htab (Nat.le_of_ble_eq_true rfl) (Nat.le_of_ble_eq_true rfl) (Nat.le_of_ble_eq_true rfl) (Nat.le_of_ble_eq_true rfl) hlocks (Nat.le_of_ble_eq_true rfl) (Nat.le_of_ble_eq_true rfl)
  · have hf := ifn h1 hf
    refine lv_iload_n hx hb dX4_needColour_4 rfl (lv_at hl 1 rfl) ?_
    refine lv_iconst (v := 4) hx hb dX4_needColour_5 (by decide) ?_
    refine lv_icmp_lt (tgt := 20) hx hb dX4_needColour_6 (by decide) (fun h2 => ?_) (fun h2 => ?_)
    · have hf := ifp h2 hf
      cases hf
      refine vx_ret ?_
      refine W.widen (k := 1) (n := 6) (Nat.le_of_ble_eq_true rfl) (Nat.le_of_ble_eq_true rfl) ?_
      exact W.vret hx hb hr (fun u hu _ => ⟨_, _, rfl, ⟨rfl, by rw [hu]; exact hW⟩, hS.F hu⟩) hS.2.2 dX4_needColour_20
    · have hf := ifn h2 hf
      cases hf
      exact mthrowW (k1 := 1) (is := 314) (text := "there is no such colour") (rest := []) hfl fit_1 hx hb hown hta hE hW hS thA_1 thB_1 (by decide +kernel) thC_1 thD_1 thE_1 (hl.1.trans hml.symm) dX4_needColour_9 dX4_needColour_12 dX4_needColour_13 dX4_needColour_16 dX4_needColour_19 htab (Nat.le_of_ble_eq_true rfl) (Nat.le_of_ble_eq_true rfl) (Nat.le_of_ble_eq_true rfl) (Nat.le_of_ble_eq_true rfl) hlocks (Nat.le_of_ble_eq_true rfl) (Nat.le_of_ble_eq_true rfl)
def f_X4_restock (σ : Sg) (p1 : Int32) (p2 : Int32) (p3 : Int32) (p4 : Int32) : Option (Nat ⊕ (Int32 × Sg)) := bt (f_X4_stallNumbered σ p1) fun y5 => sg y5 3 (bt (f_X4_needLevel σ p2) fun y11 => bt (f_X4_needColour σ p3) fun y16 => if p4 < 1 then (some (.inl 2)) else (if p4 ≤ 40 then (b1 (f_X1_canRestock 1 σ p1 p2 p4) fun y19 => if y19 = 0 then (some (.inl 3)) else (b1 (f_X4_keepRecord σ) fun σ24 => b1 (f_X1_putPrizes 1 σ24 p1 p2 p3 p4) fun σ27 => some (.inr ((σ27 y5 5), σ27)))) else (some (.inl 2))))
set_option maxHeartbeats 4000000 in
set_option maxRecDepth 100000 in
theorem c_X4_restock (l : Launch) (hfl : l.stackTraces = false) (D : va_G) (t : Nat → ClassId) (b : Nat) (σ : Sg) (p1 : Int32) (p2 : Int32) (p3 : Int32) (p4 : Int32) (r : (Nat ⊕ (Int32 × Sg))) (hf : f_X4_restock σ p1 p2 p3 p4 = some r) : vx_Met l yX4_restock (Cond.code yX4_restock cX4_restock 6 (some .int) :: ALL) ({ frames := 8, cells := 4, slots := 24, locals := 124 }) (PM D t b σ [.ref (b + 0), .int p1, .int p2, .int p3, .int p4]) (QX D t b (Sum.map (fun k => (k, σ)) (fun y => (some (.int y.1), y.2)) r)) (XX D t b (Sum.map (fun k => (k, σ)) (fun y => (some (.int y.1), y.2)) r)) 4 24 (geA b) := by
  refine vx_ofW (cc := cX4_restock) (maxL := 6) (ret := (some .int)) (by decide) rfl ?_
  intro p e s m args below meth c s₁ B hml htab hv
  obtain ⟨rfl, hW, hE⟩ := hv
  have hx := B.exec
  have hb := B.bytes
  have hr := B.returns
  have hts := atoms_spec (ws := Cond.code yX4_restock cX4_restock 6 (some .int) :: ALL) B.pre
  have hta := fun w h => hts w (List.mem_cons_of_mem _ h)
  have hown : s.vm.findClass RX4 = some m.cls := findClass_of_methodNamed B.named
  have hlocks := B.notSynchronized
  have hS : va_S (geA b) s.heap s.heap [] := va_S.rf
  have hl := lv_entry ([.ref (b + 0), .int p1, .int p2, .int p3, .int p4]) (n := 6) (Nat.le_of_ble_eq_true rfl)
  rw [lg_entry_eq]
  generalize (lg_sl ([.ref (b + 0), .int p1, .int p2, .int p3, .int p4]) ++ List.replicate (6 - (lg_sl ([.ref (b + 0), .int p1, .int p2, .int p3, .int p4])).length) Slot.unset).toArray = ls at hl ⊢
  have hl : lv_has ls 6 [(0, .ref (b + 0)), (1, .int p1), (2, .int p2), (3, .int p3), (4, .int p4)] := hl
  unfold f_X4_restock at hf
  refine lv_aload_n hx hb dX4_restock_0 rfl (lv_at hl 0 rfl) ?_
  refine lv_iload_n hx hb dX4_restock_1 rfl (lv_at hl 1 rfl) ?_
  rcases bt_e hf with ⟨k3, u4, hf⟩ | ⟨y5, u4, hf⟩
  · subst hf
    refine mVXt (k := 0) (q := (0, 0)) (C := RX4) (T := TX4) (N := 8) (ci := 4) (n := 1) (As := [.int p1]) (rest := []) (c_X4_stallNumbered l hfl D t b σ p1 (.inl k3) u4) sh_0 (by decide) rfl rfl hx hb hml hown hts hE hW hS q470 q472 q5 q34 q473 hy_X4_stallNumbered ⟨rfl, rfl⟩ ⟨Nat.le_of_ble_eq_true rfl, Nat.le_of_ble_eq_true rfl⟩ rfl rfl hl.1 (Nat.le_of_ble_eq_true rfl) ⟨Nat.le_of_ble_eq_true rfl, Nat.le_of_ble_eq_true rfl⟩ dX4_restock_2 htab hlocks ⟨Nat.le_of_ble_eq_true rfl, Nat.le_of_ble_eq_true rfl⟩
  · refine mVXn (k := 0) (q := (0, 0)) (C := RX4) (T := TX4) (N := 8) (ci := 4) (n := 1) (As := [.int p1]) (rest := []) (c_X4_stallNumbered l hfl D t b σ p1 (.inr y5) u4) sh_0 (by decide) rfl rfl hx hb hml hown hts hE hW hS q470 q472 q5 q34 q473 hy_X4_stallNumbered ⟨rfl, rfl⟩ ⟨Nat.le_of_ble_eq_true rfl, Nat.le_of_ble_eq_true rfl⟩ rfl rfl hl.1 (Nat.le_of_ble_eq_true rfl) ⟨Nat.le_of_ble_eq_true rfl, Nat.le_of_ble_eq_true rfl⟩ dX4_restock_2 (fun H locs hW hS => ?_)
    obtain ⟨g6, hf⟩ := sg_e hf
    refine lv_astore (lv' := [(5, .ref (b + y5)), (0, .ref (b + 0)), (1, .int p1), (2, .int p2), (3, .int p3), (4, .int p4)]) hx hb dX4_restock_5 hl (by decide) rfl (fun ls hl => ?_)
    refine lv_aload_n hx hb dX4_restock_7 rfl (lv_at hl 1 rfl) ?_
    refine lv_iload_n hx hb dX4_restock_8 rfl (lv_at hl 3 rfl) ?_
    rcases bt_e hf with ⟨k9, u10, hf⟩ | ⟨y11, u10, hf⟩
    · subst hf
      refine mVXt (k := 0) (q := (0, 0)) (C := RX4) (T := TX4) (N := 8) (ci := 4) (n := 1) (As := [.int p2]) (rest := []) (c_X4_needLevel l hfl D t b σ p2 (.inl k9) u10) sh_0 (by decide) rfl rfl hx hb hml hown hts hE hW hS q483 q485 q7 q34 q486 hy_X4_needLevel ⟨rfl, rfl⟩ ⟨Nat.le_of_ble_eq_true rfl, Nat.le_of_ble_eq_true rfl⟩ rfl rfl hl.1 (Nat.le_of_ble_eq_true rfl) ⟨Nat.le_of_ble_eq_true rfl, Nat.le_of_ble_eq_true rfl⟩ dX4_restock_9 htab hlocks ⟨Nat.le_of_ble_eq_true rfl, Nat.le_of_ble_eq_true rfl⟩
    · refine mVXn (k := 0) (q := (0, 0)) (C := RX4) (T := TX4) (N := 8) (ci := 4) (n := 1) (As := [.int p2]) (rest := []) (c_X4_needLevel l hfl D t b σ p2 (.inr y11) u10) sh_0 (by decide) rfl rfl hx hb hml hown hts hE hW hS q483 q485 q7 q34 q486 hy_X4_needLevel ⟨rfl, rfl⟩ ⟨Nat.le_of_ble_eq_true rfl, Nat.le_of_ble_eq_true rfl⟩ rfl rfl hl.1 (Nat.le_of_ble_eq_true rfl) ⟨Nat.le_of_ble_eq_true rfl, Nat.le_of_ble_eq_true rfl⟩ dX4_restock_9 (fun H locs hW hS => ?_)
      refine lv_aload_n hx hb dX4_restock_12 rfl (lv_at hl 1 rfl) ?_
      refine lv_iload_n hx hb dX4_restock_13 rfl (lv_at hl 4 rfl) ?_
      rcases bt_e hf with ⟨k14, u15, hf⟩ | ⟨y16, u15, hf⟩
      · subst hf
        refine mVXt (k := 0) (q := (0, 0)) (C := RX4) (T := TX4) (N := 8) (ci := 4) (n := 1) (As := [.int p3]) (rest := []) (c_X4_needColour l hfl D t b σ p3 (.inl k14) u15) sh_0 (by decide) rfl rfl hx hb hml hown hts hE hW hS q488 q490 q8 q34 q491 hy_X4_needColour ⟨rfl, rfl⟩ ⟨Nat.le_of_ble_eq_true rfl, Nat.le_of_ble_eq_true rfl⟩ rfl rfl hl.1 (Nat.le_of_ble_eq_true rfl) ⟨Nat.le_of_ble_eq_true rfl, Nat.le_of_ble_eq_true rfl⟩ dX4_restock_14 htab hlocks ⟨Nat.le_of_ble_eq_true rfl, Nat.le_of_ble_eq_true rfl⟩
      · refine mVXn (k := 0) (q := (0, 0)) (C := RX4) (T := TX4) (N := 8) (ci := 4) (n := 1) (As := [.int p3]) (rest := []) (c_X4_needColour l hfl D t b σ p3 (.inr y16) u15) sh_0 (by decide) rfl rfl hx hb hml hown hts hE hW hS q488 q490 q8 q34 q491 hy_X4_needColour ⟨rfl, rfl⟩ ⟨Nat.le_of_ble_eq_true rfl, Nat.le_of_ble_eq_true rfl⟩ rfl rfl hl.1 (Nat.le_of_ble_eq_true rfl) ⟨Nat.le_of_ble_eq_true rfl, Nat.le_of_ble_eq_true rfl⟩ dX4_restock_14 (fun H locs hW hS => ?_)
        refine lv_iload hx hb dX4_restock_17 (lv_at hl 5 rfl) ?_
        refine lv_iconst (v := 1) hx hb dX4_restock_19 (by decide) ?_
        refine lv_icmp_lt (tgt := 30) hx hb dX4_restock_20 (by decide) (fun h17 => ?_) (fun h17 => ?_)
        · have hf := ifp h17 hf
          cases hf
          exact mthrow (k1 := 2) (is := 102) (text := "the number of prizes is 1 to 40") (rest := []) hfl fit_2 hx hb hown hta hE hW hS thA_2 thB_2 (by decide +kernel) thC_2 thD_2 thE_2 (hl.1.trans hml.symm) dX4_restock_30 dX4_restock_33 dX4_restock_34 dX4_restock_36 dX4_restock_39 htab (Nat.le_of_ble_eq_true rfl) (Nat.le_of_ble_eq_true rfl) (Nat.le_of_ble_eq_true rfl) (Nat.le_of_ble_eq_true rfl) hlocks (Nat.le_of_ble_eq_true rfl) (Nat.le_of_ble_eq_true rfl)
        · have hf := ifn h17 hf
          refine lv_iload hx hb dX4_restock_23 (lv_at hl 5 rfl) ?_
          refine lv_bipush (v := 40) hx hb dX4_restock_25 (by decide) ?_
          refine lv_icmp_le (tgt := 40) hx hb dX4_restock_27 (by decide) (fun h18 => ?_) (fun h18 => ?_)
          · have hf := ifp h18 hf
            refine lv_aload_n hx hb dX4_restock_40 rfl (lv_at hl 1 rfl) ?_
            refine getP hx hb hta hown hE.1 hW 0 (by decide) q274 rfl dX4_restock_41 ?_
            refine lv_iload_n hx hb dX4_restock_44 rfl (lv_at hl 2 rfl) ?_
            refine lv_iload_n hx hb dX4_restock_45 rfl (lv_at hl 3 rfl) ?_
            refine lv_iload hx hb dX4_restock_46 (lv_at hl 5 rfl) ?_
            obtain ⟨y19, u20, hf⟩ := b1_e hf
            refine mV (k := 1) (q := (1, 0)) (C := RX1) (T := TX1) (N := 13) (ci := 1) (n := 3) (As := [.int p1, .int p2, .int p4]) (rest := []) (c_X1_canRestock l D t b 1 σ p1 p2 p4 y19 sh_1 u20) sh_1 (by decide) rfl rfl hx hb hml hown hts hE hW hS q494 q495 q496 q35 q497 hy_X1_canRestock ⟨rfl, rfl⟩ ⟨Nat.le_of_ble_eq_true rfl, Nat.le_of_ble_eq_true rfl⟩ rfl rfl hl.1 (Nat.le_of_ble_eq_true rfl) ⟨Nat.le_of_ble_eq_true rfl, Nat.le_of_ble_eq_true rfl⟩ dX4_restock_48 (fun H locs hW hS => ?_)
            refine lv_if_ne (tgt := 64) hx hb dX4_restock_51 (by decide) (fun h21 => ?_) (fun h21 => ?_)
            · have hf := ifn h21 hf
              refine lv_aload_n hx hb dX4_restock_64 rfl (lv_at hl 1 rfl) ?_
              obtain ⟨σ24, u23, hf⟩ := b1_e hf
              refine mV (k := 0) (q := (0, 0)) (C := RX4) (T := TX4) (N := 8) (ci := 4) (n := 0) (As := []) (rest := []) (c_X4_keepRecord l D t b σ σ24 u23) sh_0 (by decide) rfl rfl hx hb hml hown hts hE hW hS q427 q429 q4 q34 q430 hy_X4_keepRecord ⟨rfl, rfl⟩ ⟨Nat.le_of_ble_eq_true rfl, Nat.le_of_ble_eq_true rfl⟩ rfl rfl hl.1 (Nat.le_of_ble_eq_true rfl) ⟨Nat.le_of_ble_eq_true rfl, Nat.le_of_ble_eq_true rfl⟩ dX4_restock_65 (fun H locs hW hS => ?_)
              refine lv_aload_n hx hb dX4_restock_68 rfl (lv_at hl 1 rfl) ?_
              refine getP hx hb hta hown hE.1 hW 0 (by decide) q274 rfl dX4_restock_69 ?_
              refine lv_iload_n hx hb dX4_restock_72 rfl (lv_at hl 2 rfl) ?_
              refine lv_iload_n hx hb dX4_restock_73 rfl (lv_at hl 3 rfl) ?_
              refine lv_iload_n hx hb dX4_restock_74 rfl (lv_at hl 4 rfl) ?_
              refine lv_iload hx hb dX4_restock_75 (lv_at hl 5 rfl) ?_
              obtain ⟨σ27, u26, hf⟩ := b1_e hf
              refine mV (k := 1) (q := (1, 0)) (C := RX1) (T := TX1) (N := 13) (ci := 1) (n := 4) (As := [.int p1, .int p2, .int p3, .int p4]) (rest := []) (c_X1_putPrizes l D t b 1 σ24 p1 p2 p3 p4 σ27 sh_1 u26) sh_1 (by decide) rfl rfl hx hb hml hown hts hE hW hS q507 q508 q509 q35 q510 hy_X1_putPrizes ⟨rfl, rfl⟩ ⟨Nat.le_of_ble_eq_true rfl, Nat.le_of_ble_eq_true rfl⟩ rfl rfl hl.1 (Nat.le_of_ble_eq_true rfl) ⟨Nat.le_of_ble_eq_true rfl, Nat.le_of_ble_eq_true rfl⟩ dX4_restock_77 (fun H locs hW hS => ?_)
              refine lv_aload hx hb dX4_restock_80 (lv_at hl 0 rfl) ?_
              refine getS hx hb hta hown hE.1 hW g6 5 (by decide) q136 rfl dX4_restock_82 ?_
              cases hf
              refine vx_ret ?_
              refine W.widen (k := 4) (n := 24) (Nat.le_of_ble_eq_true rfl) (Nat.le_of_ble_eq_true rfl) ?_
              exact W.iret hx hb hr (fun u hu _ => ⟨_, _, rfl, ⟨rfl, by rw [hu]; exact hW⟩, hS.F hu⟩) hS.2.2 dX4_restock_85
            · have hf := ifp h21 hf
              cases hf
              exact mthrow (k1 := 3) (is := 109) (text := "the shelf lacks room or the purse lacks coins") (rest := []) hfl fit_3 hx hb hown hta hE hW hS thA_3 thB_3 (by decide +kernel) thC_3 thD_3 thE_3 (hl.1.trans hml.symm) dX4_restock_54 dX4_restock_57 dX4_restock_58 dX4_restock_60 dX4_restock_63 htab (Nat.le_of_ble_eq_true rfl) (Nat.le_of_ble_eq_true rfl) (Nat.le_of_ble_eq_true rfl) (Nat.le_of_ble_eq_true rfl) hlocks (Nat.le_of_ble_eq_true rfl) (Nat.le_of_ble_eq_true rfl)
          · have hf := ifn h18 hf
            cases hf
            exact mthrow (k1 := 2) (is := 102) (text := "the number of prizes is 1 to 40") (rest := []) hfl fit_2 hx hb hown hta hE hW hS thA_2 thB_2 (by decide +kernel) thC_2 thD_2 thE_2 (hl.1.trans hml.symm) dX4_restock_30 dX4_restock_33 dX4_restock_34 dX4_restock_36 dX4_restock_39 htab (Nat.le_of_ble_eq_true rfl) (Nat.le_of_ble_eq_true rfl) (Nat.le_of_ble_eq_true rfl) (Nat.le_of_ble_eq_true rfl) hlocks (Nat.le_of_ble_eq_true rfl) (Nat.le_of_ble_eq_true rfl)
def f_X4_fund (σ : Sg) (p1 : Int32) (p2 : Int32) : Option (Nat ⊕ (Int32 × Sg)) := bt (f_X4_stallNumbered σ p1) fun y5 => sg y5 3 (if p2 < 1 then (some (.inl 2)) else (if p2 ≤ 99 then (b1 (f_X1_canFund 1 σ p1 p2) fun y9 => if y9 = 0 then (some (.inl 3)) else (b1 (f_X4_keepRecord σ) fun σ14 => b1 (f_X1_giveCoins 1 σ14 p1 p2) fun σ17 => some (.inr ((σ17 y5 5), σ17)))) else (some (.inl 2))))
set_option maxHeartbeats 4000000 in
set_option maxRecDepth 100000 in
theorem c_X4_fund (l : Launch) (hfl : l.stackTraces = false) (D : va_G) (t : Nat → ClassId) (b : Nat) (σ : Sg) (p1 : Int32) (p2 : Int32) (r : (Nat ⊕ (Int32 × Sg))) (hf : f_X4_fund σ p1 p2 = some r) : vx_Met l yX4_fund (Cond.code yX4_fund cX4_fund 4 (some .int) :: ALL) ({ frames := 8, cells := 2, slots := 12, locals := 124 }) (PM D t b σ [.ref (b + 0), .int p1, .int p2]) (QX D t b (Sum.map (fun k => (k, σ)) (fun y => (some (.int y.1), y.2)) r)) (XX D t b (Sum.map (fun k => (k, σ)) (fun y => (some (.int y.1), y.2)) r)) 2 12 (geA b) := by
  refine vx_ofW (cc := cX4_fund) (maxL := 4) (ret := (some .int)) (by decide) rfl ?_
  intro p e s m args below meth c s₁ B hml htab hv
  obtain ⟨rfl, hW, hE⟩ := hv
  have hx := B.exec
  have hb := B.bytes
  have hr := B.returns
  have hts := atoms_spec (ws := Cond.code yX4_fund cX4_fund 4 (some .int) :: ALL) B.pre
  have hta := fun w h => hts w (List.mem_cons_of_mem _ h)
  have hown : s.vm.findClass RX4 = some m.cls := findClass_of_methodNamed B.named
  have hlocks := B.notSynchronized
  have hS : va_S (geA b) s.heap s.heap [] := va_S.rf
  have hl := lv_entry ([.ref (b + 0), .int p1, .int p2]) (n := 4) (Nat.le_of_ble_eq_true rfl)
  rw [lg_entry_eq]
  generalize (lg_sl ([.ref (b + 0), .int p1, .int p2]) ++ List.replicate (4 - (lg_sl ([.ref (b + 0), .int p1, .int p2])).length) Slot.unset).toArray = ls at hl ⊢
  have hl : lv_has ls 4 [(0, .ref (b + 0)), (1, .int p1), (2, .int p2)] := hl
  unfold f_X4_fund at hf
  refine lv_aload_n hx hb dX4_fund_0 rfl (lv_at hl 0 rfl) ?_
  refine lv_iload_n hx hb dX4_fund_1 rfl (lv_at hl 1 rfl) ?_
  rcases bt_e hf with ⟨k3, u4, hf⟩ | ⟨y5, u4, hf⟩
  · subst hf
    refine mVXt (k := 0) (q := (0, 0)) (C := RX4) (T := TX4) (N := 8) (ci := 4) (n := 1) (As := [.int p1]) (rest := []) (c_X4_stallNumbered l hfl D t b σ p1 (.inl k3) u4) sh_0 (by decide) rfl rfl hx hb hml hown hts hE hW hS q470 q472 q5 q34 q473 hy_X4_stallNumbered ⟨rfl, rfl⟩ ⟨Nat.le_of_ble_eq_true rfl, Nat.le_of_ble_eq_true rfl⟩ rfl rfl hl.1 (Nat.le_of_ble_eq_true rfl) ⟨Nat.le_of_ble_eq_true rfl, Nat.le_of_ble_eq_true rfl⟩ dX4_fund_2 htab hlocks ⟨Nat.le_of_ble_eq_true rfl, Nat.le_of_ble_eq_true rfl⟩
  · refine mVXn (k := 0) (q := (0, 0)) (C := RX4) (T := TX4) (N := 8) (ci := 4) (n := 1) (As := [.int p1]) (rest := []) (c_X4_stallNumbered l hfl D t b σ p1 (.inr y5) u4) sh_0 (by decide) rfl rfl hx hb hml hown hts hE hW hS q470 q472 q5 q34 q473 hy_X4_stallNumbered ⟨rfl, rfl⟩ ⟨Nat.le_of_ble_eq_true rfl, Nat.le_of_ble_eq_true rfl⟩ rfl rfl hl.1 (Nat.le_of_ble_eq_true rfl) ⟨Nat.le_of_ble_eq_true rfl, Nat.le_of_ble_eq_true rfl⟩ dX4_fund_2 (fun H locs hW hS => ?_)
    obtain ⟨g6, hf⟩ := sg_e hf
    refine lv_astore_n (lv' := [(3, .ref (b + y5)), (0, .ref (b + 0)), (1, .int p1), (2, .int p2)]) hx hb dX4_fund_5 rfl hl (by decide) rfl (fun ls hl => ?_)
    refine lv_iload_n hx hb dX4_fund_6 rfl (lv_at hl 3 rfl) ?_
    refine lv_iconst (v := 1) hx hb dX4_fund_7 (by decide) ?_
    refine lv_icmp_lt (tgt := 17) hx hb dX4_fund_8 (by decide) (fun h7 => ?_) (fun h7 => ?_)
    · have hf := ifp h7 hf
      cases hf
      exact mthrow (k1 := 2) (is := 118) (text := "the number of coins is 1 to 99") (rest := []) hfl fit_2 hx hb hown hta hE hW hS thA_2 thB_2 (by decide +kernel) thC_2 thD_2 thE_2 (hl.1.trans hml.symm) dX4_fund_17 dX4_fund_20 dX4_fund_21 dX4_fund_23 dX4_fund_26 htab (Nat.le_of_ble_eq_true rfl) (Nat.le_of_ble_eq_true rfl) (Nat.le_of_ble_eq_true rfl) (Nat.le_of_ble_eq_true rfl) hlocks (Nat.le_of_ble_eq_true rfl) (Nat.le_of_ble_eq_true rfl)
    · have hf := ifn h7 hf
      refine lv_iload_n hx hb dX4_fund_11 rfl (lv_at hl 3 rfl) ?_
      refine lv_bipush (v := 99) hx hb dX4_fund_12 (by decide) ?_
      refine lv_icmp_le (tgt := 27) hx hb dX4_fund_14 (by decide) (fun h8 => ?_) (fun h8 => ?_)
      · have hf := ifp h8 hf
        refine lv_aload_n hx hb dX4_fund_27 rfl (lv_at hl 1 rfl) ?_
        refine getP hx hb hta hown hE.1 hW 0 (by decide) q274 rfl dX4_fund_28 ?_
        refine lv_iload_n hx hb dX4_fund_31 rfl (lv_at hl 2 rfl) ?_
        refine lv_iload_n hx hb dX4_fund_32 rfl (lv_at hl 3 rfl) ?_
        obtain ⟨y9, u10, hf⟩ := b1_e hf
        refine mV (k := 1) (q := (1, 0)) (C := RX1) (T := TX1) (N := 13) (ci := 1) (n := 2) (As := [.int p1, .int p2]) (rest := []) (c_X1_canFund l D t b 1 σ p1 p2 y9 sh_1 u10) sh_1 (by decide) rfl rfl hx hb hml hown hts hE hW hS q516 q517 q518 q35 q519 hy_X1_canFund ⟨rfl, rfl⟩ ⟨Nat.le_of_ble_eq_true rfl, Nat.le_of_ble_eq_true rfl⟩ rfl rfl hl.1 (Nat.le_of_ble_eq_true rfl) ⟨Nat.le_of_ble_eq_true rfl, Nat.le_of_ble_eq_true rfl⟩ dX4_fund_33 (fun H locs hW hS => ?_)
        refine lv_if_ne (tgt := 49) hx hb dX4_fund_36 (by decide) (fun h11 => ?_) (fun h11 => ?_)
        · have hf := ifn h11 hf
          refine lv_aload_n hx hb dX4_fund_49 rfl (lv_at hl 1 rfl) ?_
          obtain ⟨σ14, u13, hf⟩ := b1_e hf
          refine mV (k := 0) (q := (0, 0)) (C := RX4) (T := TX4) (N := 8) (ci := 4) (n := 0) (As := []) (rest := []) (c_X4_keepRecord l D t b σ σ14 u13) sh_0 (by decide) rfl rfl hx hb hml hown hts hE hW hS q427 q429 q4 q34 q430 hy_X4_keepRecord ⟨rfl, rfl⟩ ⟨Nat.le_of_ble_eq_true rfl, Nat.le_of_ble_eq_true rfl⟩ rfl rfl hl.1 (Nat.le_of_ble_eq_true rfl) ⟨Nat.le_of_ble_eq_true rfl, Nat.le_of_ble_eq_true rfl⟩ dX4_fund_50 (fun H locs hW hS => ?_)
          refine lv_aload_n hx hb dX4_fund_53 rfl (lv_at hl 1 rfl) ?_
          refine getP hx hb hta hown hE.1 hW 0 (by decide) q274 rfl dX4_fund_54 ?_
          refine lv_iload_n hx hb dX4_fund_57 rfl (lv_at hl 2 rfl) ?_
          refine lv_iload_n hx hb dX4_fund_58 rfl (lv_at hl 3 rfl) ?_
          obtain ⟨σ17, u16, hf⟩ := b1_e hf
          refine mV (k := 1) (q := (1, 0)) (C := RX1) (T := TX1) (N := 13) (ci := 1) (n := 2) (As := [.int p1, .int p2]) (rest := []) (c_X1_giveCoins l D t b 1 σ14 p1 p2 σ17 sh_1 u16) sh_1 (by decide) rfl rfl hx hb hml hown hts hE hW hS q521 q522 q523 q35 q524 hy_X1_giveCoins ⟨rfl, rfl⟩ ⟨Nat.le_of_ble_eq_true rfl, Nat.le_of_ble_eq_true rfl⟩ rfl rfl hl.1 (Nat.le_of_ble_eq_true rfl) ⟨Nat.le_of_ble_eq_true rfl, Nat.le_of_ble_eq_true rfl⟩ dX4_fund_59 (fun H locs hW hS => ?_)
          refine lv_aload_n hx hb dX4_fund_62 rfl (lv_at hl 0 rfl) ?_
          refine getS hx hb hta hown hE.1 hW g6 5 (by decide) q136 rfl dX4_fund_63 ?_
          cases hf
          refine vx_ret ?_
          refine W.widen (k := 2) (n := 12) (Nat.le_of_ble_eq_true rfl) (Nat.le_of_ble_eq_true rfl) ?_
          exact W.iret hx hb hr (fun u hu _ => ⟨_, _, rfl, ⟨rfl, by rw [hu]; exact hW⟩, hS.F hu⟩) hS.2.2 dX4_fund_66
        · have hf := ifp h11 hf
          cases hf
          exact mthrow (k1 := 3) (is := 124) (text := "the bank does not have the coins") (rest := []) hfl fit_3 hx hb hown hta hE hW hS thA_3 thB_3 (by decide +kernel) thC_3 thD_3 thE_3 (hl.1.trans hml.symm) dX4_fund_39 dX4_fund_42 dX4_fund_43 dX4_fund_45 dX4_fund_48 htab (Nat.le_of_ble_eq_true rfl) (Nat.le_of_ble_eq_true rfl) (Nat.le_of_ble_eq_true rfl) (Nat.le_of_ble_eq_true rfl) hlocks (Nat.le_of_ble_eq_true rfl) (Nat.le_of_ble_eq_true rfl)
      · have hf := ifn h8 hf
        cases hf
        exact mthrow (k1 := 2) (is := 118) (text := "the number of coins is 1 to 99") (rest := []) hfl fit_2 hx hb hown hta hE hW hS thA_2 thB_2 (by decide +kernel) thC_2 thD_2 thE_2 (hl.1.trans hml.symm) dX4_fund_17 dX4_fund_20 dX4_fund_21 dX4_fund_23 dX4_fund_26 htab (Nat.le_of_ble_eq_true rfl) (Nat.le_of_ble_eq_true rfl) (Nat.le_of_ble_eq_true rfl) (Nat.le_of_ble_eq_true rfl) hlocks (Nat.le_of_ble_eq_true rfl) (Nat.le_of_ble_eq_true rfl)
def f_X4_collect (σ : Sg) (p1 : Int32) : Option (Nat ⊕ (Int32 × Sg)) := bt (f_X4_needStall σ p1) fun y5 => b1 (f_X4_keepRecord σ) fun σ8 => b2 (f_X1_emptyPurse 1 σ8 p1) fun y9 σ11 => some (.inr (y9, σ11))
set_option maxHeartbeats 4000000 in
set_option maxRecDepth 100000 in
theorem c_X4_collect (l : Launch) (hfl : l.stackTraces = false) (D : va_G) (t : Nat → ClassId) (b : Nat) (σ : Sg) (p1 : Int32) (r : (Nat ⊕ (Int32 × Sg))) (hf : f_X4_collect σ p1 = some r) : vx_Met l yX4_collect (Cond.code yX4_collect cX4_collect 2 (some .int) :: ALL) ({ frames := 7, cells := 1, slots := 6, locals := 123 }) (PM D t b σ [.ref (b + 0), .int p1]) (QX D t b (Sum.map (fun k => (k, σ)) (fun y => (some (.int y.1), y.2)) r)) (XX D t b (Sum.map (fun k => (k, σ)) (fun y => (some (.int y.1), y.2)) r)) 1 6 (geA b) := by
  refine vx_ofW (cc := cX4_collect) (maxL := 2) (ret := (some .int)) (by decide) rfl ?_
  intro p e s m args below meth c s₁ B hml htab hv
  obtain ⟨rfl, hW, hE⟩ := hv
  have hx := B.exec
  have hb := B.bytes
  have hr := B.returns
  have hts := atoms_spec (ws := Cond.code yX4_collect cX4_collect 2 (some .int) :: ALL) B.pre
  have hta := fun w h => hts w (List.mem_cons_of_mem _ h)
  have hown : s.vm.findClass RX4 = some m.cls := findClass_of_methodNamed B.named
  have hlocks := B.notSynchronized
  have hS : va_S (geA b) s.heap s.heap [] := va_S.rf
  have hl := lv_entry ([.ref (b + 0), .int p1]) (n := 2) (Nat.le_of_ble_eq_true rfl)
  rw [lg_entry_eq]
  generalize (lg_sl ([.ref (b + 0), .int p1]) ++ List.replicate (2 - (lg_sl ([.ref (b + 0), .int p1])).length) Slot.unset).toArray = ls at hl ⊢
  have hl : lv_has ls 2 [(0, .ref (b + 0)), (1, .int p1)] := hl
  unfold f_X4_collect at hf
  refine lv_aload_n hx hb dX4_collect_0 rfl (lv_at hl 0 rfl) ?_
  refine lv_iload_n hx hb dX4_collect_1 rfl (lv_at hl 1 rfl) ?_
  rcases bt_e hf with ⟨k3, u4, hf⟩ | ⟨y5, u4, hf⟩
  · subst hf
    refine mVXt (k := 0) (q := (0, 0)) (C := RX4) (T := TX4) (N := 8) (ci := 4) (n := 1) (As := [.int p1]) (rest := []) (c_X4_needStall l hfl D t b σ p1 (.inl k3) u4) sh_0 (by decide) rfl rfl hx hb hml hown hts hE hW hS q474 q476 q6 q34 q477 hy_X4_needStall ⟨rfl, rfl⟩ ⟨Nat.le_of_ble_eq_true rfl, Nat.le_of_ble_eq_true rfl⟩ rfl rfl hl.1 (Nat.le_of_ble_eq_true rfl) ⟨Nat.le_of_ble_eq_true rfl, Nat.le_of_ble_eq_true rfl⟩ dX4_collect_2 htab hlocks ⟨Nat.le_of_ble_eq_true rfl, Nat.le_of_ble_eq_true rfl⟩
  · refine mVXn (k := 0) (q := (0, 0)) (C := RX4) (T := TX4) (N := 8) (ci := 4) (n := 1) (As := [.int p1]) (rest := []) (c_X4_needStall l hfl D t b σ p1 (.inr y5) u4) sh_0 (by decide) rfl rfl hx hb hml hown hts hE hW hS q474 q476 q6 q34 q477 hy_X4_needStall ⟨rfl, rfl⟩ ⟨Nat.le_of_ble_eq_true rfl, Nat.le_of_ble_eq_true rfl⟩ rfl rfl hl.1 (Nat.le_of_ble_eq_true rfl) ⟨Nat.le_of_ble_eq_true rfl, Nat.le_of_ble_eq_true rfl⟩ dX4_collect_2 (fun H locs hW hS => ?_)
    refine lv_aload_n hx hb dX4_collect_5 rfl (lv_at hl 0 rfl) ?_
    obtain ⟨σ8, u7, hf⟩ := b1_e hf
    refine mV (k := 0) (q := (0, 0)) (C := RX4) (T := TX4) (N := 8) (ci := 4) (n := 0) (As := []) (rest := []) (c_X4_keepRecord l D t b σ σ8 u7) sh_0 (by decide) rfl rfl hx hb hml hown hts hE hW hS q427 q429 q4 q34 q430 hy_X4_keepRecord ⟨rfl, rfl⟩ ⟨Nat.le_of_ble_eq_true rfl, Nat.le_of_ble_eq_true rfl⟩ rfl rfl hl.1 (Nat.le_of_ble_eq_true rfl) ⟨Nat.le_of_ble_eq_true rfl, Nat.le_of_ble_eq_true rfl⟩ dX4_collect_6 (fun H locs hW hS => ?_)
    refine lv_aload_n hx hb dX4_collect_9 rfl (lv_at hl 0 rfl) ?_
    refine getP hx hb hta hown hE.1 hW 0 (by decide) q274 rfl dX4_collect_10 ?_
    refine lv_iload_n hx hb dX4_collect_13 rfl (lv_at hl 1 rfl) ?_
    obtain ⟨y9, σ11, u10, hf⟩ := b2_e hf
    refine mV (k := 1) (q := (1, 0)) (C := RX1) (T := TX1) (N := 13) (ci := 1) (n := 1) (As := [.int p1]) (rest := []) (c_X1_emptyPurse l D t b 1 σ8 p1 y9 σ11 sh_1 u10) sh_1 (by decide) rfl rfl hx hb hml hown hts hE hW hS q586 q587 q588 q35 q589 hy_X1_emptyPurse ⟨rfl, rfl⟩ ⟨Nat.le_of_ble_eq_true rfl, Nat.le_of_ble_eq_true rfl⟩ rfl rfl hl.1 (Nat.le_of_ble_eq_true rfl) ⟨Nat.le_of_ble_eq_true rfl, Nat.le_of_ble_eq_true rfl⟩ dX4_collect_14 (fun H locs hW hS => ?_)
    cases hf
    refine vx_ret ?_
    refine W.widen (k := 1) (n := 6) (Nat.le_of_ble_eq_true rfl) (Nat.le_of_ble_eq_true rfl) ?_
    exact W.iret hx hb hr (fun u hu _ => ⟨_, _, rfl, ⟨rfl, by rw [hu]; exact hW⟩, hS.F hu⟩) hS.2.2 dX4_collect_17
def f_X4_come (σ : Sg) (p1 : Int32) (p2 : Int32) (p3 : Int32) : Option (Nat ⊕ (Int32 × Sg)) := bt (f_X4_needKind σ p2) fun y5 => bt (f_X4_needColour σ p3) fun y10 => if p1 < 0 then (some (.inl 2)) else (if p1 ≤ 99 then (b1 (f_X0_haveRoom (1 + 4) σ) fun y13 => if y13 = 0 then (some (.inl 3)) else (b1 (f_X4_keepRecord σ) fun σ18 => b2 (f_X1_letIn 1 σ18 p1 p2 p3) fun y19 σ21 => some (.inr (y19, σ21)))) else (some (.inl 2)))
set_option maxHeartbeats 4000000 in
set_option maxRecDepth 100000 in
theorem c_X4_come (l : Launch) (hfl : l.stackTraces = false) (D : va_G) (t : Nat → ClassId) (b : Nat) (σ : Sg) (p1 : Int32) (p2 : Int32) (p3 : Int32) (r : (Nat ⊕ (Int32 × Sg))) (hf : f_X4_come σ p1 p2 p3 = some r) : vx_Met l yX4_come (Cond.code yX4_come cX4_come 4 (some .int) :: ALL) ({ frames := 7, cells := 3, slots := 18, locals := 123 }) (PM D t b σ [.ref (b + 0), .int p1, .int p2, .int p3]) (QX D t b (Sum.map (fun k => (k, σ)) (fun y => (some (.int y.1), y.2)) r)) (XX D t b (Sum.map (fun k => (k, σ)) (fun y => (some (.int y.1), y.2)) r)) 3 18 (geA b) := by
  refine vx_ofW (cc := cX4_come) (maxL := 4) (ret := (some .int)) (by decide) rfl ?_
  intro p e s m args below meth c s₁ B hml htab hv
  obtain ⟨rfl, hW, hE⟩ := hv
  have hx := B.exec
  have hb := B.bytes
  have hr := B.returns
  have hts := atoms_spec (ws := Cond.code yX4_come cX4_come 4 (some .int) :: ALL) B.pre
  have hta := fun w h => hts w (List.mem_cons_of_mem _ h)
  have hown : s.vm.findClass RX4 = some m.cls := findClass_of_methodNamed B.named
  have hlocks := B.notSynchronized
  have hS : va_S (geA b) s.heap s.heap [] := va_S.rf
  have hl := lv_entry ([.ref (b + 0), .int p1, .int p2, .int p3]) (n := 4) (Nat.le_of_ble_eq_true rfl)
  rw [lg_entry_eq]
  generalize (lg_sl ([.ref (b + 0), .int p1, .int p2, .int p3]) ++ List.replicate (4 - (lg_sl ([.ref (b + 0), .int p1, .int p2, .int p3])).length) Slot.unset).toArray = ls at hl ⊢
  have hl : lv_has ls 4 [(0, .ref (b + 0)), (1, .int p1), (2, .int p2), (3, .int p3)] := hl
  unfold f_X4_come at hf
  refine lv_aload_n hx hb dX4_come_0 rfl (lv_at hl 0 rfl) ?_
  refine lv_iload_n hx hb dX4_come_1 rfl (lv_at hl 2 rfl) ?_
  rcases bt_e hf with ⟨k3, u4, hf⟩ | ⟨y5, u4, hf⟩
  · subst hf
    refine mVXt (k := 0) (q := (0, 0)) (C := RX4) (T := TX4) (N := 8) (ci := 4) (n := 1) (As := [.int p2]) (rest := []) (c_X4_needKind l hfl D t b σ p2 (.inl k3) u4) sh_0 (by decide) rfl rfl hx hb hml hown hts hE hW hS q375 q377 q2 q34 q378 hy_X4_needKind ⟨rfl, rfl⟩ ⟨Nat.le_of_ble_eq_true rfl, Nat.le_of_ble_eq_true rfl⟩ rfl rfl hl.1 (Nat.le_of_ble_eq_true rfl) ⟨Nat.le_of_ble_eq_true rfl, Nat.le_of_ble_eq_true rfl⟩ dX4_come_2 htab hlocks ⟨Nat.le_of_ble_eq_true rfl, Nat.le_of_ble_eq_true rfl⟩
  · refine mVXn (k := 0) (q := (0, 0)) (C := RX4) (T := TX4) (N := 8) (ci := 4) (n := 1) (As := [.int p2]) (rest := []) (c_X4_needKind l hfl D t b σ p2 (.inr y5) u4) sh_0 (by decide) rfl rfl hx hb hml hown hts hE hW hS q375 q377 q2 q34 q378 hy_X4_needKind ⟨rfl, rfl⟩ ⟨Nat.le_of_ble_eq_true rfl, Nat.le_of_ble_eq_true rfl⟩ rfl rfl hl.1 (Nat.le_of_ble_eq_true rfl) ⟨Nat.le_of_ble_eq_true rfl, Nat.le_of_ble_eq_true rfl⟩ dX4_come_2 (fun H locs hW hS => ?_)
    refine lv_aload_n hx hb dX4_come_5 rfl (lv_at hl 0 rfl) ?_
    refine lv_iload_n hx hb dX4_come_6 rfl (lv_at hl 3 rfl) ?_
    rcases bt_e hf with ⟨k8, u9, hf⟩ | ⟨y10, u9, hf⟩
    · subst hf
      refine mVXt (k := 0) (q := (0, 0)) (C := RX4) (T := TX4) (N := 8) (ci := 4) (n := 1) (As := [.int p3]) (rest := []) (c_X4_needColour l hfl D t b σ p3 (.inl k8) u9) sh_0 (by decide) rfl rfl hx hb hml hown hts hE hW hS q488 q490 q8 q34 q491 hy_X4_needColour ⟨rfl, rfl⟩ ⟨Nat.le_of_ble_eq_true rfl, Nat.le_of_ble_eq_true rfl⟩ rfl rfl hl.1 (Nat.le_of_ble_eq_true rfl) ⟨Nat.le_of_ble_eq_true rfl, Nat.le_of_ble_eq_true rfl⟩ dX4_come_7 htab hlocks ⟨Nat.le_of_ble_eq_true rfl, Nat.le_of_ble_eq_true rfl⟩
    · refine mVXn (k := 0) (q := (0, 0)) (C := RX4) (T := TX4) (N := 8) (ci := 4) (n := 1) (As := [.int p3]) (rest := []) (c_X4_needColour l hfl D t b σ p3 (.inr y10) u9) sh_0 (by decide) rfl rfl hx hb hml hown hts hE hW hS q488 q490 q8 q34 q491 hy_X4_needColour ⟨rfl, rfl⟩ ⟨Nat.le_of_ble_eq_true rfl, Nat.le_of_ble_eq_true rfl⟩ rfl rfl hl.1 (Nat.le_of_ble_eq_true rfl) ⟨Nat.le_of_ble_eq_true rfl, Nat.le_of_ble_eq_true rfl⟩ dX4_come_7 (fun H locs hW hS => ?_)
      refine lv_iload_n hx hb dX4_come_10 rfl (lv_at hl 1 rfl) ?_
      refine lv_if_lt (tgt := 20) hx hb dX4_come_11 (by decide) (fun h11 => ?_) (fun h11 => ?_)
      · have hf := ifp h11 hf
        cases hf
        exact mthrow (k1 := 2) (is := 130) (text := "the purse is 0 to 99") (rest := []) hfl fit_2 hx hb hown hta hE hW hS thA_2 thB_2 (by decide +kernel) thC_2 thD_2 thE_2 (hl.1.trans hml.symm) dX4_come_20 dX4_come_23 dX4_come_24 dX4_come_26 dX4_come_29 htab (Nat.le_of_ble_eq_true rfl) (Nat.le_of_ble_eq_true rfl) (Nat.le_of_ble_eq_true rfl) (Nat.le_of_ble_eq_true rfl) hlocks (Nat.le_of_ble_eq_true rfl) (Nat.le_of_ble_eq_true rfl)
      · have hf := ifn h11 hf
        refine lv_iload_n hx hb dX4_come_14 rfl (lv_at hl 1 rfl) ?_
        refine lv_bipush (v := 99) hx hb dX4_come_15 (by decide) ?_
        refine lv_icmp_le (tgt := 30) hx hb dX4_come_17 (by decide) (fun h12 => ?_) (fun h12 => ?_)
        · have hf := ifp h12 hf
          refine lv_aload_n hx hb dX4_come_30 rfl (lv_at hl 0 rfl) ?_
          refine getP hx hb hta hown hE.1 hW 0 (by decide) q274 rfl dX4_come_31 ?_
          refine getF hx hb hta hown hE.1 hW sh_1 12 (by decide) q195 rfl dX4_come_34 ?_
          obtain ⟨y13, u14, hf⟩ := b1_e hf
          refine mV (k := (1 + 4)) (q := (2, 0)) (C := RX0) (T := TX0) (N := 10) (ci := 0) (n := 0) (As := []) (rest := []) (c_X0_haveRoom l D t b (1 + 4) σ y13 (shF_4 sh_1) u14) (shF_4 sh_1) (by decide) rfl rfl hx hb hml hown hts hE hW hS q530 q531 q532 q36 q533 hy_X0_haveRoom ⟨rfl, rfl⟩ ⟨Nat.le_of_ble_eq_true rfl, Nat.le_of_ble_eq_true rfl⟩ rfl rfl hl.1 (Nat.le_of_ble_eq_true rfl) ⟨Nat.le_of_ble_eq_true rfl, Nat.le_of_ble_eq_true rfl⟩ dX4_come_37 (fun H locs hW hS => ?_)
          refine lv_if_ne (tgt := 53) hx hb dX4_come_40 (by decide) (fun h15 => ?_) (fun h15 => ?_)
          · have hf := ifn h15 hf
            refine lv_aload_n hx hb dX4_come_53 rfl (lv_at hl 0 rfl) ?_
            obtain ⟨σ18, u17, hf⟩ := b1_e hf
            refine mV (k := 0) (q := (0, 0)) (C := RX4) (T := TX4) (N := 8) (ci := 4) (n := 0) (As := []) (rest := []) (c_X4_keepRecord l D t b σ σ18 u17) sh_0 (by decide) rfl rfl hx hb hml hown hts hE hW hS q427 q429 q4 q34 q430 hy_X4_keepRecord ⟨rfl, rfl⟩ ⟨Nat.le_of_ble_eq_true rfl, Nat.le_of_ble_eq_true rfl⟩ rfl rfl hl.1 (Nat.le_of_ble_eq_true rfl) ⟨Nat.le_of_ble_eq_true rfl, Nat.le_of_ble_eq_true rfl⟩ dX4_come_54 (fun H locs hW hS => ?_)
            refine lv_aload_n hx hb dX4_come_57 rfl (lv_at hl 0 rfl) ?_
            refine getP hx hb hta hown hE.1 hW 0 (by decide) q274 rfl dX4_come_58 ?_
            refine lv_iload_n hx hb dX4_come_61 rfl (lv_at hl 1 rfl) ?_
            refine lv_iload_n hx hb dX4_come_62 rfl (lv_at hl 2 rfl) ?_
            refine lv_iload_n hx hb dX4_come_63 rfl (lv_at hl 3 rfl) ?_
            obtain ⟨y19, σ21, u20, hf⟩ := b2_e hf
            refine mV (k := 1) (q := (1, 0)) (C := RX1) (T := TX1) (N := 13) (ci := 1) (n := 3) (As := [.int p1, .int p2, .int p3]) (rest := []) (c_X1_letIn l D t b 1 σ18 p1 p2 p3 y19 σ21 sh_1 u20) sh_1 (by decide) rfl rfl hx hb hml hown hts hE hW hS q539 q540 q541 q35 q542 hy_X1_letIn ⟨rfl, rfl⟩ ⟨Nat.le_of_ble_eq_true rfl, Nat.le_of_ble_eq_true rfl⟩ rfl rfl hl.1 (Nat.le_of_ble_eq_true rfl) ⟨Nat.le_of_ble_eq_true rfl, Nat.le_of_ble_eq_true rfl⟩ dX4_come_64 (fun H locs hW hS => ?_)
            cases hf
            refine vx_ret ?_
            refine W.widen (k := 3) (n := 18) (Nat.le_of_ble_eq_true rfl) (Nat.le_of_ble_eq_true rfl) ?_
            exact W.iret hx hb hr (fun u hu _ => ⟨_, _, rfl, ⟨rfl, by rw [hu]; exact hW⟩, hS.F hu⟩) hS.2.2 dX4_come_67
          · have hf := ifp h15 hf
            cases hf
            exact mthrow (k1 := 3) (is := 142) (text := "200 children have come or 40 are at the fair") (rest := []) hfl fit_3 hx hb hown hta hE hW hS thA_3 thB_3 (by decide +kernel) thC_3 thD_3 thE_3 (hl.1.trans hml.symm) dX4_come_43 dX4_come_46 dX4_come_47 dX4_come_49 dX4_come_52 htab (Nat.le_of_ble_eq_true rfl) (Nat.le_of_ble_eq_true rfl) (Nat.le_of_ble_eq_true rfl) (Nat.le_of_ble_eq_true rfl) hlocks (Nat.le_of_ble_eq_true rfl) (Nat.le_of_ble_eq_true rfl)
        · have hf := ifn h12 hf
          cases hf
          exact mthrow (k1 := 2) (is := 130) (text := "the purse is 0 to 99") (rest := []) hfl fit_2 hx hb hown hta hE hW hS thA_2 thB_2 (by decide +kernel) thC_2 thD_2 thE_2 (hl.1.trans hml.symm) dX4_come_20 dX4_come_23 dX4_come_24 dX4_come_26 dX4_come_29 htab (Nat.le_of_ble_eq_true rfl) (Nat.le_of_ble_eq_true rfl) (Nat.le_of_ble_eq_true rfl) (Nat.le_of_ble_eq_true rfl) hlocks (Nat.le_of_ble_eq_true rfl) (Nat.le_of_ble_eq_true rfl)
def f_X4_needHour (σ : Sg) (p1 : Int32) : Option (Nat ⊕ Unit) := if p1 < 0 then (some (.inl 1)) else (if p1 < 10 then (some (.inr ())) else (some (.inl 1)))
set_option maxHeartbeats 4000000 in
set_option maxRecDepth 100000 in
theorem c_X4_needHour (l : Launch) (hfl : l.stackTraces = false) (D : va_G) (t : Nat → ClassId) (b : Nat) (σ : Sg) (p1 : Int32) (r : (Nat ⊕ Unit)) (hf : f_X4_needHour σ p1 = some r) : vx_Met l yX4_needHour (Cond.code yX4_needHour cX4_needHour 2 none :: ALL) ({ frames := 6, cells := 1, slots := 6, locals := 82 }) (PM D t b σ [.ref (b + 0), .int p1]) (QX D t b (Sum.map (fun k => (k, σ)) (fun _ => (none, σ)) r)) (XX D t b (Sum.map (fun k => (k, σ)) (fun _ => (none, σ)) r)) 1 6 (geA b) := by
  refine vx_ofW (cc := cX4_needHour) (maxL := 2) (ret := none) (by decide) rfl ?_
  intro p e s m args below meth c s₁ B hml htab hv
  obtain ⟨rfl, hW, hE⟩ := hv
  have hx := B.exec
  have hb := B.bytes
  have hr := B.returns
  have hts := atoms_spec (ws := Cond.code yX4_needHour cX4_needHour 2 none :: ALL) B.pre
  have hta := fun w h => hts w (List.mem_cons_of_mem _ h)
  have hown : s.vm.findClass RX4 = some m.cls := findClass_of_methodNamed B.named
  have hlocks := B.notSynchronized
  have hS : va_S (geA b) s.heap s.heap [] := va_S.rf
  have hl := lv_entry ([.ref (b + 0), .int p1]) (n := 2) (Nat.le_of_ble_eq_true rfl)
  rw [lg_entry_eq]
  generalize (lg_sl ([.ref (b + 0), .int p1]) ++ List.replicate (2 - (lg_sl ([.ref (b + 0), .int p1])).length) Slot.unset).toArray = ls at hl ⊢
  have hl : lv_has ls 2 [(0, .ref (b + 0)), (1, .int p1)] := hl
  unfold f_X4_needHour at hf
  refine lv_iload_n hx hb dX4_needHour_0 rfl (lv_at hl 1 rfl) ?_
  refine lv_if_lt (tgt := 10) hx hb dX4_needHour_1 (by decide) (fun h1 => ?_) (fun h1 => ?_)
  · have hf := ifp h1 hf
    cases hf
    exact mthrowW (k1 := 1) (is := 316) (text := "there is no such hour") (rest := []) hfl fit_1 hx hb hown hta hE hW hS thA_1 thB_1 (by decide +kernel) thC_1 thD_1 thE_1 (hl.1.trans hml.symm) dX4_needHour_10 dX4_needHour_13 dX4_needHour_14 dX4_needHour_17 dX4_needHour_20 htab (Nat.le_of_ble_eq_true rfl) (Nat.le_of_ble_eq_true rfl) (Nat.le_of_ble_eq_true rfl) (Nat.le_of_ble_eq_true rfl) hlocks (Nat.le_of_ble_eq_true rfl) (Nat.le_of_ble_eq_true rfl)
  · have hf := ifn h1 hf
    refine lv_iload_n hx hb dX4_needHour_4 rfl (lv_at hl 1 rfl) ?_
    refine lv_bipush (v := 10) hx hb dX4_needHour_5 (by decide) ?_
    refine lv_icmp_lt (tgt := 21) hx hb dX4_needHour_7 (by decide) (fun h2 => ?_) (fun h2 => ?_)
    · have hf := ifp h2 hf
      cases hf
      refine vx_ret ?_
      refine W.widen (k := 1) (n := 6) (Nat.le_of_ble_eq_true rfl) (Nat.le_of_ble_eq_true rfl) ?_
      exact W.vret hx hb hr (fun u hu _ => ⟨_, _, rfl, ⟨rfl, by rw [hu]; exact hW⟩, hS.F hu⟩) hS.2.2 dX4_needHour_21
    · have hf := ifn h2 hf
      cases hf
      exact mthrowW (k1 := 1) (is := 316) (text := "there is no such hour") (rest := []) hfl fit_1 hx hb hown hta hE hW hS thA_1 thB_1 (by decide +kernel) thC_1 thD_1 thE_1 (hl.1.trans hml.symm) dX4_needHour_10 dX4_needHour_13 dX4_needHour_14 dX4_needHour_17 dX4_needHour_20 htab (Nat.le_of_ble_eq_true rfl) (Nat.le_of_ble_eq_true rfl) (Nat.le_of_ble_eq_true rfl) (Nat.le_of_ble_eq_true rfl) hlocks (Nat.le_of_ble_eq_true rfl) (Nat.le_of_ble_eq_true rfl)
def f_X4_setRain (σ : Sg) (p1 : Int32) (p2 : Int32) : Option (Nat ⊕ (Int32 × Sg)) := bt (f_X4_needHour σ p1) fun y5 => if p2 < 0 then (some (.inl 2)) else (if p2 ≤ 9 then (b1 (f_X4_keepRecord σ) fun σ10 => gd p1 10 (st (u2 σ10 (1 + 1) (p1).toNatClampNeg p2) fun σ12 => some (.inr ((σ10 (1 + 1) (p1).toNatClampNeg), σ12)))) else (some (.inl 2)))
set_option maxHeartbeats 4000000 in
set_option maxRecDepth 100000 in
theorem c_X4_setRain (l : Launch) (hfl : l.stackTraces = false) (D : va_G) (t : Nat → ClassId) (b : Nat) (σ : Sg) (p1 : Int32) (p2 : Int32) (r : (Nat ⊕ (Int32 × Sg))) (hf : f_X4_setRain σ p1 p2 = some r) : vx_Met l yX4_setRain (Cond.code yX4_setRain cX4_setRain 4 (some .int) :: ALL) ({ frames := 7, cells := 2, slots := 12, locals := 123 }) (PM D t b σ [.ref (b + 0), .int p1, .int p2]) (QX D t b (Sum.map (fun k => (k, σ)) (fun y => (some (.int y.1), y.2)) r)) (XX D t b (Sum.map (fun k => (k, σ)) (fun y => (some (.int y.1), y.2)) r)) 2 12 (geA b) := by
  refine vx_ofW (cc := cX4_setRain) (maxL := 4) (ret := (some .int)) (by decide) rfl ?_
  intro p e s m args below meth c s₁ B hml htab hv
  obtain ⟨rfl, hW, hE⟩ := hv
  have hx := B.exec
  have hb := B.bytes
  have hr := B.returns
  have hts := atoms_spec (ws := Cond.code yX4_setRain cX4_setRain 4 (some .int) :: ALL) B.pre
  have hta := fun w h => hts w (List.mem_cons_of_mem _ h)
  have hown : s.vm.findClass RX4 = some m.cls := findClass_of_methodNamed B.named
  have hlocks := B.notSynchronized
  have hS : va_S (geA b) s.heap s.heap [] := va_S.rf
  have hl := lv_entry ([.ref (b + 0), .int p1, .int p2]) (n := 4) (Nat.le_of_ble_eq_true rfl)
  rw [lg_entry_eq]
  generalize (lg_sl ([.ref (b + 0), .int p1, .int p2]) ++ List.replicate (4 - (lg_sl ([.ref (b + 0), .int p1, .int p2])).length) Slot.unset).toArray = ls at hl ⊢
  have hl : lv_has ls 4 [(0, .ref (b + 0)), (1, .int p1), (2, .int p2)] := hl
  unfold f_X4_setRain at hf
  refine lv_aload_n hx hb dX4_setRain_0 rfl (lv_at hl 0 rfl) ?_
  refine lv_iload_n hx hb dX4_setRain_1 rfl (lv_at hl 1 rfl) ?_
  rcases bt_e hf with ⟨k3, u4, hf⟩ | ⟨y5, u4, hf⟩
  · subst hf
    refine mVXt (k := 0) (q := (0, 0)) (C := RX4) (T := TX4) (N := 8) (ci := 4) (n := 1) (As := [.int p1]) (rest := []) (c_X4_needHour l hfl D t b σ p1 (.inl k3) u4) sh_0 (by decide) rfl rfl hx hb hml hown hts hE hW hS q610 q612 q9 q34 q613 hy_X4_needHour ⟨rfl, rfl⟩ ⟨Nat.le_of_ble_eq_true rfl, Nat.le_of_ble_eq_true rfl⟩ rfl rfl hl.1 (Nat.le_of_ble_eq_true rfl) ⟨Nat.le_of_ble_eq_true rfl, Nat.le_of_ble_eq_true rfl⟩ dX4_setRain_2 htab hlocks ⟨Nat.le_of_ble_eq_true rfl, Nat.le_of_ble_eq_true rfl⟩
  · refine mVXn (k := 0) (q := (0, 0)) (C := RX4) (T := TX4) (N := 8) (ci := 4) (n := 1) (As := [.int p1]) (rest := []) (c_X4_needHour l hfl D t b σ p1 (.inr y5) u4) sh_0 (by decide) rfl rfl hx hb hml hown hts hE hW hS q610 q612 q9 q34 q613 hy_X4_needHour ⟨rfl, rfl⟩ ⟨Nat.le_of_ble_eq_true rfl, Nat.le_of_ble_eq_true rfl⟩ rfl rfl hl.1 (Nat.le_of_ble_eq_true rfl) ⟨Nat.le_of_ble_eq_true rfl, Nat.le_of_ble_eq_true rfl⟩ dX4_setRain_2 (fun H locs hW hS => ?_)
    refine lv_iload_n hx hb dX4_setRain_5 rfl (lv_at hl 2 rfl) ?_
    refine lv_if_lt (tgt := 15) hx hb dX4_setRain_6 (by decide) (fun h6 => ?_) (fun h6 => ?_)
    · have hf := ifp h6 hf
      cases hf
      exact mthrow (k1 := 2) (is := 151) (text := "the rain is 0 to 9") (rest := []) hfl fit_2 hx hb hown hta hE hW hS thA_2 thB_2 (by decide +kernel) thC_2 thD_2 thE_2 (hl.1.trans hml.symm) dX4_setRain_15 dX4_setRain_18 dX4_setRain_19 dX4_setRain_21 dX4_setRain_24 htab (Nat.le_of_ble_eq_true rfl) (Nat.le_of_ble_eq_true rfl) (Nat.le_of_ble_eq_true rfl) (Nat.le_of_ble_eq_true rfl) hlocks (Nat.le_of_ble_eq_true rfl) (Nat.le_of_ble_eq_true rfl)
    · have hf := ifn h6 hf
      refine lv_iload_n hx hb dX4_setRain_9 rfl (lv_at hl 2 rfl) ?_
      refine lv_bipush (v := 9) hx hb dX4_setRain_10 (by decide) ?_
      refine lv_icmp_le (tgt := 25) hx hb dX4_setRain_12 (by decide) (fun h7 => ?_) (fun h7 => ?_)
      · have hf := ifp h7 hf
        refine lv_aload_n hx hb dX4_setRain_25 rfl (lv_at hl 0 rfl) ?_
        obtain ⟨σ10, u9, hf⟩ := b1_e hf
        refine mV (k := 0) (q := (0, 0)) (C := RX4) (T := TX4) (N := 8) (ci := 4) (n := 0) (As := []) (rest := []) (c_X4_keepRecord l D t b σ σ10 u9) sh_0 (by decide) rfl rfl hx hb hml hown hts hE hW hS q427 q429 q4 q34 q430 hy_X4_keepRecord ⟨rfl, rfl⟩ ⟨Nat.le_of_ble_eq_true rfl, Nat.le_of_ble_eq_true rfl⟩ rfl rfl hl.1 (Nat.le_of_ble_eq_true rfl) ⟨Nat.le_of_ble_eq_true rfl, Nat.le_of_ble_eq_true rfl⟩ dX4_setRain_26 (fun H locs hW hS => ?_)
        refine lv_aload_n hx hb dX4_setRain_29 rfl (lv_at hl 0 rfl) ?_
        refine getP hx hb hta hown hE.1 hW 0 (by decide) q274 rfl dX4_setRain_30 ?_
        refine getF hx hb hta hown hE.1 hW sh_1 8 (by decide) q187 rfl dX4_setRain_33 ?_
        refine lv_iload_n hx hb dX4_setRain_36 rfl (lv_at hl 1 rfl) ?_
        obtain ⟨g11, hf⟩ := gd_e hf
        refine iald hx hb hE.1 hW (shF_1 sh_1) g11 dX4_setRain_37 ?_
        refine lv_istore_n (lv' := [(3, .int (σ10 (1 + 1) (p1).toNatClampNeg)), (0, .ref (b + 0)), (1, .int p1), (2, .int p2)]) hx hb dX4_setRain_38 rfl hl (by decide) rfl (fun ls hl => ?_)
        refine lv_aload_n hx hb dX4_setRain_39 rfl (lv_at hl 1 rfl) ?_
        refine getP hx hb hta hown hE.1 hW 0 (by decide) q274 rfl dX4_setRain_40 ?_
        refine getF hx hb hta hown hE.1 hW sh_1 8 (by decide) q187 rfl dX4_setRain_43 ?_
        refine lv_iload_n hx hb dX4_setRain_46 rfl (lv_at hl 2 rfl) ?_
        refine lv_iload_n hx hb dX4_setRain_47 rfl (lv_at hl 3 rfl) ?_
        refine iast (k := (1 + 1)) (i := p1) (x := p2) hx hb hE.1 hW hS (shF_1 sh_1) g11 dX4_setRain_48 (fun H locs hW hS => ?_)
        obtain ⟨σ12, e13, hf⟩ := st_e hf
        rw [e13] at hW
        refine lv_iload_n hx hb dX4_setRain_49 rfl (lv_at hl 0 rfl) ?_
        cases hf
        refine vx_ret ?_
        refine W.widen (k := 2) (n := 12) (Nat.le_of_ble_eq_true rfl) (Nat.le_of_ble_eq_true rfl) ?_
        exact W.iret hx hb hr (fun u hu _ => ⟨_, _, rfl, ⟨rfl, by rw [hu]; exact hW⟩, hS.F hu⟩) hS.2.2 dX4_setRain_50
      · have hf := ifn h7 hf
        cases hf
        exact mthrow (k1 := 2) (is := 151) (text := "the rain is 0 to 9") (rest := []) hfl fit_2 hx hb hown hta hE hW hS thA_2 thB_2 (by decide +kernel) thC_2 thD_2 thE_2 (hl.1.trans hml.symm) dX4_setRain_15 dX4_setRain_18 dX4_setRain_19 dX4_setRain_21 dX4_setRain_24 htab (Nat.le_of_ble_eq_true rfl) (Nat.le_of_ble_eq_true rfl) (Nat.le_of_ble_eq_true rfl) (Nat.le_of_ble_eq_true rfl) hlocks (Nat.le_of_ble_eq_true rfl) (Nat.le_of_ble_eq_true rfl)
def f_X4_pass (σ : Sg) (p1 : Int32) : Option (Nat ⊕ (Int32 × Sg)) := if p1 < 1 then (some (.inl 2)) else (if p1 ≤ 40 then (b1 (f_X1_canPass 1 σ p1) fun y3 => if y3 = 0 then (some (.inl 3)) else (b1 (f_X4_keepRecord σ) fun σ8 => b1 (f_X1_letPass 1 σ8 p1) fun σ11 => some (.inr (((σ11 1 5) - (σ8 1 5)), σ11)))) else (some (.inl 2)))
set_option maxHeartbeats 4000000 in
set_option maxRecDepth 100000 in
theorem c_X4_pass (l : Launch) (hfl : l.stackTraces = false) (D : va_G) (t : Nat → ClassId) (b : Nat) (σ : Sg) (p1 : Int32) (r : (Nat ⊕ (Int32 × Sg))) (hf : f_X4_pass σ p1 = some r) : vx_Met l yX4_pass (Cond.code yX4_pass cX4_pass 3 (some .int) :: ALL) ({ frames := 6, cells := 1, slots := 6, locals := 123 }) (PM D t b σ [.ref (b + 0), .int p1]) (QX D t b (Sum.map (fun k => (k, σ)) (fun y => (some (.int y.1), y.2)) r)) (XX D t b (Sum.map (fun k => (k, σ)) (fun y => (some (.int y.1), y.2)) r)) 1 6 (geA b) := by
  refine vx_ofW (cc := cX4_pass) (maxL := 3) (ret := (some .int)) (by decide) rfl ?_
  intro p e s m args below meth c s₁ B hml htab hv
  obtain ⟨rfl, hW, hE⟩ := hv
  have hx := B.exec
  have hb := B.bytes
  have hr := B.returns
  have hts := atoms_spec (ws := Cond.code yX4_pass cX4_pass 3 (some .int) :: ALL) B.pre
  have hta := fun w h => hts w (List.mem_cons_of_mem _ h)
  have hown : s.vm.findClass RX4 = some m.cls := findClass_of_methodNamed B.named
  have hlocks := B.notSynchronized
  have hS : va_S (geA b) s.heap s.heap [] := va_S.rf
  have hl := lv_entry ([.ref (b + 0), .int p1]) (n := 3) (Nat.le_of_ble_eq_true rfl)
  rw [lg_entry_eq]
  generalize (lg_sl ([.ref (b + 0), .int p1]) ++ List.replicate (3 - (lg_sl ([.ref (b + 0), .int p1])).length) Slot.unset).toArray = ls at hl ⊢
  have hl : lv_has ls 3 [(0, .ref (b + 0)), (1, .int p1)] := hl
  unfold f_X4_pass at hf
  refine lv_iload_n hx hb dX4_pass_0 rfl (lv_at hl 1 rfl) ?_
  refine lv_iconst (v := 1) hx hb dX4_pass_1 (by decide) ?_
  refine lv_icmp_lt (tgt := 11) hx hb dX4_pass_2 (by decide) (fun h1 => ?_) (fun h1 => ?_)
  · have hf := ifp h1 hf
    cases hf
    exact mthrow (k1 := 2) (is := 157) (text := "the number of rounds is 1 to 40") (rest := []) hfl fit_2 hx hb hown hta hE hW hS thA_2 thB_2 (by decide +kernel) thC_2 thD_2 thE_2 (hl.1.trans hml.symm) dX4_pass_11 dX4_pass_14 dX4_pass_15 dX4_pass_17 dX4_pass_20 htab (Nat.le_of_ble_eq_true rfl) (Nat.le_of_ble_eq_true rfl) (Nat.le_of_ble_eq_true rfl) (Nat.le_of_ble_eq_true rfl) hlocks (Nat.le_of_ble_eq_true rfl) (Nat.le_of_ble_eq_true rfl)
  · have hf := ifn h1 hf
    refine lv_iload_n hx hb dX4_pass_5 rfl (lv_at hl 1 rfl) ?_
    refine lv_bipush (v := 40) hx hb dX4_pass_6 (by decide) ?_
    refine lv_icmp_le (tgt := 21) hx hb dX4_pass_8 (by decide) (fun h2 => ?_) (fun h2 => ?_)
    · have hf := ifp h2 hf
      refine lv_aload_n hx hb dX4_pass_21 rfl (lv_at hl 0 rfl) ?_
      refine getP hx hb hta hown hE.1 hW 0 (by decide) q274 rfl dX4_pass_22 ?_
      refine lv_iload_n hx hb dX4_pass_25 rfl (lv_at hl 1 rfl) ?_
      obtain ⟨y3, u4, hf⟩ := b1_e hf
      refine mV (k := 1) (q := (1, 0)) (C := RX1) (T := TX1) (N := 13) (ci := 1) (n := 1) (As := [.int p1]) (rest := []) (c_X1_canPass l D t b 1 σ p1 y3 sh_1 u4) sh_1 (by decide) rfl rfl hx hb hml hown hts hE hW hS q621 q622 q623 q35 q624 hy_X1_canPass ⟨rfl, rfl⟩ ⟨Nat.le_of_ble_eq_true rfl, Nat.le_of_ble_eq_true rfl⟩ rfl rfl hl.1 (Nat.le_of_ble_eq_true rfl) ⟨Nat.le_of_ble_eq_true rfl, Nat.le_of_ble_eq_true rfl⟩ dX4_pass_26 (fun H locs hW hS => ?_)
      refine lv_if_ne (tgt := 42) hx hb dX4_pass_29 (by decide) (fun h5 => ?_) (fun h5 => ?_)
      · have hf := ifn h5 hf
        refine lv_aload_n hx hb dX4_pass_42 rfl (lv_at hl 0 rfl) ?_
        obtain ⟨σ8, u7, hf⟩ := b1_e hf
        refine mV (k := 0) (q := (0, 0)) (C := RX4) (T := TX4) (N := 8) (ci := 4) (n := 0) (As := []) (rest := []) (c_X4_keepRecord l D t b σ σ8 u7) sh_0 (by decide) rfl rfl hx hb hml hown hts hE hW hS q427 q429 q4 q34 q430 hy_X4_keepRecord ⟨rfl, rfl⟩ ⟨Nat.le_of_ble_eq_true rfl, Nat.le_of_ble_eq_true rfl⟩ rfl rfl hl.1 (Nat.le_of_ble_eq_true rfl) ⟨Nat.le_of_ble_eq_true rfl, Nat.le_of_ble_eq_true rfl⟩ dX4_pass_43 (fun H locs hW hS => ?_)
        refine lv_aload_n hx hb dX4_pass_46 rfl (lv_at hl 0 rfl) ?_
        refine getP hx hb hta hown hE.1 hW 0 (by decide) q274 rfl dX4_pass_47 ?_
        refine getF hx hb hta hown hE.1 hW sh_1 5 (by decide) q181 rfl dX4_pass_50 ?_
        refine lv_istore_n (lv' := [(2, .int (σ8 1 5)), (0, .ref (b + 0)), (1, .int p1)]) hx hb dX4_pass_53 rfl hl (by decide) rfl (fun ls hl => ?_)
        refine lv_aload_n hx hb dX4_pass_54 rfl (lv_at hl 1 rfl) ?_
        refine getP hx hb hta hown hE.1 hW 0 (by decide) q274 rfl dX4_pass_55 ?_
        refine lv_iload_n hx hb dX4_pass_58 rfl (lv_at hl 2 rfl) ?_
        obtain ⟨σ11, u10, hf⟩ := b1_e hf
        refine mV (k := 1) (q := (1, 0)) (C := RX1) (T := TX1) (N := 13) (ci := 1) (n := 1) (As := [.int p1]) (rest := []) (c_X1_letPass l D t b 1 σ8 p1 σ11 sh_1 u10) sh_1 (by decide) rfl rfl hx hb hml hown hts hE hW hS q626 q627 q628 q35 q629 hy_X1_letPass ⟨rfl, rfl⟩ ⟨Nat.le_of_ble_eq_true rfl, Nat.le_of_ble_eq_true rfl⟩ rfl rfl hl.1 (Nat.le_of_ble_eq_true rfl) ⟨Nat.le_of_ble_eq_true rfl, Nat.le_of_ble_eq_true rfl⟩ dX4_pass_59 (fun H locs hW hS => ?_)
        refine lv_aload_n hx hb dX4_pass_62 rfl (lv_at hl 1 rfl) ?_
        refine getP hx hb hta hown hE.1 hW 0 (by decide) q274 rfl dX4_pass_63 ?_
        refine getF hx hb hta hown hE.1 hW sh_1 5 (by decide) q181 rfl dX4_pass_66 ?_
        refine lv_iload_n hx hb dX4_pass_69 rfl (lv_at hl 0 rfl) ?_
        refine lv_isub hx hb dX4_pass_70 ?_
        cases hf
        refine vx_ret ?_
        refine W.widen (k := 1) (n := 6) (Nat.le_of_ble_eq_true rfl) (Nat.le_of_ble_eq_true rfl) ?_
        exact W.iret hx hb hr (fun u hu _ => ⟨_, _, rfl, ⟨rfl, by rw [hu]; exact hW⟩, hS.F hu⟩) hS.2.2 dX4_pass_71
      · have hf := ifp h5 hf
        cases hf
        exact mthrow (k1 := 3) (is := 163) (text := "the last day is 9999") (rest := []) hfl fit_3 hx hb hown hta hE hW hS thA_3 thB_3 (by decide +kernel) thC_3 thD_3 thE_3 (hl.1.trans hml.symm) dX4_pass_32 dX4_pass_35 dX4_pass_36 dX4_pass_38 dX4_pass_41 htab (Nat.le_of_ble_eq_true rfl) (Nat.le_of_ble_eq_true rfl) (Nat.le_of_ble_eq_true rfl) (Nat.le_of_ble_eq_true rfl) hlocks (Nat.le_of_ble_eq_true rfl) (Nat.le_of_ble_eq_true rfl)
    · have hf := ifn h2 hf
      cases hf
      exact mthrow (k1 := 2) (is := 157) (text := "the number of rounds is 1 to 40") (rest := []) hfl fit_2 hx hb hown hta hE hW hS thA_2 thB_2 (by decide +kernel) thC_2 thD_2 thE_2 (hl.1.trans hml.symm) dX4_pass_11 dX4_pass_14 dX4_pass_15 dX4_pass_17 dX4_pass_20 htab (Nat.le_of_ble_eq_true rfl) (Nat.le_of_ble_eq_true rfl) (Nat.le_of_ble_eq_true rfl) (Nat.le_of_ble_eq_true rfl) hlocks (Nat.le_of_ble_eq_true rfl) (Nat.le_of_ble_eq_true rfl)
def f_X4_type (σ : Sg) (p1 : Int32) : Option ((Nat × Sg) ⊕ (Int32 × Sg)) := b2 (f_X2_append σ p1) fun y1 σ3 => if y1 = 0 then (some (.inl (3, σ3))) else (some (.inr ((σ3 191 1), σ3)))
set_option maxHeartbeats 4000000 in
set_option maxRecDepth 100000 in
theorem c_X4_type (l : Launch) (hfl : l.stackTraces = false) (D : va_G) (t : Nat → ClassId) (b : Nat) (σ : Sg) (p1 : Int32) (r : ((Nat × Sg) ⊕ (Int32 × Sg))) (hf : f_X4_type σ p1 = some r) : vx_Met l yX4_type (Cond.code yX4_type cX4_type 2 (some .int) :: ALL) ({ frames := 6, cells := 1, slots := 6, locals := 82 }) (PM D t b σ [.ref (b + 0), .int p1]) (QX D t b (Sum.map id (fun y => (some (.int y.1), y.2)) r)) (XX D t b (Sum.map id (fun y => (some (.int y.1), y.2)) r)) 1 6 (geA b) := by
  refine vx_ofW (cc := cX4_type) (maxL := 2) (ret := (some .int)) (by decide) rfl ?_
  intro p e s m args below meth c s₁ B hml htab hv
  obtain ⟨rfl, hW, hE⟩ := hv
  have hx := B.exec
  have hb := B.bytes
  have hr := B.returns
  have hts := atoms_spec (ws := Cond.code yX4_type cX4_type 2 (some .int) :: ALL) B.pre
  have hta := fun w h => hts w (List.mem_cons_of_mem _ h)
  have hown : s.vm.findClass RX4 = some m.cls := findClass_of_methodNamed B.named
  have hlocks := B.notSynchronized
  have hS : va_S (geA b) s.heap s.heap [] := va_S.rf
  have hl := lv_entry ([.ref (b + 0), .int p1]) (n := 2) (Nat.le_of_ble_eq_true rfl)
  rw [lg_entry_eq]
  generalize (lg_sl ([.ref (b + 0), .int p1]) ++ List.replicate (2 - (lg_sl ([.ref (b + 0), .int p1])).length) Slot.unset).toArray = ls at hl ⊢
  have hl : lv_has ls 2 [(0, .ref (b + 0)), (1, .int p1)] := hl
  unfold f_X4_type at hf
  refine lv_aload_n hx hb dX4_type_0 rfl (lv_at hl 0 rfl) ?_
  refine getP hx hb hta hown hE.1 hW 7 (by decide) q281 rfl dX4_type_1 ?_
  refine lv_iload_n hx hb dX4_type_4 rfl (lv_at hl 1 rfl) ?_
  obtain ⟨y1, σ3, u2, hf⟩ := b2_e hf
  refine mV (k := 191) (q := (4, 0)) (C := RX2) (T := TX2) (N := 11) (ci := 2) (n := 1) (As := [.int p1]) (rest := []) (c_X2_append l D t b σ p1 y1 σ3 u2) sh_191 (by decide) rfl rfl hx hb hml hown hts hE hW hS q843 q844 q845 q38 q846 hy_X2_append ⟨rfl, rfl⟩ ⟨Nat.le_of_ble_eq_true rfl, Nat.le_of_ble_eq_true rfl⟩ rfl rfl hl.1 (Nat.le_of_ble_eq_true rfl) ⟨Nat.le_of_ble_eq_true rfl, Nat.le_of_ble_eq_true rfl⟩ dX4_type_5 (fun H locs hW hS => ?_)
  refine lv_if_ne (tgt := 21) hx hb dX4_type_8 (by decide) (fun h4 => ?_) (fun h4 => ?_)
  · have hf := ifn h4 hf
    refine lv_aload_n hx hb dX4_type_21 rfl (lv_at hl 0 rfl) ?_
    refine getP hx hb hta hown hE.1 hW 7 (by decide) q281 rfl dX4_type_22 ?_
    refine getO hx hb hta hown hE.1 hW sh_191 1 (by decide) q232 rfl dX4_type_25 ?_
    cases hf
    refine vx_ret ?_
    refine W.widen (k := 1) (n := 6) (Nat.le_of_ble_eq_true rfl) (Nat.le_of_ble_eq_true rfl) ?_
    exact W.iret hx hb hr (fun u hu _ => ⟨_, _, rfl, ⟨rfl, by rw [hu]; exact hW⟩, hS.F hu⟩) hS.2.2 dX4_type_28
  · have hf := ifp h4 hf
    cases hf
    exact mthrow (k1 := 3) (is := 175) (text := "the text has 80 characters") (rest := []) hfl fit_3 hx hb hown hta hE hW hS thA_3 thB_3 (by decide +kernel) thC_3 thD_3 thE_3 (hl.1.trans hml.symm) dX4_type_11 dX4_type_14 dX4_type_15 dX4_type_17 dX4_type_20 htab (Nat.le_of_ble_eq_true rfl) (Nat.le_of_ble_eq_true rfl) (Nat.le_of_ble_eq_true rfl) (Nat.le_of_ble_eq_true rfl) hlocks (Nat.le_of_ble_eq_true rfl) (Nat.le_of_ble_eq_true rfl)
def f_X4_impossibleOrder (σ : Sg) : Option ((Nat × Sg) ⊕ (Int32 × Sg)) := b2 (f_X2_firstError σ) fun y1 σ3 => if y1 = (-1) then (b2 (f_X4_tryOrders σ3) fun y5 σ7 => some (.inr (y5, σ7))) else (some (.inl (3, σ3)))
set_option maxHeartbeats 4000000 in
set_option maxRecDepth 100000 in
theorem c_X4_impossibleOrder (l : Launch) (hfl : l.stackTraces = false) (D : va_G) (t : Nat → ClassId) (b : Nat) (σ : Sg) (r : ((Nat × Sg) ⊕ (Int32 × Sg))) (hf : f_X4_impossibleOrder σ = some r) : vx_Met l yX4_impossibleOrder (Cond.code yX4_impossibleOrder cX4_impossibleOrder 1 (some .int) :: ALL) ({ frames := 6, cells := 1, slots := 6, locals := 139 }) (PM D t b σ [.ref (b + 0)]) (QX D t b (Sum.map id (fun y => (some (.int y.1), y.2)) r)) (XX D t b (Sum.map id (fun y => (some (.int y.1), y.2)) r)) 1 6 (geA b) := by
  refine vx_ofW (cc := cX4_impossibleOrder) (maxL := 1) (ret := (some .int)) (by decide) rfl ?_
  intro p e s m args below meth c s₁ B hml htab hv
  obtain ⟨rfl, hW, hE⟩ := hv
  have hx := B.exec
  have hb := B.bytes
  have hr := B.returns
  have hts := atoms_spec (ws := Cond.code yX4_impossibleOrder cX4_impossibleOrder 1 (some .int) :: ALL) B.pre
  have hta := fun w h => hts w (List.mem_cons_of_mem _ h)
  have hown : s.vm.findClass RX4 = some m.cls := findClass_of_methodNamed B.named
  have hlocks := B.notSynchronized
  have hS : va_S (geA b) s.heap s.heap [] := va_S.rf
  have hl := lv_entry ([.ref (b + 0)]) (n := 1) (Nat.le_of_ble_eq_true rfl)
  rw [lg_entry_eq]
  generalize (lg_sl ([.ref (b + 0)]) ++ List.replicate (1 - (lg_sl ([.ref (b + 0)])).length) Slot.unset).toArray = ls at hl ⊢
  have hl : lv_has ls 1 [(0, .ref (b + 0))] := hl
  unfold f_X4_impossibleOrder at hf
  refine lv_aload_n hx hb dX4_impossibleOrder_0 rfl (lv_at hl 0 rfl) ?_
  refine getP hx hb hta hown hE.1 hW 7 (by decide) q281 rfl dX4_impossibleOrder_1 ?_
  obtain ⟨y1, σ3, u2, hf⟩ := b2_e hf
  refine mV (k := 191) (q := (4, 0)) (C := RX2) (T := TX2) (N := 11) (ci := 2) (n := 0) (As := []) (rest := []) (c_X2_firstError l D t b σ y1 σ3 u2) sh_191 (by decide) rfl rfl hx hb hml hown hts hE hW hS q852 q853 q854 q38 q855 hy_X2_firstError ⟨rfl, rfl⟩ ⟨Nat.le_of_ble_eq_true rfl, Nat.le_of_ble_eq_true rfl⟩ rfl rfl hl.1 (Nat.le_of_ble_eq_true rfl) ⟨Nat.le_of_ble_eq_true rfl, Nat.le_of_ble_eq_true rfl⟩ dX4_impossibleOrder_4 (fun H locs hW hS => ?_)
  refine lv_iconst (v := (-1)) hx hb dX4_impossibleOrder_7 (by decide) ?_
  refine lv_icmp_eq (tgt := 21) hx hb dX4_impossibleOrder_8 (by decide) (fun h4 => ?_) (fun h4 => ?_)
  · have hf := ifp h4 hf
    refine lv_aload_n hx hb dX4_impossibleOrder_21 rfl (lv_at hl 0 rfl) ?_
    obtain ⟨y5, σ7, u6, hf⟩ := b2_e hf
    refine mV (k := 0) (q := (0, 0)) (C := RX4) (T := TX4) (N := 8) (ci := 4) (n := 0) (As := []) (rest := []) (c_X4_tryOrders l D t b σ3 y5 σ7 u6) sh_0 (by decide) rfl rfl hx hb hml hown hts hE hW hS q909 q911 q31 q34 q912 hy_X4_tryOrders ⟨rfl, rfl⟩ ⟨Nat.le_of_ble_eq_true rfl, Nat.le_of_ble_eq_true rfl⟩ rfl rfl hl.1 (Nat.le_of_ble_eq_true rfl) ⟨Nat.le_of_ble_eq_true rfl, Nat.le_of_ble_eq_true rfl⟩ dX4_impossibleOrder_22 (fun H locs hW hS => ?_)
    cases hf
    refine vx_ret ?_
    refine W.widen (k := 1) (n := 6) (Nat.le_of_ble_eq_true rfl) (Nat.le_of_ble_eq_true rfl) ?_
    exact W.iret hx hb hr (fun u hu _ => ⟨_, _, rfl, ⟨rfl, by rw [hu]; exact hW⟩, hS.F hu⟩) hS.2.2 dX4_impossibleOrder_25
  · have hf := ifn h4 hf
    cases hf
    exact mthrow (k1 := 3) (is := 184) (text := "the text is not valid") (rest := []) hfl fit_3 hx hb hown hta hE hW hS thA_3 thB_3 (by decide +kernel) thC_3 thD_3 thE_3 (hl.1.trans hml.symm) dX4_impossibleOrder_11 dX4_impossibleOrder_14 dX4_impossibleOrder_15 dX4_impossibleOrder_17 dX4_impossibleOrder_20 htab (Nat.le_of_ble_eq_true rfl) (Nat.le_of_ble_eq_true rfl) (Nat.le_of_ble_eq_true rfl) (Nat.le_of_ble_eq_true rfl) hlocks (Nat.le_of_ble_eq_true rfl) (Nat.le_of_ble_eq_true rfl)
def f_X4_carryOut (σ : Sg) : Option ((Nat × Sg) ⊕ (Int32 × Sg)) := b2 (f_X2_firstError σ) fun y1 σ3 => if y1 = (-1) then (b2 (f_X4_tryOrders σ3) fun y5 σ7 => if y5 = (-1) then (b1 (f_X4_keepRecord σ7) fun σ11 => b1 (f_X1_copyFrom 1 28 σ11) fun σ14 => some (.inr ((σ14 191 3), σ14))) else (some (.inl (3, σ7)))) else (some (.inl (3, σ3)))
set_option maxHeartbeats 4000000 in
set_option maxRecDepth 100000 in
theorem c_X4_carryOut (l : Launch) (hfl : l.stackTraces = false) (D : va_G) (t : Nat → ClassId) (b : Nat) (σ : Sg) (r : ((Nat × Sg) ⊕ (Int32 × Sg))) (hf : f_X4_carryOut σ = some r) : vx_Met l yX4_carryOut (Cond.code yX4_carryOut cX4_carryOut 1 (some .int) :: ALL) ({ frames := 6, cells := 1, slots := 6, locals := 139 }) (PM D t b σ [.ref (b + 0)]) (QX D t b (Sum.map id (fun y => (some (.int y.1), y.2)) r)) (XX D t b (Sum.map id (fun y => (some (.int y.1), y.2)) r)) 1 6 (geA b) := by
  refine vx_ofW (cc := cX4_carryOut) (maxL := 1) (ret := (some .int)) (by decide) rfl ?_
  intro p e s m args below meth c s₁ B hml htab hv
  obtain ⟨rfl, hW, hE⟩ := hv
  have hx := B.exec
  have hb := B.bytes
  have hr := B.returns
  have hts := atoms_spec (ws := Cond.code yX4_carryOut cX4_carryOut 1 (some .int) :: ALL) B.pre
  have hta := fun w h => hts w (List.mem_cons_of_mem _ h)
  have hown : s.vm.findClass RX4 = some m.cls := findClass_of_methodNamed B.named
  have hlocks := B.notSynchronized
  have hS : va_S (geA b) s.heap s.heap [] := va_S.rf
  have hl := lv_entry ([.ref (b + 0)]) (n := 1) (Nat.le_of_ble_eq_true rfl)
  rw [lg_entry_eq]
  generalize (lg_sl ([.ref (b + 0)]) ++ List.replicate (1 - (lg_sl ([.ref (b + 0)])).length) Slot.unset).toArray = ls at hl ⊢
  have hl : lv_has ls 1 [(0, .ref (b + 0))] := hl
  unfold f_X4_carryOut at hf
  refine lv_aload_n hx hb dX4_carryOut_0 rfl (lv_at hl 0 rfl) ?_
  refine getP hx hb hta hown hE.1 hW 7 (by decide) q281 rfl dX4_carryOut_1 ?_
  obtain ⟨y1, σ3, u2, hf⟩ := b2_e hf
  refine mV (k := 191) (q := (4, 0)) (C := RX2) (T := TX2) (N := 11) (ci := 2) (n := 0) (As := []) (rest := []) (c_X2_firstError l D t b σ y1 σ3 u2) sh_191 (by decide) rfl rfl hx hb hml hown hts hE hW hS q852 q853 q854 q38 q855 hy_X2_firstError ⟨rfl, rfl⟩ ⟨Nat.le_of_ble_eq_true rfl, Nat.le_of_ble_eq_true rfl⟩ rfl rfl hl.1 (Nat.le_of_ble_eq_true rfl) ⟨Nat.le_of_ble_eq_true rfl, Nat.le_of_ble_eq_true rfl⟩ dX4_carryOut_4 (fun H locs hW hS => ?_)
  refine lv_iconst (v := (-1)) hx hb dX4_carryOut_7 (by decide) ?_
  refine lv_icmp_eq (tgt := 21) hx hb dX4_carryOut_8 (by decide) (fun h4 => ?_) (fun h4 => ?_)
  · have hf := ifp h4 hf
    refine lv_aload_n hx hb dX4_carryOut_21 rfl (lv_at hl 0 rfl) ?_
    obtain ⟨y5, σ7, u6, hf⟩ := b2_e hf
    refine mV (k := 0) (q := (0, 0)) (C := RX4) (T := TX4) (N := 8) (ci := 4) (n := 0) (As := []) (rest := []) (c_X4_tryOrders l D t b σ3 y5 σ7 u6) sh_0 (by decide) rfl rfl hx hb hml hown hts hE hW hS q909 q911 q31 q34 q912 hy_X4_tryOrders ⟨rfl, rfl⟩ ⟨Nat.le_of_ble_eq_true rfl, Nat.le_of_ble_eq_true rfl⟩ rfl rfl hl.1 (Nat.le_of_ble_eq_true rfl) ⟨Nat.le_of_ble_eq_true rfl, Nat.le_of_ble_eq_true rfl⟩ dX4_carryOut_22 (fun H locs hW hS => ?_)
    refine lv_iconst (v := (-1)) hx hb dX4_carryOut_25 (by decide) ?_
    refine lv_icmp_eq (tgt := 39) hx hb dX4_carryOut_26 (by decide) (fun h8 => ?_) (fun h8 => ?_)
    · have hf := ifp h8 hf
      refine lv_aload_n hx hb dX4_carryOut_39 rfl (lv_at hl 0 rfl) ?_
      obtain ⟨σ11, u10, hf⟩ := b1_e hf
      refine mV (k := 0) (q := (0, 0)) (C := RX4) (T := TX4) (N := 8) (ci := 4) (n := 0) (As := []) (rest := []) (c_X4_keepRecord l D t b σ7 σ11 u10) sh_0 (by decide) rfl rfl hx hb hml hown hts hE hW hS q427 q429 q4 q34 q430 hy_X4_keepRecord ⟨rfl, rfl⟩ ⟨Nat.le_of_ble_eq_true rfl, Nat.le_of_ble_eq_true rfl⟩ rfl rfl hl.1 (Nat.le_of_ble_eq_true rfl) ⟨Nat.le_of_ble_eq_true rfl, Nat.le_of_ble_eq_true rfl⟩ dX4_carryOut_40 (fun H locs hW hS => ?_)
      refine lv_aload_n hx hb dX4_carryOut_43 rfl (lv_at hl 0 rfl) ?_
      refine getP hx hb hta hown hE.1 hW 0 (by decide) q274 rfl dX4_carryOut_44 ?_
      refine lv_aload_n hx hb dX4_carryOut_47 rfl (lv_at hl 0 rfl) ?_
      refine getP hx hb hta hown hE.1 hW 1 (by decide) q275 rfl dX4_carryOut_48 ?_
      obtain ⟨σ14, u13, hf⟩ := b1_e hf
      refine mV (k := 1) (q := (1, 0)) (C := RX1) (T := TX1) (N := 13) (ci := 1) (n := 1) (As := [.ref (b + 28)]) (rest := []) (c_X1_copyFrom l D t b 1 28 σ11 σ14 sh_1 sh_28 u13) sh_1 (by decide) rfl rfl hx hb hml hown hts hE hW hS q431 q432 q433 q35 q434 hy_X1_copyFrom ⟨rfl, rfl⟩ ⟨Nat.le_of_ble_eq_true rfl, Nat.le_of_ble_eq_true rfl⟩ rfl rfl hl.1 (Nat.le_of_ble_eq_true rfl) ⟨Nat.le_of_ble_eq_true rfl, Nat.le_of_ble_eq_true rfl⟩ dX4_carryOut_51 (fun H locs hW hS => ?_)
      refine lv_aload_n hx hb dX4_carryOut_54 rfl (lv_at hl 0 rfl) ?_
      refine getP hx hb hta hown hE.1 hW 7 (by decide) q281 rfl dX4_carryOut_55 ?_
      refine getO hx hb hta hown hE.1 hW sh_191 3 (by decide) q235 rfl dX4_carryOut_58 ?_
      cases hf
      refine vx_ret ?_
      refine W.widen (k := 1) (n := 6) (Nat.le_of_ble_eq_true rfl) (Nat.le_of_ble_eq_true rfl) ?_
      exact W.iret hx hb hr (fun u hu _ => ⟨_, _, rfl, ⟨rfl, by rw [hu]; exact hW⟩, hS.F hu⟩) hS.2.2 dX4_carryOut_61
    · have hf := ifn h8 hf
      cases hf
      exact mthrow (k1 := 3) (is := 189) (text := "an order cannot be carried out") (rest := []) hfl fit_3 hx hb hown hta hE hW hS thA_3 thB_3 (by decide +kernel) thC_3 thD_3 thE_3 (hl.1.trans hml.symm) dX4_carryOut_29 dX4_carryOut_32 dX4_carryOut_33 dX4_carryOut_35 dX4_carryOut_38 htab (Nat.le_of_ble_eq_true rfl) (Nat.le_of_ble_eq_true rfl) (Nat.le_of_ble_eq_true rfl) (Nat.le_of_ble_eq_true rfl) hlocks (Nat.le_of_ble_eq_true rfl) (Nat.le_of_ble_eq_true rfl)
  · have hf := ifn h4 hf
    cases hf
    exact mthrow (k1 := 3) (is := 184) (text := "the text is not valid") (rest := []) hfl fit_3 hx hb hown hta hE hW hS thA_3 thB_3 (by decide +kernel) thC_3 thD_3 thE_3 (hl.1.trans hml.symm) dX4_carryOut_11 dX4_carryOut_14 dX4_carryOut_15 dX4_carryOut_17 dX4_carryOut_20 htab (Nat.le_of_ble_eq_true rfl) (Nat.le_of_ble_eq_true rfl) (Nat.le_of_ble_eq_true rfl) (Nat.le_of_ble_eq_true rfl) hlocks (Nat.le_of_ble_eq_true rfl) (Nat.le_of_ble_eq_true rfl)
def f_X4_undo (σ : Sg) : Option (Nat ⊕ (Int32 × Sg)) := if (σ 0 6) = 0 then (some (.inl 3)) else (st (u2 σ 0 5 ((((σ 0 5) + 4) - 1) - (((σ 0 5) + 4) - 1) / 4 * 4)) fun σ2 => st (u2 σ2 0 6 ((σ2 0 6) - 1)) fun σ4 => gd (σ4 0 5) 4 (b1 (f_X1_copyFrom 1 (rk 82 (σ4 0 5)) σ4) fun σ9 => some (.inr ((σ9 0 6), σ9))))
set_option maxHeartbeats 4000000 in
set_option maxRecDepth 100000 in
theorem c_X4_undo (l : Launch) (hfl : l.stackTraces = false) (D : va_G) (t : Nat → ClassId) (b : Nat) (σ : Sg) (r : (Nat ⊕ (Int32 × Sg))) (hf : f_X4_undo σ = some r) : vx_Met l yX4_undo (Cond.code yX4_undo cX4_undo 1 (some .int) :: ALL) ({ frames := 6, cells := 1, slots := 6, locals := 103 }) (PM D t b σ [.ref (b + 0)]) (QX D t b (Sum.map (fun k => (k, σ)) (fun y => (some (.int y.1), y.2)) r)) (XX D t b (Sum.map (fun k => (k, σ)) (fun y => (some (.int y.1), y.2)) r)) 1 6 (geA b) := by
  refine vx_ofW (cc := cX4_undo) (maxL := 1) (ret := (some .int)) (by decide) rfl ?_
  intro p e s m args below meth c s₁ B hml htab hv
  obtain ⟨rfl, hW, hE⟩ := hv
  have hx := B.exec
  have hb := B.bytes
  have hr := B.returns
  have hts := atoms_spec (ws := Cond.code yX4_undo cX4_undo 1 (some .int) :: ALL) B.pre
  have hta := fun w h => hts w (List.mem_cons_of_mem _ h)
  have hown : s.vm.findClass RX4 = some m.cls := findClass_of_methodNamed B.named
  have hlocks := B.notSynchronized
  have hS : va_S (geA b) s.heap s.heap [] := va_S.rf
  have hl := lv_entry ([.ref (b + 0)]) (n := 1) (Nat.le_of_ble_eq_true rfl)
  rw [lg_entry_eq]
  generalize (lg_sl ([.ref (b + 0)]) ++ List.replicate (1 - (lg_sl ([.ref (b + 0)])).length) Slot.unset).toArray = ls at hl ⊢
  have hl : lv_has ls 1 [(0, .ref (b + 0))] := hl
  unfold f_X4_undo at hf
  refine lv_aload_n hx hb dX4_undo_0 rfl (lv_at hl 0 rfl) ?_
  refine getP hx hb hta hown hE.1 hW 6 (by decide) q280 rfl dX4_undo_1 ?_
  refine lv_if_ne (tgt := 17) hx hb dX4_undo_4 (by decide) (fun h1 => ?_) (fun h1 => ?_)
  · have hf := ifn h1 hf
    refine lv_aload_n hx hb dX4_undo_17 rfl (lv_at hl 0 rfl) ?_
    refine lv_aload_n hx hb dX4_undo_18 rfl (lv_at hl 0 rfl) ?_
    refine getP hx hb hta hown hE.1 hW 5 (by decide) q279 rfl dX4_undo_19 ?_
    refine lv_iconst (v := 4) hx hb dX4_undo_22 (by decide) ?_
    refine lv_iadd hx hb dX4_undo_23 ?_
    refine lv_iconst (v := 1) hx hb dX4_undo_24 (by decide) ?_
    refine lv_isub hx hb dX4_undo_25 ?_
    refine lv_iconst (v := 4) hx hb dX4_undo_26 (by decide) ?_
    refine lv_irem hx hb dX4_undo_27 (by decide) ?_
    refine putX (k := 0) (q := (0, 0)) (ci := 4) (x := ((((σ 0 5) + 4) - 1) - (((σ 0 5) + 4) - 1) / 4 * 4)) inA4 tyX4_ok nmX4 rfl (by decide) rfl hx hb hta hown hE.1 hW hS sh_0 5 (by decide) q279 rfl rfl rfl (Nat.le_of_ble_eq_true rfl) rfl dX4_undo_28 (fun H locs hW hS => ?_)
    obtain ⟨σ2, e3, hf⟩ := st_e hf
    rw [e3] at hW
    refine lv_aload_n hx hb dX4_undo_31 rfl (lv_at hl 0 rfl) ?_
    refine lv_dup hx hb dX4_undo_32 rfl ?_
    refine getP hx hb hta hown hE.1 hW 6 (by decide) q280 rfl dX4_undo_33 ?_
    refine lv_iconst (v := 1) hx hb dX4_undo_36 (by decide) ?_
    refine lv_isub hx hb dX4_undo_37 ?_
    refine putX (k := 0) (q := (0, 0)) (ci := 4) (x := ((σ2 0 6) - 1)) inA4 tyX4_ok nmX4 rfl (by decide) rfl hx hb hta hown hE.1 hW hS sh_0 6 (by decide) q280 rfl rfl rfl (Nat.le_of_ble_eq_true rfl) rfl dX4_undo_38 (fun H locs hW hS => ?_)
    obtain ⟨σ4, e5, hf⟩ := st_e hf
    rw [e5] at hW
    refine lv_aload_n hx hb dX4_undo_41 rfl (lv_at hl 0 rfl) ?_
    refine getP hx hb hta hown hE.1 hW 0 (by decide) q274 rfl dX4_undo_42 ?_
    refine lv_aload_n hx hb dX4_undo_45 rfl (lv_at hl 0 rfl) ?_
    refine getP hx hb hta hown hE.1 hW 4 (by decide) q278 rfl dX4_undo_46 ?_
    refine lv_aload_n hx hb dX4_undo_49 rfl (lv_at hl 0 rfl) ?_
    refine getP hx hb hta hown hE.1 hW 5 (by decide) q279 rfl dX4_undo_50 ?_
    obtain ⟨g6, hf⟩ := gd_e hf
    refine rald hx hb hE.1 hW sh_82 g6 dX4_undo_53 ?_
    obtain ⟨σ9, u8, hf⟩ := b1_e hf
    refine mV (k := 1) (q := (1, 0)) (C := RX1) (T := TX1) (N := 13) (ci := 1) (n := 1) (As := [.ref (b + (rk 82 (σ4 0 5)))]) (rest := []) (c_X1_copyFrom l D t b 1 (rk 82 (σ4 0 5)) σ4 σ9 sh_1 (shR_rk g6) u8) sh_1 (by decide) rfl rfl hx hb hml hown hts hE hW hS q431 q432 q433 q35 q434 hy_X1_copyFrom ⟨rfl, rfl⟩ ⟨Nat.le_of_ble_eq_true rfl, Nat.le_of_ble_eq_true rfl⟩ rfl rfl hl.1 (Nat.le_of_ble_eq_true rfl) ⟨Nat.le_of_ble_eq_true rfl, Nat.le_of_ble_eq_true rfl⟩ dX4_undo_54 (fun H locs hW hS => ?_)
    refine lv_aload_n hx hb dX4_undo_57 rfl (lv_at hl 0 rfl) ?_
    refine getP hx hb hta hown hE.1 hW 6 (by decide) q280 rfl dX4_undo_58 ?_
    cases hf
    refine vx_ret ?_
    refine W.widen (k := 1) (n := 6) (Nat.le_of_ble_eq_true rfl) (Nat.le_of_ble_eq_true rfl) ?_
    exact W.iret hx hb hr (fun u hu _ => ⟨_, _, rfl, ⟨rfl, by rw [hu]; exact hW⟩, hS.F hu⟩) hS.2.2 dX4_undo_61
  · have hf := ifp h1 hf
    cases hf
    exact mthrow (k1 := 3) (is := 198) (text := "no state is recorded") (rest := []) hfl fit_3 hx hb hown hta hE hW hS thA_3 thB_3 (by decide +kernel) thC_3 thD_3 thE_3 (hl.1.trans hml.symm) dX4_undo_7 dX4_undo_10 dX4_undo_11 dX4_undo_13 dX4_undo_16 htab (Nat.le_of_ble_eq_true rfl) (Nat.le_of_ble_eq_true rfl) (Nat.le_of_ble_eq_true rfl) (Nat.le_of_ble_eq_true rfl) hlocks (Nat.le_of_ble_eq_true rfl) (Nat.le_of_ble_eq_true rfl)
def f_X4_restoreSnapshot (σ : Sg) : Option (Nat ⊕ (Int32 × Sg)) := if (σ 0 3) = 0 then (some (.inl 3)) else (b1 (f_X4_keepRecord σ) fun σ4 => b1 (f_X1_copyFrom 1 55 σ4) fun σ7 => some (.inr ((σ7 1 0), σ7)))
set_option maxHeartbeats 4000000 in
set_option maxRecDepth 100000 in
theorem c_X4_restoreSnapshot (l : Launch) (hfl : l.stackTraces = false) (D : va_G) (t : Nat → ClassId) (b : Nat) (σ : Sg) (r : (Nat ⊕ (Int32 × Sg))) (hf : f_X4_restoreSnapshot σ = some r) : vx_Met l yX4_restoreSnapshot (Cond.code yX4_restoreSnapshot cX4_restoreSnapshot 1 (some .int) :: ALL) ({ frames := 6, cells := 1, slots := 6, locals := 123 }) (PM D t b σ [.ref (b + 0)]) (QX D t b (Sum.map (fun k => (k, σ)) (fun y => (some (.int y.1), y.2)) r)) (XX D t b (Sum.map (fun k => (k, σ)) (fun y => (some (.int y.1), y.2)) r)) 1 6 (geA b) := by
  refine vx_ofW (cc := cX4_restoreSnapshot) (maxL := 1) (ret := (some .int)) (by decide) rfl ?_
  intro p e s m args below meth c s₁ B hml htab hv
  obtain ⟨rfl, hW, hE⟩ := hv
  have hx := B.exec
  have hb := B.bytes
  have hr := B.returns
  have hts := atoms_spec (ws := Cond.code yX4_restoreSnapshot cX4_restoreSnapshot 1 (some .int) :: ALL) B.pre
  have hta := fun w h => hts w (List.mem_cons_of_mem _ h)
  have hown : s.vm.findClass RX4 = some m.cls := findClass_of_methodNamed B.named
  have hlocks := B.notSynchronized
  have hS : va_S (geA b) s.heap s.heap [] := va_S.rf
  have hl := lv_entry ([.ref (b + 0)]) (n := 1) (Nat.le_of_ble_eq_true rfl)
  rw [lg_entry_eq]
  generalize (lg_sl ([.ref (b + 0)]) ++ List.replicate (1 - (lg_sl ([.ref (b + 0)])).length) Slot.unset).toArray = ls at hl ⊢
  have hl : lv_has ls 1 [(0, .ref (b + 0))] := hl
  unfold f_X4_restoreSnapshot at hf
  refine lv_aload_n hx hb dX4_restoreSnapshot_0 rfl (lv_at hl 0 rfl) ?_
  refine getP hx hb hta hown hE.1 hW 3 (by decide) q277 rfl dX4_restoreSnapshot_1 ?_
  refine lv_if_ne (tgt := 17) hx hb dX4_restoreSnapshot_4 (by decide) (fun h1 => ?_) (fun h1 => ?_)
  · have hf := ifn h1 hf
    refine lv_aload_n hx hb dX4_restoreSnapshot_17 rfl (lv_at hl 0 rfl) ?_
    obtain ⟨σ4, u3, hf⟩ := b1_e hf
    refine mV (k := 0) (q := (0, 0)) (C := RX4) (T := TX4) (N := 8) (ci := 4) (n := 0) (As := []) (rest := []) (c_X4_keepRecord l D t b σ σ4 u3) sh_0 (by decide) rfl rfl hx hb hml hown hts hE hW hS q427 q429 q4 q34 q430 hy_X4_keepRecord ⟨rfl, rfl⟩ ⟨Nat.le_of_ble_eq_true rfl, Nat.le_of_ble_eq_true rfl⟩ rfl rfl hl.1 (Nat.le_of_ble_eq_true rfl) ⟨Nat.le_of_ble_eq_true rfl, Nat.le_of_ble_eq_true rfl⟩ dX4_restoreSnapshot_18 (fun H locs hW hS => ?_)
    refine lv_aload_n hx hb dX4_restoreSnapshot_21 rfl (lv_at hl 0 rfl) ?_
    refine getP hx hb hta hown hE.1 hW 0 (by decide) q274 rfl dX4_restoreSnapshot_22 ?_
    refine lv_aload_n hx hb dX4_restoreSnapshot_25 rfl (lv_at hl 0 rfl) ?_
    refine getP hx hb hta hown hE.1 hW 2 (by decide) q276 rfl dX4_restoreSnapshot_26 ?_
    obtain ⟨σ7, u6, hf⟩ := b1_e hf
    refine mV (k := 1) (q := (1, 0)) (C := RX1) (T := TX1) (N := 13) (ci := 1) (n := 1) (As := [.ref (b + 55)]) (rest := []) (c_X1_copyFrom l D t b 1 55 σ4 σ7 sh_1 sh_55 u6) sh_1 (by decide) rfl rfl hx hb hml hown hts hE hW hS q431 q432 q433 q35 q434 hy_X1_copyFrom ⟨rfl, rfl⟩ ⟨Nat.le_of_ble_eq_true rfl, Nat.le_of_ble_eq_true rfl⟩ rfl rfl hl.1 (Nat.le_of_ble_eq_true rfl) ⟨Nat.le_of_ble_eq_true rfl, Nat.le_of_ble_eq_true rfl⟩ dX4_restoreSnapshot_29 (fun H locs hW hS => ?_)
    refine lv_aload_n hx hb dX4_restoreSnapshot_32 rfl (lv_at hl 0 rfl) ?_
    refine getP hx hb hta hown hE.1 hW 0 (by decide) q274 rfl dX4_restoreSnapshot_33 ?_
    refine getF hx hb hta hown hE.1 hW sh_1 0 (by decide) q171 rfl dX4_restoreSnapshot_36 ?_
    cases hf
    refine vx_ret ?_
    refine W.widen (k := 1) (n := 6) (Nat.le_of_ble_eq_true rfl) (Nat.le_of_ble_eq_true rfl) ?_
    exact W.iret hx hb hr (fun u hu _ => ⟨_, _, rfl, ⟨rfl, by rw [hu]; exact hW⟩, hS.F hu⟩) hS.2.2 dX4_restoreSnapshot_39
  · have hf := ifp h1 hf
    cases hf
    exact mthrow (k1 := 3) (is := 203) (text := "there is no snapshot") (rest := []) hfl fit_3 hx hb hown hta hE hW hS thA_3 thB_3 (by decide +kernel) thC_3 thD_3 thE_3 (hl.1.trans hml.symm) dX4_restoreSnapshot_7 dX4_restoreSnapshot_10 dX4_restoreSnapshot_11 dX4_restoreSnapshot_13 dX4_restoreSnapshot_16 htab (Nat.le_of_ble_eq_true rfl) (Nat.le_of_ble_eq_true rfl) (Nat.le_of_ble_eq_true rfl) (Nat.le_of_ble_eq_true rfl) hlocks (Nat.le_of_ble_eq_true rfl) (Nat.le_of_ble_eq_true rfl)
def f_X4_pitchOf (σ : Sg) (p1 : Int32) : Option (Nat ⊕ Int32) := bt (f_X4_stallNumbered σ p1) fun y5 => sg y5 3 (some (.inr (σ y5 0)))
set_option maxHeartbeats 4000000 in
set_option maxRecDepth 100000 in
theorem c_X4_pitchOf (l : Launch) (hfl : l.stackTraces = false) (D : va_G) (t : Nat → ClassId) (b : Nat) (σ : Sg) (p1 : Int32) (r : (Nat ⊕ Int32)) (hf : f_X4_pitchOf σ p1 = some r) : vx_Met l yX4_pitchOf (Cond.code yX4_pitchOf cX4_pitchOf 2 (some .int) :: ALL) ({ frames := 8, cells := 1, slots := 6, locals := 124 }) (PM D t b σ [.ref (b + 0), .int p1]) (QX D t b (Sum.map (fun k => (k, σ)) (fun y => (some (.int y), σ)) r)) (XX D t b (Sum.map (fun k => (k, σ)) (fun y => (some (.int y), σ)) r)) 1 6 (geA b) := by
  refine vx_ofW (cc := cX4_pitchOf) (maxL := 2) (ret := (some .int)) (by decide) rfl ?_
  intro p e s m args below meth c s₁ B hml htab hv
  obtain ⟨rfl, hW, hE⟩ := hv
  have hx := B.exec
  have hb := B.bytes
  have hr := B.returns
  have hts := atoms_spec (ws := Cond.code yX4_pitchOf cX4_pitchOf 2 (some .int) :: ALL) B.pre
  have hta := fun w h => hts w (List.mem_cons_of_mem _ h)
  have hown : s.vm.findClass RX4 = some m.cls := findClass_of_methodNamed B.named
  have hlocks := B.notSynchronized
  have hS : va_S (geA b) s.heap s.heap [] := va_S.rf
  have hl := lv_entry ([.ref (b + 0), .int p1]) (n := 2) (Nat.le_of_ble_eq_true rfl)
  rw [lg_entry_eq]
  generalize (lg_sl ([.ref (b + 0), .int p1]) ++ List.replicate (2 - (lg_sl ([.ref (b + 0), .int p1])).length) Slot.unset).toArray = ls at hl ⊢
  have hl : lv_has ls 2 [(0, .ref (b + 0)), (1, .int p1)] := hl
  unfold f_X4_pitchOf at hf
  refine lv_aload_n hx hb dX4_pitchOf_0 rfl (lv_at hl 0 rfl) ?_
  refine lv_iload_n hx hb dX4_pitchOf_1 rfl (lv_at hl 1 rfl) ?_
  rcases bt_e hf with ⟨k3, u4, hf⟩ | ⟨y5, u4, hf⟩
  · subst hf
    refine mVXt (k := 0) (q := (0, 0)) (C := RX4) (T := TX4) (N := 8) (ci := 4) (n := 1) (As := [.int p1]) (rest := []) (c_X4_stallNumbered l hfl D t b σ p1 (.inl k3) u4) sh_0 (by decide) rfl rfl hx hb hml hown hts hE hW hS q470 q472 q5 q34 q473 hy_X4_stallNumbered ⟨rfl, rfl⟩ ⟨Nat.le_of_ble_eq_true rfl, Nat.le_of_ble_eq_true rfl⟩ rfl rfl hl.1 (Nat.le_of_ble_eq_true rfl) ⟨Nat.le_of_ble_eq_true rfl, Nat.le_of_ble_eq_true rfl⟩ dX4_pitchOf_2 htab hlocks ⟨Nat.le_of_ble_eq_true rfl, Nat.le_of_ble_eq_true rfl⟩
  · refine mVXn (k := 0) (q := (0, 0)) (C := RX4) (T := TX4) (N := 8) (ci := 4) (n := 1) (As := [.int p1]) (rest := []) (c_X4_stallNumbered l hfl D t b σ p1 (.inr y5) u4) sh_0 (by decide) rfl rfl hx hb hml hown hts hE hW hS q470 q472 q5 q34 q473 hy_X4_stallNumbered ⟨rfl, rfl⟩ ⟨Nat.le_of_ble_eq_true rfl, Nat.le_of_ble_eq_true rfl⟩ rfl rfl hl.1 (Nat.le_of_ble_eq_true rfl) ⟨Nat.le_of_ble_eq_true rfl, Nat.le_of_ble_eq_true rfl⟩ dX4_pitchOf_2 (fun H locs hW hS => ?_)
    obtain ⟨g6, hf⟩ := sg_e hf
    refine getS hx hb hta hown hE.1 hW g6 0 (by decide) q122 rfl dX4_pitchOf_5 ?_
    cases hf
    refine vx_ret ?_
    refine W.widen (k := 1) (n := 6) (Nat.le_of_ble_eq_true rfl) (Nat.le_of_ble_eq_true rfl) ?_
    exact W.iret hx hb hr (fun u hu _ => ⟨_, _, rfl, ⟨rfl, by rw [hu]; exact hW⟩, hS.F hu⟩) hS.2.2 dX4_pitchOf_8
def f_X4_stallOn (σ : Sg) (p1 : Int32) : Option (Nat ⊕ Int32) := bt (f_X4_needPitch σ p1) fun y5 => b1 (f_X1_findStall 1 σ p1) fun y6 => some (.inr y6)
set_option maxHeartbeats 4000000 in
set_option maxRecDepth 100000 in
theorem c_X4_stallOn (l : Launch) (hfl : l.stackTraces = false) (D : va_G) (t : Nat → ClassId) (b : Nat) (σ : Sg) (p1 : Int32) (r : (Nat ⊕ Int32)) (hf : f_X4_stallOn σ p1 = some r) : vx_Met l yX4_stallOn (Cond.code yX4_stallOn cX4_stallOn 2 (some .int) :: ALL) ({ frames := 7, cells := 1, slots := 6, locals := 103 }) (PM D t b σ [.ref (b + 0), .int p1]) (QX D t b (Sum.map (fun k => (k, σ)) (fun y => (some (.int y), σ)) r)) (XX D t b (Sum.map (fun k => (k, σ)) (fun y => (some (.int y), σ)) r)) 1 6 (geA b) := by
  refine vx_ofW (cc := cX4_stallOn) (maxL := 2) (ret := (some .int)) (by decide) rfl ?_
  intro p e s m args below meth c s₁ B hml htab hv
  obtain ⟨rfl, hW, hE⟩ := hv
  have hx := B.exec
  have hb := B.bytes
  have hr := B.returns
  have hts := atoms_spec (ws := Cond.code yX4_stallOn cX4_stallOn 2 (some .int) :: ALL) B.pre
  have hta := fun w h => hts w (List.mem_cons_of_mem _ h)
  have hown : s.vm.findClass RX4 = some m.cls := findClass_of_methodNamed B.named
  have hlocks := B.notSynchronized
  have hS : va_S (geA b) s.heap s.heap [] := va_S.rf
  have hl := lv_entry ([.ref (b + 0), .int p1]) (n := 2) (Nat.le_of_ble_eq_true rfl)
  rw [lg_entry_eq]
  generalize (lg_sl ([.ref (b + 0), .int p1]) ++ List.replicate (2 - (lg_sl ([.ref (b + 0), .int p1])).length) Slot.unset).toArray = ls at hl ⊢
  have hl : lv_has ls 2 [(0, .ref (b + 0)), (1, .int p1)] := hl
  unfold f_X4_stallOn at hf
  refine lv_aload_n hx hb dX4_stallOn_0 rfl (lv_at hl 0 rfl) ?_
  refine lv_iload_n hx hb dX4_stallOn_1 rfl (lv_at hl 1 rfl) ?_
  rcases bt_e hf with ⟨k3, u4, hf⟩ | ⟨y5, u4, hf⟩
  · subst hf
    refine mVXt (k := 0) (q := (0, 0)) (C := RX4) (T := TX4) (N := 8) (ci := 4) (n := 1) (As := [.int p1]) (rest := []) (c_X4_needPitch l hfl D t b σ p1 (.inl k3) u4) sh_0 (by decide) rfl rfl hx hb hml hown hts hE hW hS q303 q305 q0 q34 q306 hy_X4_needPitch ⟨rfl, rfl⟩ ⟨Nat.le_of_ble_eq_true rfl, Nat.le_of_ble_eq_true rfl⟩ rfl rfl hl.1 (Nat.le_of_ble_eq_true rfl) ⟨Nat.le_of_ble_eq_true rfl, Nat.le_of_ble_eq_true rfl⟩ dX4_stallOn_2 htab hlocks ⟨Nat.le_of_ble_eq_true rfl, Nat.le_of_ble_eq_true rfl⟩
  · refine mVXn (k := 0) (q := (0, 0)) (C := RX4) (T := TX4) (N := 8) (ci := 4) (n := 1) (As := [.int p1]) (rest := []) (c_X4_needPitch l hfl D t b σ p1 (.inr y5) u4) sh_0 (by decide) rfl rfl hx hb hml hown hts hE hW hS q303 q305 q0 q34 q306 hy_X4_needPitch ⟨rfl, rfl⟩ ⟨Nat.le_of_ble_eq_true rfl, Nat.le_of_ble_eq_true rfl⟩ rfl rfl hl.1 (Nat.le_of_ble_eq_true rfl) ⟨Nat.le_of_ble_eq_true rfl, Nat.le_of_ble_eq_true rfl⟩ dX4_stallOn_2 (fun H locs hW hS => ?_)
    refine lv_aload_n hx hb dX4_stallOn_5 rfl (lv_at hl 0 rfl) ?_
    refine getP hx hb hta hown hE.1 hW 0 (by decide) q274 rfl dX4_stallOn_6 ?_
    refine lv_iload_n hx hb dX4_stallOn_9 rfl (lv_at hl 1 rfl) ?_
    obtain ⟨y6, u7, hf⟩ := b1_e hf
    refine mV (k := 1) (q := (1, 0)) (C := RX1) (T := TX1) (N := 13) (ci := 1) (n := 1) (As := [.int p1]) (rest := []) (c_X1_findStall l D t b 1 σ p1 y6 sh_1 u7) sh_1 (by decide) rfl rfl hx hb hml hown hts hE hW hS q809 q405 q406 q35 q407 hy_X1_findStall ⟨rfl, rfl⟩ ⟨Nat.le_of_ble_eq_true rfl, Nat.le_of_ble_eq_true rfl⟩ rfl rfl hl.1 (Nat.le_of_ble_eq_true rfl) ⟨Nat.le_of_ble_eq_true rfl, Nat.le_of_ble_eq_true rfl⟩ dX4_stallOn_10 (fun H locs hW hS => ?_)
    cases hf
    refine vx_ret ?_
    refine W.widen (k := 1) (n := 6) (Nat.le_of_ble_eq_true rfl) (Nat.le_of_ble_eq_true rfl) ?_
    exact W.iret hx hb hr (fun u hu _ => ⟨_, _, rfl, ⟨rfl, by rw [hu]; exact hW⟩, hS.F hu⟩) hS.2.2 dX4_stallOn_13
def f_X4_priceOf (σ : Sg) (p1 : Int32) : Option (Nat ⊕ Int32) := bt (f_X4_stallNumbered σ p1) fun y5 => sg y5 3 (some (.inr (σ y5 2)))
set_option maxHeartbeats 4000000 in
set_option maxRecDepth 100000 in
theorem c_X4_priceOf (l : Launch) (hfl : l.stackTraces = false) (D : va_G) (t : Nat → ClassId) (b : Nat) (σ : Sg) (p1 : Int32) (r : (Nat ⊕ Int32)) (hf : f_X4_priceOf σ p1 = some r) : vx_Met l yX4_priceOf (Cond.code yX4_priceOf cX4_priceOf 2 (some .int) :: ALL) ({ frames := 8, cells := 1, slots := 6, locals := 124 }) (PM D t b σ [.ref (b + 0), .int p1]) (QX D t b (Sum.map (fun k => (k, σ)) (fun y => (some (.int y), σ)) r)) (XX D t b (Sum.map (fun k => (k, σ)) (fun y => (some (.int y), σ)) r)) 1 6 (geA b) := by
  refine vx_ofW (cc := cX4_priceOf) (maxL := 2) (ret := (some .int)) (by decide) rfl ?_
  intro p e s m args below meth c s₁ B hml htab hv
  obtain ⟨rfl, hW, hE⟩ := hv
  have hx := B.exec
  have hb := B.bytes
  have hr := B.returns
  have hts := atoms_spec (ws := Cond.code yX4_priceOf cX4_priceOf 2 (some .int) :: ALL) B.pre
  have hta := fun w h => hts w (List.mem_cons_of_mem _ h)
  have hown : s.vm.findClass RX4 = some m.cls := findClass_of_methodNamed B.named
  have hlocks := B.notSynchronized
  have hS : va_S (geA b) s.heap s.heap [] := va_S.rf
  have hl := lv_entry ([.ref (b + 0), .int p1]) (n := 2) (Nat.le_of_ble_eq_true rfl)
  rw [lg_entry_eq]
  generalize (lg_sl ([.ref (b + 0), .int p1]) ++ List.replicate (2 - (lg_sl ([.ref (b + 0), .int p1])).length) Slot.unset).toArray = ls at hl ⊢
  have hl : lv_has ls 2 [(0, .ref (b + 0)), (1, .int p1)] := hl
  unfold f_X4_priceOf at hf
  refine lv_aload_n hx hb dX4_priceOf_0 rfl (lv_at hl 0 rfl) ?_
  refine lv_iload_n hx hb dX4_priceOf_1 rfl (lv_at hl 1 rfl) ?_
  rcases bt_e hf with ⟨k3, u4, hf⟩ | ⟨y5, u4, hf⟩
  · subst hf
    refine mVXt (k := 0) (q := (0, 0)) (C := RX4) (T := TX4) (N := 8) (ci := 4) (n := 1) (As := [.int p1]) (rest := []) (c_X4_stallNumbered l hfl D t b σ p1 (.inl k3) u4) sh_0 (by decide) rfl rfl hx hb hml hown hts hE hW hS q470 q472 q5 q34 q473 hy_X4_stallNumbered ⟨rfl, rfl⟩ ⟨Nat.le_of_ble_eq_true rfl, Nat.le_of_ble_eq_true rfl⟩ rfl rfl hl.1 (Nat.le_of_ble_eq_true rfl) ⟨Nat.le_of_ble_eq_true rfl, Nat.le_of_ble_eq_true rfl⟩ dX4_priceOf_2 htab hlocks ⟨Nat.le_of_ble_eq_true rfl, Nat.le_of_ble_eq_true rfl⟩
  · refine mVXn (k := 0) (q := (0, 0)) (C := RX4) (T := TX4) (N := 8) (ci := 4) (n := 1) (As := [.int p1]) (rest := []) (c_X4_stallNumbered l hfl D t b σ p1 (.inr y5) u4) sh_0 (by decide) rfl rfl hx hb hml hown hts hE hW hS q470 q472 q5 q34 q473 hy_X4_stallNumbered ⟨rfl, rfl⟩ ⟨Nat.le_of_ble_eq_true rfl, Nat.le_of_ble_eq_true rfl⟩ rfl rfl hl.1 (Nat.le_of_ble_eq_true rfl) ⟨Nat.le_of_ble_eq_true rfl, Nat.le_of_ble_eq_true rfl⟩ dX4_priceOf_2 (fun H locs hW hS => ?_)
    obtain ⟨g6, hf⟩ := sg_e hf
    refine getS hx hb hta hown hE.1 hW g6 2 (by decide) q127 rfl dX4_priceOf_5 ?_
    cases hf
    refine vx_ret ?_
    refine W.widen (k := 1) (n := 6) (Nat.le_of_ble_eq_true rfl) (Nat.le_of_ble_eq_true rfl) ?_
    exact W.iret hx hb hr (fun u hu _ => ⟨_, _, rfl, ⟨rfl, by rw [hu]; exact hW⟩, hS.F hu⟩) hS.2.2 dX4_priceOf_8
def f_X4_isOpen (σ : Sg) (p1 : Int32) : Option (Nat ⊕ Int32) := bt (f_X4_stallNumbered σ p1) fun y5 => sg y5 3 (gd (σ y5 4) 2 (some (.inr (σ y5 4))))
set_option maxHeartbeats 4000000 in
set_option maxRecDepth 100000 in
theorem c_X4_isOpen (l : Launch) (hfl : l.stackTraces = false) (D : va_G) (t : Nat → ClassId) (b : Nat) (σ : Sg) (p1 : Int32) (r : (Nat ⊕ Int32)) (hf : f_X4_isOpen σ p1 = some r) : vx_Met l yX4_isOpen (Cond.code yX4_isOpen cX4_isOpen 2 (some .boolean) :: ALL) ({ frames := 8, cells := 1, slots := 6, locals := 124 }) (PM D t b σ [.ref (b + 0), .int p1]) (QX D t b (Sum.map (fun k => (k, σ)) (fun y => (some (.int y), σ)) r)) (XX D t b (Sum.map (fun k => (k, σ)) (fun y => (some (.int y), σ)) r)) 1 6 (geA b) := by
  refine vx_ofW (cc := cX4_isOpen) (maxL := 2) (ret := (some .boolean)) (by decide) rfl ?_
  intro p e s m args below meth c s₁ B hml htab hv
  obtain ⟨rfl, hW, hE⟩ := hv
  have hx := B.exec
  have hb := B.bytes
  have hr := B.returns
  have hts := atoms_spec (ws := Cond.code yX4_isOpen cX4_isOpen 2 (some .boolean) :: ALL) B.pre
  have hta := fun w h => hts w (List.mem_cons_of_mem _ h)
  have hown : s.vm.findClass RX4 = some m.cls := findClass_of_methodNamed B.named
  have hlocks := B.notSynchronized
  have hS : va_S (geA b) s.heap s.heap [] := va_S.rf
  have hl := lv_entry ([.ref (b + 0), .int p1]) (n := 2) (Nat.le_of_ble_eq_true rfl)
  rw [lg_entry_eq]
  generalize (lg_sl ([.ref (b + 0), .int p1]) ++ List.replicate (2 - (lg_sl ([.ref (b + 0), .int p1])).length) Slot.unset).toArray = ls at hl ⊢
  have hl : lv_has ls 2 [(0, .ref (b + 0)), (1, .int p1)] := hl
  unfold f_X4_isOpen at hf
  refine lv_aload_n hx hb dX4_isOpen_0 rfl (lv_at hl 0 rfl) ?_
  refine lv_iload_n hx hb dX4_isOpen_1 rfl (lv_at hl 1 rfl) ?_
  rcases bt_e hf with ⟨k3, u4, hf⟩ | ⟨y5, u4, hf⟩
  · subst hf
    refine mVXt (k := 0) (q := (0, 0)) (C := RX4) (T := TX4) (N := 8) (ci := 4) (n := 1) (As := [.int p1]) (rest := []) (c_X4_stallNumbered l hfl D t b σ p1 (.inl k3) u4) sh_0 (by decide) rfl rfl hx hb hml hown hts hE hW hS q470 q472 q5 q34 q473 hy_X4_stallNumbered ⟨rfl, rfl⟩ ⟨Nat.le_of_ble_eq_true rfl, Nat.le_of_ble_eq_true rfl⟩ rfl rfl hl.1 (Nat.le_of_ble_eq_true rfl) ⟨Nat.le_of_ble_eq_true rfl, Nat.le_of_ble_eq_true rfl⟩ dX4_isOpen_2 htab hlocks ⟨Nat.le_of_ble_eq_true rfl, Nat.le_of_ble_eq_true rfl⟩
  · refine mVXn (k := 0) (q := (0, 0)) (C := RX4) (T := TX4) (N := 8) (ci := 4) (n := 1) (As := [.int p1]) (rest := []) (c_X4_stallNumbered l hfl D t b σ p1 (.inr y5) u4) sh_0 (by decide) rfl rfl hx hb hml hown hts hE hW hS q470 q472 q5 q34 q473 hy_X4_stallNumbered ⟨rfl, rfl⟩ ⟨Nat.le_of_ble_eq_true rfl, Nat.le_of_ble_eq_true rfl⟩ rfl rfl hl.1 (Nat.le_of_ble_eq_true rfl) ⟨Nat.le_of_ble_eq_true rfl, Nat.le_of_ble_eq_true rfl⟩ dX4_isOpen_2 (fun H locs hW hS => ?_)
    obtain ⟨g6, hf⟩ := sg_e hf
    refine getS hx hb hta hown hE.1 hW g6 4 (by decide) q133 rfl dX4_isOpen_5 ?_
    obtain ⟨g7, hf⟩ := gd_e hf
    cases hf
    refine vx_ret ?_
    refine W.widen (k := 1) (n := 6) (Nat.le_of_ble_eq_true rfl) (Nat.le_of_ble_eq_true rfl) ?_
    exact W.zret (ty := .boolean) hx hb hr (nar_bool g7).1 (fun u hu _ => ⟨_, _, rfl, ⟨rfl, by rw [hu]; exact hW⟩, hS.F hu⟩) hS.2.2 dX4_isOpen_8
def f_X4_purseOfStall (σ : Sg) (p1 : Int32) : Option (Nat ⊕ Int32) := bt (f_X4_stallNumbered σ p1) fun y5 => sg y5 3 (some (.inr (σ y5 5)))
set_option maxHeartbeats 4000000 in
set_option maxRecDepth 100000 in
theorem c_X4_purseOfStall (l : Launch) (hfl : l.stackTraces = false) (D : va_G) (t : Nat → ClassId) (b : Nat) (σ : Sg) (p1 : Int32) (r : (Nat ⊕ Int32)) (hf : f_X4_purseOfStall σ p1 = some r) : vx_Met l yX4_purseOfStall (Cond.code yX4_purseOfStall cX4_purseOfStall 2 (some .int) :: ALL) ({ frames := 8, cells := 1, slots := 6, locals := 124 }) (PM D t b σ [.ref (b + 0), .int p1]) (QX D t b (Sum.map (fun k => (k, σ)) (fun y => (some (.int y), σ)) r)) (XX D t b (Sum.map (fun k => (k, σ)) (fun y => (some (.int y), σ)) r)) 1 6 (geA b) := by
  refine vx_ofW (cc := cX4_purseOfStall) (maxL := 2) (ret := (some .int)) (by decide) rfl ?_
  intro p e s m args below meth c s₁ B hml htab hv
  obtain ⟨rfl, hW, hE⟩ := hv
  have hx := B.exec
  have hb := B.bytes
  have hr := B.returns
  have hts := atoms_spec (ws := Cond.code yX4_purseOfStall cX4_purseOfStall 2 (some .int) :: ALL) B.pre
  have hta := fun w h => hts w (List.mem_cons_of_mem _ h)
  have hown : s.vm.findClass RX4 = some m.cls := findClass_of_methodNamed B.named
  have hlocks := B.notSynchronized
  have hS : va_S (geA b) s.heap s.heap [] := va_S.rf
  have hl := lv_entry ([.ref (b + 0), .int p1]) (n := 2) (Nat.le_of_ble_eq_true rfl)
  rw [lg_entry_eq]
  generalize (lg_sl ([.ref (b + 0), .int p1]) ++ List.replicate (2 - (lg_sl ([.ref (b + 0), .int p1])).length) Slot.unset).toArray = ls at hl ⊢
  have hl : lv_has ls 2 [(0, .ref (b + 0)), (1, .int p1)] := hl
  unfold f_X4_purseOfStall at hf
  refine lv_aload_n hx hb dX4_purseOfStall_0 rfl (lv_at hl 0 rfl) ?_
  refine lv_iload_n hx hb dX4_purseOfStall_1 rfl (lv_at hl 1 rfl) ?_
  rcases bt_e hf with ⟨k3, u4, hf⟩ | ⟨y5, u4, hf⟩
  · subst hf
    refine mVXt (k := 0) (q := (0, 0)) (C := RX4) (T := TX4) (N := 8) (ci := 4) (n := 1) (As := [.int p1]) (rest := []) (c_X4_stallNumbered l hfl D t b σ p1 (.inl k3) u4) sh_0 (by decide) rfl rfl hx hb hml hown hts hE hW hS q470 q472 q5 q34 q473 hy_X4_stallNumbered ⟨rfl, rfl⟩ ⟨Nat.le_of_ble_eq_true rfl, Nat.le_of_ble_eq_true rfl⟩ rfl rfl hl.1 (Nat.le_of_ble_eq_true rfl) ⟨Nat.le_of_ble_eq_true rfl, Nat.le_of_ble_eq_true rfl⟩ dX4_purseOfStall_2 htab hlocks ⟨Nat.le_of_ble_eq_true rfl, Nat.le_of_ble_eq_true rfl⟩
  · refine mVXn (k := 0) (q := (0, 0)) (C := RX4) (T := TX4) (N := 8) (ci := 4) (n := 1) (As := [.int p1]) (rest := []) (c_X4_stallNumbered l hfl D t b σ p1 (.inr y5) u4) sh_0 (by decide) rfl rfl hx hb hml hown hts hE hW hS q470 q472 q5 q34 q473 hy_X4_stallNumbered ⟨rfl, rfl⟩ ⟨Nat.le_of_ble_eq_true rfl, Nat.le_of_ble_eq_true rfl⟩ rfl rfl hl.1 (Nat.le_of_ble_eq_true rfl) ⟨Nat.le_of_ble_eq_true rfl, Nat.le_of_ble_eq_true rfl⟩ dX4_purseOfStall_2 (fun H locs hW hS => ?_)
    obtain ⟨g6, hf⟩ := sg_e hf
    refine getS hx hb hta hown hE.1 hW g6 5 (by decide) q136 rfl dX4_purseOfStall_5 ?_
    cases hf
    refine vx_ret ?_
    refine W.widen (k := 1) (n := 6) (Nat.le_of_ble_eq_true rfl) (Nat.le_of_ble_eq_true rfl) ?_
    exact W.iret hx hb hr (fun u hu _ => ⟨_, _, rfl, ⟨rfl, by rw [hu]; exact hW⟩, hS.F hu⟩) hS.2.2 dX4_purseOfStall_8
def f_X4_playsOf (σ : Sg) (p1 : Int32) : Option (Nat ⊕ Int32) := bt (f_X4_stallNumbered σ p1) fun y5 => sg y5 3 (some (.inr (σ y5 6)))
set_option maxHeartbeats 4000000 in
set_option maxRecDepth 100000 in
theorem c_X4_playsOf (l : Launch) (hfl : l.stackTraces = false) (D : va_G) (t : Nat → ClassId) (b : Nat) (σ : Sg) (p1 : Int32) (r : (Nat ⊕ Int32)) (hf : f_X4_playsOf σ p1 = some r) : vx_Met l yX4_playsOf (Cond.code yX4_playsOf cX4_playsOf 2 (some .int) :: ALL) ({ frames := 8, cells := 1, slots := 6, locals := 124 }) (PM D t b σ [.ref (b + 0), .int p1]) (QX D t b (Sum.map (fun k => (k, σ)) (fun y => (some (.int y), σ)) r)) (XX D t b (Sum.map (fun k => (k, σ)) (fun y => (some (.int y), σ)) r)) 1 6 (geA b) := by
  refine vx_ofW (cc := cX4_playsOf) (maxL := 2) (ret := (some .int)) (by decide) rfl ?_
  intro p e s m args below meth c s₁ B hml htab hv
  obtain ⟨rfl, hW, hE⟩ := hv
  have hx := B.exec
  have hb := B.bytes
  have hr := B.returns
  have hts := atoms_spec (ws := Cond.code yX4_playsOf cX4_playsOf 2 (some .int) :: ALL) B.pre
  have hta := fun w h => hts w (List.mem_cons_of_mem _ h)
  have hown : s.vm.findClass RX4 = some m.cls := findClass_of_methodNamed B.named
  have hlocks := B.notSynchronized
  have hS : va_S (geA b) s.heap s.heap [] := va_S.rf
  have hl := lv_entry ([.ref (b + 0), .int p1]) (n := 2) (Nat.le_of_ble_eq_true rfl)
  rw [lg_entry_eq]
  generalize (lg_sl ([.ref (b + 0), .int p1]) ++ List.replicate (2 - (lg_sl ([.ref (b + 0), .int p1])).length) Slot.unset).toArray = ls at hl ⊢
  have hl : lv_has ls 2 [(0, .ref (b + 0)), (1, .int p1)] := hl
  unfold f_X4_playsOf at hf
  refine lv_aload_n hx hb dX4_playsOf_0 rfl (lv_at hl 0 rfl) ?_
  refine lv_iload_n hx hb dX4_playsOf_1 rfl (lv_at hl 1 rfl) ?_
  rcases bt_e hf with ⟨k3, u4, hf⟩ | ⟨y5, u4, hf⟩
  · subst hf
    refine mVXt (k := 0) (q := (0, 0)) (C := RX4) (T := TX4) (N := 8) (ci := 4) (n := 1) (As := [.int p1]) (rest := []) (c_X4_stallNumbered l hfl D t b σ p1 (.inl k3) u4) sh_0 (by decide) rfl rfl hx hb hml hown hts hE hW hS q470 q472 q5 q34 q473 hy_X4_stallNumbered ⟨rfl, rfl⟩ ⟨Nat.le_of_ble_eq_true rfl, Nat.le_of_ble_eq_true rfl⟩ rfl rfl hl.1 (Nat.le_of_ble_eq_true rfl) ⟨Nat.le_of_ble_eq_true rfl, Nat.le_of_ble_eq_true rfl⟩ dX4_playsOf_2 htab hlocks ⟨Nat.le_of_ble_eq_true rfl, Nat.le_of_ble_eq_true rfl⟩
  · refine mVXn (k := 0) (q := (0, 0)) (C := RX4) (T := TX4) (N := 8) (ci := 4) (n := 1) (As := [.int p1]) (rest := []) (c_X4_stallNumbered l hfl D t b σ p1 (.inr y5) u4) sh_0 (by decide) rfl rfl hx hb hml hown hts hE hW hS q470 q472 q5 q34 q473 hy_X4_stallNumbered ⟨rfl, rfl⟩ ⟨Nat.le_of_ble_eq_true rfl, Nat.le_of_ble_eq_true rfl⟩ rfl rfl hl.1 (Nat.le_of_ble_eq_true rfl) ⟨Nat.le_of_ble_eq_true rfl, Nat.le_of_ble_eq_true rfl⟩ dX4_playsOf_2 (fun H locs hW hS => ?_)
    obtain ⟨g6, hf⟩ := sg_e hf
    refine getS hx hb hta hown hE.1 hW g6 6 (by decide) q139 rfl dX4_playsOf_5 ?_
    cases hf
    refine vx_ret ?_
    refine W.widen (k := 1) (n := 6) (Nat.le_of_ble_eq_true rfl) (Nat.le_of_ble_eq_true rfl) ?_
    exact W.iret hx hb hr (fun u hu _ => ⟨_, _, rfl, ⟨rfl, by rw [hu]; exact hW⟩, hS.F hu⟩) hS.2.2 dX4_playsOf_8
def f_X4_rentOf (σ : Sg) (p1 : Int32) : Option (Nat ⊕ Int32) := bt (f_X4_stallNumbered σ p1) fun y5 => sg y5 3 (b1 (f_X3_rent y5 σ) fun y7 => some (.inr y7))
set_option maxHeartbeats 4000000 in
set_option maxRecDepth 100000 in
theorem c_X4_rentOf (l : Launch) (hfl : l.stackTraces = false) (D : va_G) (t : Nat → ClassId) (b : Nat) (σ : Sg) (p1 : Int32) (r : (Nat ⊕ Int32)) (hf : f_X4_rentOf σ p1 = some r) : vx_Met l yX4_rentOf (Cond.code yX4_rentOf cX4_rentOf 2 (some .int) :: ALL) ({ frames := 8, cells := 1, slots := 6, locals := 124 }) (PM D t b σ [.ref (b + 0), .int p1]) (QX D t b (Sum.map (fun k => (k, σ)) (fun y => (some (.int y), σ)) r)) (XX D t b (Sum.map (fun k => (k, σ)) (fun y => (some (.int y), σ)) r)) 1 6 (geA b) := by
  refine vx_ofW (cc := cX4_rentOf) (maxL := 2) (ret := (some .int)) (by decide) rfl ?_
  intro p e s m args below meth c s₁ B hml htab hv
  obtain ⟨rfl, hW, hE⟩ := hv
  have hx := B.exec
  have hb := B.bytes
  have hr := B.returns
  have hts := atoms_spec (ws := Cond.code yX4_rentOf cX4_rentOf 2 (some .int) :: ALL) B.pre
  have hta := fun w h => hts w (List.mem_cons_of_mem _ h)
  have hown : s.vm.findClass RX4 = some m.cls := findClass_of_methodNamed B.named
  have hlocks := B.notSynchronized
  have hS : va_S (geA b) s.heap s.heap [] := va_S.rf
  have hl := lv_entry ([.ref (b + 0), .int p1]) (n := 2) (Nat.le_of_ble_eq_true rfl)
  rw [lg_entry_eq]
  generalize (lg_sl ([.ref (b + 0), .int p1]) ++ List.replicate (2 - (lg_sl ([.ref (b + 0), .int p1])).length) Slot.unset).toArray = ls at hl ⊢
  have hl : lv_has ls 2 [(0, .ref (b + 0)), (1, .int p1)] := hl
  unfold f_X4_rentOf at hf
  refine lv_aload_n hx hb dX4_rentOf_0 rfl (lv_at hl 0 rfl) ?_
  refine lv_iload_n hx hb dX4_rentOf_1 rfl (lv_at hl 1 rfl) ?_
  rcases bt_e hf with ⟨k3, u4, hf⟩ | ⟨y5, u4, hf⟩
  · subst hf
    refine mVXt (k := 0) (q := (0, 0)) (C := RX4) (T := TX4) (N := 8) (ci := 4) (n := 1) (As := [.int p1]) (rest := []) (c_X4_stallNumbered l hfl D t b σ p1 (.inl k3) u4) sh_0 (by decide) rfl rfl hx hb hml hown hts hE hW hS q470 q472 q5 q34 q473 hy_X4_stallNumbered ⟨rfl, rfl⟩ ⟨Nat.le_of_ble_eq_true rfl, Nat.le_of_ble_eq_true rfl⟩ rfl rfl hl.1 (Nat.le_of_ble_eq_true rfl) ⟨Nat.le_of_ble_eq_true rfl, Nat.le_of_ble_eq_true rfl⟩ dX4_rentOf_2 htab hlocks ⟨Nat.le_of_ble_eq_true rfl, Nat.le_of_ble_eq_true rfl⟩
  · refine mVXn (k := 0) (q := (0, 0)) (C := RX4) (T := TX4) (N := 8) (ci := 4) (n := 1) (As := [.int p1]) (rest := []) (c_X4_stallNumbered l hfl D t b σ p1 (.inr y5) u4) sh_0 (by decide) rfl rfl hx hb hml hown hts hE hW hS q470 q472 q5 q34 q473 hy_X4_stallNumbered ⟨rfl, rfl⟩ ⟨Nat.le_of_ble_eq_true rfl, Nat.le_of_ble_eq_true rfl⟩ rfl rfl hl.1 (Nat.le_of_ble_eq_true rfl) ⟨Nat.le_of_ble_eq_true rfl, Nat.le_of_ble_eq_true rfl⟩ dX4_rentOf_2 (fun H locs hW hS => ?_)
    obtain ⟨g6, hf⟩ := sg_e hf
    obtain ⟨y7, u8, hf⟩ := b1_e hf
    refine mV (k := y5) (q := (3, 0)) (C := RX3) (T := TX3) (N := 11) (ci := 3) (n := 0) (As := []) (rest := []) (c_X3_rent l D t b y5 σ y7 g6 u8) g6 (by decide) rfl rfl hx hb hml hown hts hE hW hS q743 q713 q714 q37 q715 hy_X3_rent ⟨rfl, rfl⟩ ⟨Nat.le_of_ble_eq_true rfl, Nat.le_of_ble_eq_true rfl⟩ rfl rfl hl.1 (Nat.le_of_ble_eq_true rfl) ⟨Nat.le_of_ble_eq_true rfl, Nat.le_of_ble_eq_true rfl⟩ dX4_rentOf_5 (fun H locs hW hS => ?_)
    cases hf
    refine vx_ret ?_
    refine W.widen (k := 1) (n := 6) (Nat.le_of_ble_eq_true rfl) (Nat.le_of_ble_eq_true rfl) ?_
    exact W.iret hx hb hr (fun u hu _ => ⟨_, _, rfl, ⟨rfl, by rw [hu]; exact hW⟩, hS.F hu⟩) hS.2.2 dX4_rentOf_8
def f_X4_playsToWin (σ : Sg) (p1 : Int32) : Option (Nat ⊕ Int32) := bt (f_X4_stallNumbered σ p1) fun y5 => sg y5 3 (b1 (f_X3_playsUntilWin y5 σ) fun y7 => some (.inr y7))
set_option maxHeartbeats 4000000 in
set_option maxRecDepth 100000 in
theorem c_X4_playsToWin (l : Launch) (hfl : l.stackTraces = false) (D : va_G) (t : Nat → ClassId) (b : Nat) (σ : Sg) (p1 : Int32) (r : (Nat ⊕ Int32)) (hf : f_X4_playsToWin σ p1 = some r) : vx_Met l yX4_playsToWin (Cond.code yX4_playsToWin cX4_playsToWin 2 (some .int) :: ALL) ({ frames := 8, cells := 1, slots := 6, locals := 124 }) (PM D t b σ [.ref (b + 0), .int p1]) (QX D t b (Sum.map (fun k => (k, σ)) (fun y => (some (.int y), σ)) r)) (XX D t b (Sum.map (fun k => (k, σ)) (fun y => (some (.int y), σ)) r)) 1 6 (geA b) := by
  refine vx_ofW (cc := cX4_playsToWin) (maxL := 2) (ret := (some .int)) (by decide) rfl ?_
  intro p e s m args below meth c s₁ B hml htab hv
  obtain ⟨rfl, hW, hE⟩ := hv
  have hx := B.exec
  have hb := B.bytes
  have hr := B.returns
  have hts := atoms_spec (ws := Cond.code yX4_playsToWin cX4_playsToWin 2 (some .int) :: ALL) B.pre
  have hta := fun w h => hts w (List.mem_cons_of_mem _ h)
  have hown : s.vm.findClass RX4 = some m.cls := findClass_of_methodNamed B.named
  have hlocks := B.notSynchronized
  have hS : va_S (geA b) s.heap s.heap [] := va_S.rf
  have hl := lv_entry ([.ref (b + 0), .int p1]) (n := 2) (Nat.le_of_ble_eq_true rfl)
  rw [lg_entry_eq]
  generalize (lg_sl ([.ref (b + 0), .int p1]) ++ List.replicate (2 - (lg_sl ([.ref (b + 0), .int p1])).length) Slot.unset).toArray = ls at hl ⊢
  have hl : lv_has ls 2 [(0, .ref (b + 0)), (1, .int p1)] := hl
  unfold f_X4_playsToWin at hf
  refine lv_aload_n hx hb dX4_playsToWin_0 rfl (lv_at hl 0 rfl) ?_
  refine lv_iload_n hx hb dX4_playsToWin_1 rfl (lv_at hl 1 rfl) ?_
  rcases bt_e hf with ⟨k3, u4, hf⟩ | ⟨y5, u4, hf⟩
  · subst hf
    refine mVXt (k := 0) (q := (0, 0)) (C := RX4) (T := TX4) (N := 8) (ci := 4) (n := 1) (As := [.int p1]) (rest := []) (c_X4_stallNumbered l hfl D t b σ p1 (.inl k3) u4) sh_0 (by decide) rfl rfl hx hb hml hown hts hE hW hS q470 q472 q5 q34 q473 hy_X4_stallNumbered ⟨rfl, rfl⟩ ⟨Nat.le_of_ble_eq_true rfl, Nat.le_of_ble_eq_true rfl⟩ rfl rfl hl.1 (Nat.le_of_ble_eq_true rfl) ⟨Nat.le_of_ble_eq_true rfl, Nat.le_of_ble_eq_true rfl⟩ dX4_playsToWin_2 htab hlocks ⟨Nat.le_of_ble_eq_true rfl, Nat.le_of_ble_eq_true rfl⟩
  · refine mVXn (k := 0) (q := (0, 0)) (C := RX4) (T := TX4) (N := 8) (ci := 4) (n := 1) (As := [.int p1]) (rest := []) (c_X4_stallNumbered l hfl D t b σ p1 (.inr y5) u4) sh_0 (by decide) rfl rfl hx hb hml hown hts hE hW hS q470 q472 q5 q34 q473 hy_X4_stallNumbered ⟨rfl, rfl⟩ ⟨Nat.le_of_ble_eq_true rfl, Nat.le_of_ble_eq_true rfl⟩ rfl rfl hl.1 (Nat.le_of_ble_eq_true rfl) ⟨Nat.le_of_ble_eq_true rfl, Nat.le_of_ble_eq_true rfl⟩ dX4_playsToWin_2 (fun H locs hW hS => ?_)
    obtain ⟨g6, hf⟩ := sg_e hf
    obtain ⟨y7, u8, hf⟩ := b1_e hf
    refine mV (k := y5) (q := (3, 0)) (C := RX3) (T := TX3) (N := 11) (ci := 3) (n := 0) (As := []) (rest := []) (c_X3_playsUntilWin l D t b y5 σ y7 g6 u8) g6 (by decide) rfl rfl hx hb hml hown hts hE hW hS q748 q676 q677 q37 q678 hy_X3_playsUntilWin ⟨rfl, rfl⟩ ⟨Nat.le_of_ble_eq_true rfl, Nat.le_of_ble_eq_true rfl⟩ rfl rfl hl.1 (Nat.le_of_ble_eq_true rfl) ⟨Nat.le_of_ble_eq_true rfl, Nat.le_of_ble_eq_true rfl⟩ dX4_playsToWin_5 (fun H locs hW hS => ?_)
    cases hf
    refine vx_ret ?_
    refine W.widen (k := 1) (n := 6) (Nat.le_of_ble_eq_true rfl) (Nat.le_of_ble_eq_true rfl) ?_
    exact W.iret hx hb hr (fun u hu _ => ⟨_, _, rfl, ⟨rfl, by rw [hu]; exact hW⟩, hS.F hu⟩) hS.2.2 dX4_playsToWin_8
def f_X4_prizesOn (σ : Sg) (p1 : Int32) (p2 : Int32) (p3 : Int32) : Option (Nat ⊕ Int32) := bt (f_X4_stallNumbered σ p1) fun y5 => sg y5 3 (bt (f_X4_needLevel σ p2) fun y11 => bt (f_X4_needColour σ p3) fun y16 => gd ((p2 * 4) + p3) 16 (some (.inr (σ (y5 + 1) (((p2 * 4) + p3)).toNatClampNeg))))
set_option maxHeartbeats 4000000 in
set_option maxRecDepth 100000 in
theorem c_X4_prizesOn (l : Launch) (hfl : l.stackTraces = false) (D : va_G) (t : Nat → ClassId) (b : Nat) (σ : Sg) (p1 : Int32) (p2 : Int32) (p3 : Int32) (r : (Nat ⊕ Int32)) (hf : f_X4_prizesOn σ p1 p2 p3 = some r) : vx_Met l yX4_prizesOn (Cond.code yX4_prizesOn cX4_prizesOn 5 (some .int) :: ALL) ({ frames := 8, cells := 3, slots := 18, locals := 124 }) (PM D t b σ [.ref (b + 0), .int p1, .int p2, .int p3]) (QX D t b (Sum.map (fun k => (k, σ)) (fun y => (some (.int y), σ)) r)) (XX D t b (Sum.map (fun k => (k, σ)) (fun y => (some (.int y), σ)) r)) 3 18 (geA b) := by
  refine vx_ofW (cc := cX4_prizesOn) (maxL := 5) (ret := (some .int)) (by decide) rfl ?_
  intro p e s m args below meth c s₁ B hml htab hv
  obtain ⟨rfl, hW, hE⟩ := hv
  have hx := B.exec
  have hb := B.bytes
  have hr := B.returns
  have hts := atoms_spec (ws := Cond.code yX4_prizesOn cX4_prizesOn 5 (some .int) :: ALL) B.pre
  have hta := fun w h => hts w (List.mem_cons_of_mem _ h)
  have hown : s.vm.findClass RX4 = some m.cls := findClass_of_methodNamed B.named
  have hlocks := B.notSynchronized
  have hS : va_S (geA b) s.heap s.heap [] := va_S.rf
  have hl := lv_entry ([.ref (b + 0), .int p1, .int p2, .int p3]) (n := 5) (Nat.le_of_ble_eq_true rfl)
  rw [lg_entry_eq]
  generalize (lg_sl ([.ref (b + 0), .int p1, .int p2, .int p3]) ++ List.replicate (5 - (lg_sl ([.ref (b + 0), .int p1, .int p2, .int p3])).length) Slot.unset).toArray = ls at hl ⊢
  have hl : lv_has ls 5 [(0, .ref (b + 0)), (1, .int p1), (2, .int p2), (3, .int p3)] := hl
  unfold f_X4_prizesOn at hf
  refine lv_aload_n hx hb dX4_prizesOn_0 rfl (lv_at hl 0 rfl) ?_
  refine lv_iload_n hx hb dX4_prizesOn_1 rfl (lv_at hl 1 rfl) ?_
  rcases bt_e hf with ⟨k3, u4, hf⟩ | ⟨y5, u4, hf⟩
  · subst hf
    refine mVXt (k := 0) (q := (0, 0)) (C := RX4) (T := TX4) (N := 8) (ci := 4) (n := 1) (As := [.int p1]) (rest := []) (c_X4_stallNumbered l hfl D t b σ p1 (.inl k3) u4) sh_0 (by decide) rfl rfl hx hb hml hown hts hE hW hS q470 q472 q5 q34 q473 hy_X4_stallNumbered ⟨rfl, rfl⟩ ⟨Nat.le_of_ble_eq_true rfl, Nat.le_of_ble_eq_true rfl⟩ rfl rfl hl.1 (Nat.le_of_ble_eq_true rfl) ⟨Nat.le_of_ble_eq_true rfl, Nat.le_of_ble_eq_true rfl⟩ dX4_prizesOn_2 htab hlocks ⟨Nat.le_of_ble_eq_true rfl, Nat.le_of_ble_eq_true rfl⟩
  · refine mVXn (k := 0) (q := (0, 0)) (C := RX4) (T := TX4) (N := 8) (ci := 4) (n := 1) (As := [.int p1]) (rest := []) (c_X4_stallNumbered l hfl D t b σ p1 (.inr y5) u4) sh_0 (by decide) rfl rfl hx hb hml hown hts hE hW hS q470 q472 q5 q34 q473 hy_X4_stallNumbered ⟨rfl, rfl⟩ ⟨Nat.le_of_ble_eq_true rfl, Nat.le_of_ble_eq_true rfl⟩ rfl rfl hl.1 (Nat.le_of_ble_eq_true rfl) ⟨Nat.le_of_ble_eq_true rfl, Nat.le_of_ble_eq_true rfl⟩ dX4_prizesOn_2 (fun H locs hW hS => ?_)
    obtain ⟨g6, hf⟩ := sg_e hf
    refine lv_astore (lv' := [(4, .ref (b + y5)), (0, .ref (b + 0)), (1, .int p1), (2, .int p2), (3, .int p3)]) hx hb dX4_prizesOn_5 hl (by decide) rfl (fun ls hl => ?_)
    refine lv_aload_n hx hb dX4_prizesOn_7 rfl (lv_at hl 1 rfl) ?_
    refine lv_iload_n hx hb dX4_prizesOn_8 rfl (lv_at hl 3 rfl) ?_
    rcases bt_e hf with ⟨k9, u10, hf⟩ | ⟨y11, u10, hf⟩
    · subst hf
      refine mVXt (k := 0) (q := (0, 0)) (C := RX4) (T := TX4) (N := 8) (ci := 4) (n := 1) (As := [.int p2]) (rest := []) (c_X4_needLevel l hfl D t b σ p2 (.inl k9) u10) sh_0 (by decide) rfl rfl hx hb hml hown hts hE hW hS q483 q485 q7 q34 q486 hy_X4_needLevel ⟨rfl, rfl⟩ ⟨Nat.le_of_ble_eq_true rfl, Nat.le_of_ble_eq_true rfl⟩ rfl rfl hl.1 (Nat.le_of_ble_eq_true rfl) ⟨Nat.le_of_ble_eq_true rfl, Nat.le_of_ble_eq_true rfl⟩ dX4_prizesOn_9 htab hlocks ⟨Nat.le_of_ble_eq_true rfl, Nat.le_of_ble_eq_true rfl⟩
    · refine mVXn (k := 0) (q := (0, 0)) (C := RX4) (T := TX4) (N := 8) (ci := 4) (n := 1) (As := [.int p2]) (rest := []) (c_X4_needLevel l hfl D t b σ p2 (.inr y11) u10) sh_0 (by decide) rfl rfl hx hb hml hown hts hE hW hS q483 q485 q7 q34 q486 hy_X4_needLevel ⟨rfl, rfl⟩ ⟨Nat.le_of_ble_eq_true rfl, Nat.le_of_ble_eq_true rfl⟩ rfl rfl hl.1 (Nat.le_of_ble_eq_true rfl) ⟨Nat.le_of_ble_eq_true rfl, Nat.le_of_ble_eq_true rfl⟩ dX4_prizesOn_9 (fun H locs hW hS => ?_)
      refine lv_aload_n hx hb dX4_prizesOn_12 rfl (lv_at hl 1 rfl) ?_
      refine lv_iload_n hx hb dX4_prizesOn_13 rfl (lv_at hl 4 rfl) ?_
      rcases bt_e hf with ⟨k14, u15, hf⟩ | ⟨y16, u15, hf⟩
      · subst hf
        refine mVXt (k := 0) (q := (0, 0)) (C := RX4) (T := TX4) (N := 8) (ci := 4) (n := 1) (As := [.int p3]) (rest := []) (c_X4_needColour l hfl D t b σ p3 (.inl k14) u15) sh_0 (by decide) rfl rfl hx hb hml hown hts hE hW hS q488 q490 q8 q34 q491 hy_X4_needColour ⟨rfl, rfl⟩ ⟨Nat.le_of_ble_eq_true rfl, Nat.le_of_ble_eq_true rfl⟩ rfl rfl hl.1 (Nat.le_of_ble_eq_true rfl) ⟨Nat.le_of_ble_eq_true rfl, Nat.le_of_ble_eq_true rfl⟩ dX4_prizesOn_14 htab hlocks ⟨Nat.le_of_ble_eq_true rfl, Nat.le_of_ble_eq_true rfl⟩
      · refine mVXn (k := 0) (q := (0, 0)) (C := RX4) (T := TX4) (N := 8) (ci := 4) (n := 1) (As := [.int p3]) (rest := []) (c_X4_needColour l hfl D t b σ p3 (.inr y16) u15) sh_0 (by decide) rfl rfl hx hb hml hown hts hE hW hS q488 q490 q8 q34 q491 hy_X4_needColour ⟨rfl, rfl⟩ ⟨Nat.le_of_ble_eq_true rfl, Nat.le_of_ble_eq_true rfl⟩ rfl rfl hl.1 (Nat.le_of_ble_eq_true rfl) ⟨Nat.le_of_ble_eq_true rfl, Nat.le_of_ble_eq_true rfl⟩ dX4_prizesOn_14 (fun H locs hW hS => ?_)
        refine lv_aload hx hb dX4_prizesOn_17 (lv_at hl 0 rfl) ?_
        refine getS hx hb hta hown hE.1 hW g6 10 (by decide) q146 rfl dX4_prizesOn_19 ?_
        refine lv_iload_n hx hb dX4_prizesOn_22 rfl (lv_at hl 3 rfl) ?_
        refine lv_iconst (v := 4) hx hb dX4_prizesOn_23 (by decide) ?_
        refine lv_imul hx hb dX4_prizesOn_24 ?_
        refine lv_iload_n hx hb dX4_prizesOn_25 rfl (lv_at hl 4 rfl) ?_
        refine lv_iadd hx hb dX4_prizesOn_26 ?_
        obtain ⟨g17, hf⟩ := gd_e hf
        refine iald hx hb hE.1 hW (shS_1 g6) g17 dX4_prizesOn_27 ?_
        cases hf
        refine vx_ret ?_
        refine W.widen (k := 3) (n := 18) (Nat.le_of_ble_eq_true rfl) (Nat.le_of_ble_eq_true rfl) ?_
        exact W.iret hx hb hr (fun u hu _ => ⟨_, _, rfl, ⟨rfl, by rw [hu]; exact hW⟩, hS.F hu⟩) hS.2.2 dX4_prizesOn_28
def f_X4_shelfOf (σ : Sg) (p1 : Int32) : Option (Nat ⊕ Int32) := bt (f_X4_stallNumbered σ p1) fun y5 => sg y5 3 (b1 (f_X3_prizesOnShelf y5 σ) fun y7 => some (.inr y7))
set_option maxHeartbeats 4000000 in
set_option maxRecDepth 100000 in
theorem c_X4_shelfOf (l : Launch) (hfl : l.stackTraces = false) (D : va_G) (t : Nat → ClassId) (b : Nat) (σ : Sg) (p1 : Int32) (r : (Nat ⊕ Int32)) (hf : f_X4_shelfOf σ p1 = some r) : vx_Met l yX4_shelfOf (Cond.code yX4_shelfOf cX4_shelfOf 2 (some .int) :: ALL) ({ frames := 8, cells := 1, slots := 6, locals := 124 }) (PM D t b σ [.ref (b + 0), .int p1]) (QX D t b (Sum.map (fun k => (k, σ)) (fun y => (some (.int y), σ)) r)) (XX D t b (Sum.map (fun k => (k, σ)) (fun y => (some (.int y), σ)) r)) 1 6 (geA b) := by
  refine vx_ofW (cc := cX4_shelfOf) (maxL := 2) (ret := (some .int)) (by decide) rfl ?_
  intro p e s m args below meth c s₁ B hml htab hv
  obtain ⟨rfl, hW, hE⟩ := hv
  have hx := B.exec
  have hb := B.bytes
  have hr := B.returns
  have hts := atoms_spec (ws := Cond.code yX4_shelfOf cX4_shelfOf 2 (some .int) :: ALL) B.pre
  have hta := fun w h => hts w (List.mem_cons_of_mem _ h)
  have hown : s.vm.findClass RX4 = some m.cls := findClass_of_methodNamed B.named
  have hlocks := B.notSynchronized
  have hS : va_S (geA b) s.heap s.heap [] := va_S.rf
  have hl := lv_entry ([.ref (b + 0), .int p1]) (n := 2) (Nat.le_of_ble_eq_true rfl)
  rw [lg_entry_eq]
  generalize (lg_sl ([.ref (b + 0), .int p1]) ++ List.replicate (2 - (lg_sl ([.ref (b + 0), .int p1])).length) Slot.unset).toArray = ls at hl ⊢
  have hl : lv_has ls 2 [(0, .ref (b + 0)), (1, .int p1)] := hl
  unfold f_X4_shelfOf at hf
  refine lv_aload_n hx hb dX4_shelfOf_0 rfl (lv_at hl 0 rfl) ?_
  refine lv_iload_n hx hb dX4_shelfOf_1 rfl (lv_at hl 1 rfl) ?_
  rcases bt_e hf with ⟨k3, u4, hf⟩ | ⟨y5, u4, hf⟩
  · subst hf
    refine mVXt (k := 0) (q := (0, 0)) (C := RX4) (T := TX4) (N := 8) (ci := 4) (n := 1) (As := [.int p1]) (rest := []) (c_X4_stallNumbered l hfl D t b σ p1 (.inl k3) u4) sh_0 (by decide) rfl rfl hx hb hml hown hts hE hW hS q470 q472 q5 q34 q473 hy_X4_stallNumbered ⟨rfl, rfl⟩ ⟨Nat.le_of_ble_eq_true rfl, Nat.le_of_ble_eq_true rfl⟩ rfl rfl hl.1 (Nat.le_of_ble_eq_true rfl) ⟨Nat.le_of_ble_eq_true rfl, Nat.le_of_ble_eq_true rfl⟩ dX4_shelfOf_2 htab hlocks ⟨Nat.le_of_ble_eq_true rfl, Nat.le_of_ble_eq_true rfl⟩
  · refine mVXn (k := 0) (q := (0, 0)) (C := RX4) (T := TX4) (N := 8) (ci := 4) (n := 1) (As := [.int p1]) (rest := []) (c_X4_stallNumbered l hfl D t b σ p1 (.inr y5) u4) sh_0 (by decide) rfl rfl hx hb hml hown hts hE hW hS q470 q472 q5 q34 q473 hy_X4_stallNumbered ⟨rfl, rfl⟩ ⟨Nat.le_of_ble_eq_true rfl, Nat.le_of_ble_eq_true rfl⟩ rfl rfl hl.1 (Nat.le_of_ble_eq_true rfl) ⟨Nat.le_of_ble_eq_true rfl, Nat.le_of_ble_eq_true rfl⟩ dX4_shelfOf_2 (fun H locs hW hS => ?_)
    obtain ⟨g6, hf⟩ := sg_e hf
    obtain ⟨y7, u8, hf⟩ := b1_e hf
    refine mV (k := y5) (q := (3, 0)) (C := RX3) (T := TX3) (N := 11) (ci := 3) (n := 0) (As := []) (rest := []) (c_X3_prizesOnShelf l D t b y5 σ y7 g6 u8) g6 (by decide) rfl rfl hx hb hml hown hts hE hW hS q753 q500 q501 q37 q502 hy_X3_prizesOnShelf ⟨rfl, rfl⟩ ⟨Nat.le_of_ble_eq_true rfl, Nat.le_of_ble_eq_true rfl⟩ rfl rfl hl.1 (Nat.le_of_ble_eq_true rfl) ⟨Nat.le_of_ble_eq_true rfl, Nat.le_of_ble_eq_true rfl⟩ dX4_shelfOf_5 (fun H locs hW hS => ?_)
    cases hf
    refine vx_ret ?_
    refine W.widen (k := 1) (n := 6) (Nat.le_of_ble_eq_true rfl) (Nat.le_of_ble_eq_true rfl) ?_
    exact W.iret hx hb hr (fun u hu _ => ⟨_, _, rfl, ⟨rfl, by rw [hu]; exact hW⟩, hS.F hu⟩) hS.2.2 dX4_shelfOf_8
def f_X4_levelToWin (σ : Sg) (p1 : Int32) : Option (Nat ⊕ Int32) := bt (f_X4_stallNumbered σ p1) fun y5 => sg y5 3 (b1 (f_X3_levelOnOffer y5 σ) fun y7 => some (.inr y7))
set_option maxHeartbeats 4000000 in
set_option maxRecDepth 100000 in
theorem c_X4_levelToWin (l : Launch) (hfl : l.stackTraces = false) (D : va_G) (t : Nat → ClassId) (b : Nat) (σ : Sg) (p1 : Int32) (r : (Nat ⊕ Int32)) (hf : f_X4_levelToWin σ p1 = some r) : vx_Met l yX4_levelToWin (Cond.code yX4_levelToWin cX4_levelToWin 2 (some .int) :: ALL) ({ frames := 8, cells := 1, slots := 6, locals := 124 }) (PM D t b σ [.ref (b + 0), .int p1]) (QX D t b (Sum.map (fun k => (k, σ)) (fun y => (some (.int y), σ)) r)) (XX D t b (Sum.map (fun k => (k, σ)) (fun y => (some (.int y), σ)) r)) 1 6 (geA b) := by
  refine vx_ofW (cc := cX4_levelToWin) (maxL := 2) (ret := (some .int)) (by decide) rfl ?_
  intro p e s m args below meth c s₁ B hml htab hv
  obtain ⟨rfl, hW, hE⟩ := hv
  have hx := B.exec
  have hb := B.bytes
  have hr := B.returns
  have hts := atoms_spec (ws := Cond.code yX4_levelToWin cX4_levelToWin 2 (some .int) :: ALL) B.pre
  have hta := fun w h => hts w (List.mem_cons_of_mem _ h)
  have hown : s.vm.findClass RX4 = some m.cls := findClass_of_methodNamed B.named
  have hlocks := B.notSynchronized
  have hS : va_S (geA b) s.heap s.heap [] := va_S.rf
  have hl := lv_entry ([.ref (b + 0), .int p1]) (n := 2) (Nat.le_of_ble_eq_true rfl)
  rw [lg_entry_eq]
  generalize (lg_sl ([.ref (b + 0), .int p1]) ++ List.replicate (2 - (lg_sl ([.ref (b + 0), .int p1])).length) Slot.unset).toArray = ls at hl ⊢
  have hl : lv_has ls 2 [(0, .ref (b + 0)), (1, .int p1)] := hl
  unfold f_X4_levelToWin at hf
  refine lv_aload_n hx hb dX4_levelToWin_0 rfl (lv_at hl 0 rfl) ?_
  refine lv_iload_n hx hb dX4_levelToWin_1 rfl (lv_at hl 1 rfl) ?_
  rcases bt_e hf with ⟨k3, u4, hf⟩ | ⟨y5, u4, hf⟩
  · subst hf
    refine mVXt (k := 0) (q := (0, 0)) (C := RX4) (T := TX4) (N := 8) (ci := 4) (n := 1) (As := [.int p1]) (rest := []) (c_X4_stallNumbered l hfl D t b σ p1 (.inl k3) u4) sh_0 (by decide) rfl rfl hx hb hml hown hts hE hW hS q470 q472 q5 q34 q473 hy_X4_stallNumbered ⟨rfl, rfl⟩ ⟨Nat.le_of_ble_eq_true rfl, Nat.le_of_ble_eq_true rfl⟩ rfl rfl hl.1 (Nat.le_of_ble_eq_true rfl) ⟨Nat.le_of_ble_eq_true rfl, Nat.le_of_ble_eq_true rfl⟩ dX4_levelToWin_2 htab hlocks ⟨Nat.le_of_ble_eq_true rfl, Nat.le_of_ble_eq_true rfl⟩
  · refine mVXn (k := 0) (q := (0, 0)) (C := RX4) (T := TX4) (N := 8) (ci := 4) (n := 1) (As := [.int p1]) (rest := []) (c_X4_stallNumbered l hfl D t b σ p1 (.inr y5) u4) sh_0 (by decide) rfl rfl hx hb hml hown hts hE hW hS q470 q472 q5 q34 q473 hy_X4_stallNumbered ⟨rfl, rfl⟩ ⟨Nat.le_of_ble_eq_true rfl, Nat.le_of_ble_eq_true rfl⟩ rfl rfl hl.1 (Nat.le_of_ble_eq_true rfl) ⟨Nat.le_of_ble_eq_true rfl, Nat.le_of_ble_eq_true rfl⟩ dX4_levelToWin_2 (fun H locs hW hS => ?_)
    obtain ⟨g6, hf⟩ := sg_e hf
    obtain ⟨y7, u8, hf⟩ := b1_e hf
    refine mV (k := y5) (q := (3, 0)) (C := RX3) (T := TX3) (N := 11) (ci := 3) (n := 0) (As := []) (rest := []) (c_X3_levelOnOffer l D t b y5 σ y7 g6 u8) g6 (by decide) rfl rfl hx hb hml hown hts hE hW hS q758 q684 q685 q37 q686 hy_X3_levelOnOffer ⟨rfl, rfl⟩ ⟨Nat.le_of_ble_eq_true rfl, Nat.le_of_ble_eq_true rfl⟩ rfl rfl hl.1 (Nat.le_of_ble_eq_true rfl) ⟨Nat.le_of_ble_eq_true rfl, Nat.le_of_ble_eq_true rfl⟩ dX4_levelToWin_5 (fun H locs hW hS => ?_)
    cases hf
    refine vx_ret ?_
    refine W.widen (k := 1) (n := 6) (Nat.le_of_ble_eq_true rfl) (Nat.le_of_ble_eq_true rfl) ?_
    exact W.iret hx hb hr (fun u hu _ => ⟨_, _, rfl, ⟨rfl, by rw [hu]; exact hW⟩, hS.F hu⟩) hS.2.2 dX4_levelToWin_8
def f_X4_wonOf (σ : Sg) (p1 : Int32) : Option (Nat ⊕ Int32) := bt (f_X4_needLevel σ p1) fun y5 => gd p1 4 (some (.inr (σ (1 + 2) (p1).toNatClampNeg)))
set_option maxHeartbeats 4000000 in
set_option maxRecDepth 100000 in
theorem c_X4_wonOf (l : Launch) (hfl : l.stackTraces = false) (D : va_G) (t : Nat → ClassId) (b : Nat) (σ : Sg) (p1 : Int32) (r : (Nat ⊕ Int32)) (hf : f_X4_wonOf σ p1 = some r) : vx_Met l yX4_wonOf (Cond.code yX4_wonOf cX4_wonOf 2 (some .int) :: ALL) ({ frames := 7, cells := 1, slots := 6, locals := 103 }) (PM D t b σ [.ref (b + 0), .int p1]) (QX D t b (Sum.map (fun k => (k, σ)) (fun y => (some (.int y), σ)) r)) (XX D t b (Sum.map (fun k => (k, σ)) (fun y => (some (.int y), σ)) r)) 1 6 (geA b) := by
  refine vx_ofW (cc := cX4_wonOf) (maxL := 2) (ret := (some .int)) (by decide) rfl ?_
  intro p e s m args below meth c s₁ B hml htab hv
  obtain ⟨rfl, hW, hE⟩ := hv
  have hx := B.exec
  have hb := B.bytes
  have hr := B.returns
  have hts := atoms_spec (ws := Cond.code yX4_wonOf cX4_wonOf 2 (some .int) :: ALL) B.pre
  have hta := fun w h => hts w (List.mem_cons_of_mem _ h)
  have hown : s.vm.findClass RX4 = some m.cls := findClass_of_methodNamed B.named
  have hlocks := B.notSynchronized
  have hS : va_S (geA b) s.heap s.heap [] := va_S.rf
  have hl := lv_entry ([.ref (b + 0), .int p1]) (n := 2) (Nat.le_of_ble_eq_true rfl)
  rw [lg_entry_eq]
  generalize (lg_sl ([.ref (b + 0), .int p1]) ++ List.replicate (2 - (lg_sl ([.ref (b + 0), .int p1])).length) Slot.unset).toArray = ls at hl ⊢
  have hl : lv_has ls 2 [(0, .ref (b + 0)), (1, .int p1)] := hl
  unfold f_X4_wonOf at hf
  refine lv_aload_n hx hb dX4_wonOf_0 rfl (lv_at hl 0 rfl) ?_
  refine lv_iload_n hx hb dX4_wonOf_1 rfl (lv_at hl 1 rfl) ?_
  rcases bt_e hf with ⟨k3, u4, hf⟩ | ⟨y5, u4, hf⟩
  · subst hf
    refine mVXt (k := 0) (q := (0, 0)) (C := RX4) (T := TX4) (N := 8) (ci := 4) (n := 1) (As := [.int p1]) (rest := []) (c_X4_needLevel l hfl D t b σ p1 (.inl k3) u4) sh_0 (by decide) rfl rfl hx hb hml hown hts hE hW hS q483 q485 q7 q34 q486 hy_X4_needLevel ⟨rfl, rfl⟩ ⟨Nat.le_of_ble_eq_true rfl, Nat.le_of_ble_eq_true rfl⟩ rfl rfl hl.1 (Nat.le_of_ble_eq_true rfl) ⟨Nat.le_of_ble_eq_true rfl, Nat.le_of_ble_eq_true rfl⟩ dX4_wonOf_2 htab hlocks ⟨Nat.le_of_ble_eq_true rfl, Nat.le_of_ble_eq_true rfl⟩
  · refine mVXn (k := 0) (q := (0, 0)) (C := RX4) (T := TX4) (N := 8) (ci := 4) (n := 1) (As := [.int p1]) (rest := []) (c_X4_needLevel l hfl D t b σ p1 (.inr y5) u4) sh_0 (by decide) rfl rfl hx hb hml hown hts hE hW hS q483 q485 q7 q34 q486 hy_X4_needLevel ⟨rfl, rfl⟩ ⟨Nat.le_of_ble_eq_true rfl, Nat.le_of_ble_eq_true rfl⟩ rfl rfl hl.1 (Nat.le_of_ble_eq_true rfl) ⟨Nat.le_of_ble_eq_true rfl, Nat.le_of_ble_eq_true rfl⟩ dX4_wonOf_2 (fun H locs hW hS => ?_)
    refine lv_aload_n hx hb dX4_wonOf_5 rfl (lv_at hl 0 rfl) ?_
    refine getP hx hb hta hown hE.1 hW 0 (by decide) q274 rfl dX4_wonOf_6 ?_
    refine getF hx hb hta hown hE.1 hW sh_1 9 (by decide) q189 rfl dX4_wonOf_9 ?_
    refine lv_iload_n hx hb dX4_wonOf_12 rfl (lv_at hl 1 rfl) ?_
    obtain ⟨g6, hf⟩ := gd_e hf
    refine iald hx hb hE.1 hW (shF_2 sh_1) g6 dX4_wonOf_13 ?_
    cases hf
    refine vx_ret ?_
    refine W.widen (k := 1) (n := 6) (Nat.le_of_ble_eq_true rfl) (Nat.le_of_ble_eq_true rfl) ?_
    exact W.iret hx hb hr (fun u hu _ => ⟨_, _, rfl, ⟨rfl, by rw [hu]; exact hW⟩, hS.F hu⟩) hS.2.2 dX4_wonOf_14
def f_X4_needChild (σ : Sg) (p1 : Int32) : Option (Nat ⊕ Unit) := if p1 < 0 then (some (.inl 1)) else (if p1 < (σ (1 + 4) 0) then (some (.inr ())) else (some (.inl 1)))
set_option maxHeartbeats 4000000 in
set_option maxRecDepth 100000 in
theorem c_X4_needChild (l : Launch) (hfl : l.stackTraces = false) (D : va_G) (t : Nat → ClassId) (b : Nat) (σ : Sg) (p1 : Int32) (r : (Nat ⊕ Unit)) (hf : f_X4_needChild σ p1 = some r) : vx_Met l yX4_needChild (Cond.code yX4_needChild cX4_needChild 2 none :: ALL) ({ frames := 6, cells := 1, slots := 6, locals := 82 }) (PM D t b σ [.ref (b + 0), .int p1]) (QX D t b (Sum.map (fun k => (k, σ)) (fun _ => (none, σ)) r)) (XX D t b (Sum.map (fun k => (k, σ)) (fun _ => (none, σ)) r)) 1 6 (geA b) := by
  refine vx_ofW (cc := cX4_needChild) (maxL := 2) (ret := none) (by decide) rfl ?_
  intro p e s m args below meth c s₁ B hml htab hv
  obtain ⟨rfl, hW, hE⟩ := hv
  have hx := B.exec
  have hb := B.bytes
  have hr := B.returns
  have hts := atoms_spec (ws := Cond.code yX4_needChild cX4_needChild 2 none :: ALL) B.pre
  have hta := fun w h => hts w (List.mem_cons_of_mem _ h)
  have hown : s.vm.findClass RX4 = some m.cls := findClass_of_methodNamed B.named
  have hlocks := B.notSynchronized
  have hS : va_S (geA b) s.heap s.heap [] := va_S.rf
  have hl := lv_entry ([.ref (b + 0), .int p1]) (n := 2) (Nat.le_of_ble_eq_true rfl)
  rw [lg_entry_eq]
  generalize (lg_sl ([.ref (b + 0), .int p1]) ++ List.replicate (2 - (lg_sl ([.ref (b + 0), .int p1])).length) Slot.unset).toArray = ls at hl ⊢
  have hl : lv_has ls 2 [(0, .ref (b + 0)), (1, .int p1)] := hl
  unfold f_X4_needChild at hf
  refine lv_iload_n hx hb dX4_needChild_0 rfl (lv_at hl 1 rfl) ?_
  refine lv_if_lt (tgt := 18) hx hb dX4_needChild_1 (by decide) (fun h1 => ?_) (fun h1 => ?_)
  · have hf := ifp h1 hf
    cases hf
    exact mthrowW (k1 := 1) (is := 318) (text := "there is no such child") (rest := []) hfl fit_1 hx hb hown hta hE hW hS thA_1 thB_1 (by decide +kernel) thC_1 thD_1 thE_1 (hl.1.trans hml.symm) dX4_needChild_18 dX4_needChild_21 dX4_needChild_22 dX4_needChild_25 dX4_needChild_28 htab (Nat.le_of_ble_eq_true rfl) (Nat.le_of_ble_eq_true rfl) (Nat.le_of_ble_eq_true rfl) (Nat.le_of_ble_eq_true rfl) hlocks (Nat.le_of_ble_eq_true rfl) (Nat.le_of_ble_eq_true rfl)
  · have hf := ifn h1 hf
    refine lv_iload_n hx hb dX4_needChild_4 rfl (lv_at hl 1 rfl) ?_
    refine lv_aload_n hx hb dX4_needChild_5 rfl (lv_at hl 0 rfl) ?_
    refine getP hx hb hta hown hE.1 hW 0 (by decide) q274 rfl dX4_needChild_6 ?_
    refine getF hx hb hta hown hE.1 hW sh_1 12 (by decide) q195 rfl dX4_needChild_9 ?_
    refine getC hx hb hta hown hE.1 hW (shF_4 sh_1) 0 (by decide) q71 rfl dX4_needChild_12 ?_
    refine lv_icmp_lt (tgt := 29) hx hb dX4_needChild_15 (by decide) (fun h2 => ?_) (fun h2 => ?_)
    · have hf := ifp h2 hf
      cases hf
      refine vx_ret ?_
      refine W.widen (k := 1) (n := 6) (Nat.le_of_ble_eq_true rfl) (Nat.le_of_ble_eq_true rfl) ?_
      exact W.vret hx hb hr (fun u hu _ => ⟨_, _, rfl, ⟨rfl, by rw [hu]; exact hW⟩, hS.F hu⟩) hS.2.2 dX4_needChild_29
    · have hf := ifn h2 hf
      cases hf
      exact mthrowW (k1 := 1) (is := 318) (text := "there is no such child") (rest := []) hfl fit_1 hx hb hown hta hE hW hS thA_1 thB_1 (by decide +kernel) thC_1 thD_1 thE_1 (hl.1.trans hml.symm) dX4_needChild_18 dX4_needChild_21 dX4_needChild_22 dX4_needChild_25 dX4_needChild_28 htab (Nat.le_of_ble_eq_true rfl) (Nat.le_of_ble_eq_true rfl) (Nat.le_of_ble_eq_true rfl) (Nat.le_of_ble_eq_true rfl) hlocks (Nat.le_of_ble_eq_true rfl) (Nat.le_of_ble_eq_true rfl)
def f_X4_isAtFair (σ : Sg) (p1 : Int32) : Option (Nat ⊕ Int32) := bt (f_X4_needChild σ p1) fun y5 => gd p1 200 (if (σ ((1 + 4) + 5) (p1).toNatClampNeg) = (-1) then (some (.inr 0)) else (some (.inr 1)))
set_option maxHeartbeats 4000000 in
set_option maxRecDepth 100000 in
theorem c_X4_isAtFair (l : Launch) (hfl : l.stackTraces = false) (D : va_G) (t : Nat → ClassId) (b : Nat) (σ : Sg) (p1 : Int32) (r : (Nat ⊕ Int32)) (hf : f_X4_isAtFair σ p1 = some r) : vx_Met l yX4_isAtFair (Cond.code yX4_isAtFair cX4_isAtFair 2 (some .boolean) :: ALL) ({ frames := 7, cells := 1, slots := 6, locals := 103 }) (PM D t b σ [.ref (b + 0), .int p1]) (QX D t b (Sum.map (fun k => (k, σ)) (fun y => (some (.int y), σ)) r)) (XX D t b (Sum.map (fun k => (k, σ)) (fun y => (some (.int y), σ)) r)) 1 6 (geA b) := by
  refine vx_ofW (cc := cX4_isAtFair) (maxL := 2) (ret := (some .boolean)) (by decide) rfl ?_
  intro p e s m args below meth c s₁ B hml htab hv
  obtain ⟨rfl, hW, hE⟩ := hv
  have hx := B.exec
  have hb := B.bytes
  have hr := B.returns
  have hts := atoms_spec (ws := Cond.code yX4_isAtFair cX4_isAtFair 2 (some .boolean) :: ALL) B.pre
  have hta := fun w h => hts w (List.mem_cons_of_mem _ h)
  have hown : s.vm.findClass RX4 = some m.cls := findClass_of_methodNamed B.named
  have hlocks := B.notSynchronized
  have hS : va_S (geA b) s.heap s.heap [] := va_S.rf
  have hl := lv_entry ([.ref (b + 0), .int p1]) (n := 2) (Nat.le_of_ble_eq_true rfl)
  rw [lg_entry_eq]
  generalize (lg_sl ([.ref (b + 0), .int p1]) ++ List.replicate (2 - (lg_sl ([.ref (b + 0), .int p1])).length) Slot.unset).toArray = ls at hl ⊢
  have hl : lv_has ls 2 [(0, .ref (b + 0)), (1, .int p1)] := hl
  unfold f_X4_isAtFair at hf
  refine lv_aload_n hx hb dX4_isAtFair_0 rfl (lv_at hl 0 rfl) ?_
  refine lv_iload_n hx hb dX4_isAtFair_1 rfl (lv_at hl 1 rfl) ?_
  rcases bt_e hf with ⟨k3, u4, hf⟩ | ⟨y5, u4, hf⟩
  · subst hf
    refine mVXt (k := 0) (q := (0, 0)) (C := RX4) (T := TX4) (N := 8) (ci := 4) (n := 1) (As := [.int p1]) (rest := []) (c_X4_needChild l hfl D t b σ p1 (.inl k3) u4) sh_0 (by decide) rfl rfl hx hb hml hown hts hE hW hS q770 q772 q18 q34 q773 hy_X4_needChild ⟨rfl, rfl⟩ ⟨Nat.le_of_ble_eq_true rfl, Nat.le_of_ble_eq_true rfl⟩ rfl rfl hl.1 (Nat.le_of_ble_eq_true rfl) ⟨Nat.le_of_ble_eq_true rfl, Nat.le_of_ble_eq_true rfl⟩ dX4_isAtFair_2 htab hlocks ⟨Nat.le_of_ble_eq_true rfl, Nat.le_of_ble_eq_true rfl⟩
  · refine mVXn (k := 0) (q := (0, 0)) (C := RX4) (T := TX4) (N := 8) (ci := 4) (n := 1) (As := [.int p1]) (rest := []) (c_X4_needChild l hfl D t b σ p1 (.inr y5) u4) sh_0 (by decide) rfl rfl hx hb hml hown hts hE hW hS q770 q772 q18 q34 q773 hy_X4_needChild ⟨rfl, rfl⟩ ⟨Nat.le_of_ble_eq_true rfl, Nat.le_of_ble_eq_true rfl⟩ rfl rfl hl.1 (Nat.le_of_ble_eq_true rfl) ⟨Nat.le_of_ble_eq_true rfl, Nat.le_of_ble_eq_true rfl⟩ dX4_isAtFair_2 (fun H locs hW hS => ?_)
    refine lv_aload_n hx hb dX4_isAtFair_5 rfl (lv_at hl 0 rfl) ?_
    refine getP hx hb hta hown hE.1 hW 0 (by decide) q274 rfl dX4_isAtFair_6 ?_
    refine getF hx hb hta hown hE.1 hW sh_1 12 (by decide) q195 rfl dX4_isAtFair_9 ?_
    refine getC hx hb hta hown hE.1 hW (shF_4 sh_1) 6 (by decide) q85 rfl dX4_isAtFair_12 ?_
    refine lv_iload_n hx hb dX4_isAtFair_15 rfl (lv_at hl 1 rfl) ?_
    obtain ⟨g6, hf⟩ := gd_e hf
    refine iald hx hb hE.1 hW (shC_5 (shF_4 sh_1)) g6 dX4_isAtFair_16 ?_
    refine lv_iconst (v := (-1)) hx hb dX4_isAtFair_17 (by decide) ?_
    refine lv_icmp_eq (tgt := 25) hx hb dX4_isAtFair_18 (by decide) (fun h7 => ?_) (fun h7 => ?_)
    · have hf := ifp h7 hf
      refine lv_iconst (v := 0) hx hb dX4_isAtFair_25 (by decide) ?_
      cases hf
      refine vx_ret ?_
      refine W.widen (k := 1) (n := 6) (Nat.le_of_ble_eq_true rfl) (Nat.le_of_ble_eq_true rfl) ?_
      exact W.zret (ty := .boolean) hx hb hr (by decide) (fun u hu _ => ⟨_, _, rfl, ⟨rfl, by rw [hu]; exact hW⟩, hS.F hu⟩) hS.2.2 dX4_isAtFair_26
    · have hf := ifn h7 hf
      refine lv_iconst (v := 1) hx hb dX4_isAtFair_21 (by decide) ?_
      refine lv_goto (tgt := 26) hx hb dX4_isAtFair_22 (by decide) ?_
      cases hf
      refine vx_ret ?_
      refine W.widen (k := 1) (n := 6) (Nat.le_of_ble_eq_true rfl) (Nat.le_of_ble_eq_true rfl) ?_
      exact W.zret (ty := .boolean) hx hb hr (by decide) (fun u hu _ => ⟨_, _, rfl, ⟨rfl, by rw [hu]; exact hW⟩, hS.F hu⟩) hS.2.2 dX4_isAtFair_26
def f_X4_purseOf (σ : Sg) (p1 : Int32) : Option (Nat ⊕ Int32) := bt (f_X4_needChild σ p1) fun y5 => gd p1 200 (some (.inr (σ ((1 + 4) + 1) (p1).toNatClampNeg)))
set_option maxHeartbeats 4000000 in
set_option maxRecDepth 100000 in
theorem c_X4_purseOf (l : Launch) (hfl : l.stackTraces = false) (D : va_G) (t : Nat → ClassId) (b : Nat) (σ : Sg) (p1 : Int32) (r : (Nat ⊕ Int32)) (hf : f_X4_purseOf σ p1 = some r) : vx_Met l yX4_purseOf (Cond.code yX4_purseOf cX4_purseOf 2 (some .int) :: ALL) ({ frames := 7, cells := 1, slots := 6, locals := 103 }) (PM D t b σ [.ref (b + 0), .int p1]) (QX D t b (Sum.map (fun k => (k, σ)) (fun y => (some (.int y), σ)) r)) (XX D t b (Sum.map (fun k => (k, σ)) (fun y => (some (.int y), σ)) r)) 1 6 (geA b) := by
  refine vx_ofW (cc := cX4_purseOf) (maxL := 2) (ret := (some .int)) (by decide) rfl ?_
  intro p e s m args below meth c s₁ B hml htab hv
  obtain ⟨rfl, hW, hE⟩ := hv
  have hx := B.exec
  have hb := B.bytes
  have hr := B.returns
  have hts := atoms_spec (ws := Cond.code yX4_purseOf cX4_purseOf 2 (some .int) :: ALL) B.pre
  have hta := fun w h => hts w (List.mem_cons_of_mem _ h)
  have hown : s.vm.findClass RX4 = some m.cls := findClass_of_methodNamed B.named
  have hlocks := B.notSynchronized
  have hS : va_S (geA b) s.heap s.heap [] := va_S.rf
  have hl := lv_entry ([.ref (b + 0), .int p1]) (n := 2) (Nat.le_of_ble_eq_true rfl)
  rw [lg_entry_eq]
  generalize (lg_sl ([.ref (b + 0), .int p1]) ++ List.replicate (2 - (lg_sl ([.ref (b + 0), .int p1])).length) Slot.unset).toArray = ls at hl ⊢
  have hl : lv_has ls 2 [(0, .ref (b + 0)), (1, .int p1)] := hl
  unfold f_X4_purseOf at hf
  refine lv_aload_n hx hb dX4_purseOf_0 rfl (lv_at hl 0 rfl) ?_
  refine lv_iload_n hx hb dX4_purseOf_1 rfl (lv_at hl 1 rfl) ?_
  rcases bt_e hf with ⟨k3, u4, hf⟩ | ⟨y5, u4, hf⟩
  · subst hf
    refine mVXt (k := 0) (q := (0, 0)) (C := RX4) (T := TX4) (N := 8) (ci := 4) (n := 1) (As := [.int p1]) (rest := []) (c_X4_needChild l hfl D t b σ p1 (.inl k3) u4) sh_0 (by decide) rfl rfl hx hb hml hown hts hE hW hS q770 q772 q18 q34 q773 hy_X4_needChild ⟨rfl, rfl⟩ ⟨Nat.le_of_ble_eq_true rfl, Nat.le_of_ble_eq_true rfl⟩ rfl rfl hl.1 (Nat.le_of_ble_eq_true rfl) ⟨Nat.le_of_ble_eq_true rfl, Nat.le_of_ble_eq_true rfl⟩ dX4_purseOf_2 htab hlocks ⟨Nat.le_of_ble_eq_true rfl, Nat.le_of_ble_eq_true rfl⟩
  · refine mVXn (k := 0) (q := (0, 0)) (C := RX4) (T := TX4) (N := 8) (ci := 4) (n := 1) (As := [.int p1]) (rest := []) (c_X4_needChild l hfl D t b σ p1 (.inr y5) u4) sh_0 (by decide) rfl rfl hx hb hml hown hts hE hW hS q770 q772 q18 q34 q773 hy_X4_needChild ⟨rfl, rfl⟩ ⟨Nat.le_of_ble_eq_true rfl, Nat.le_of_ble_eq_true rfl⟩ rfl rfl hl.1 (Nat.le_of_ble_eq_true rfl) ⟨Nat.le_of_ble_eq_true rfl, Nat.le_of_ble_eq_true rfl⟩ dX4_purseOf_2 (fun H locs hW hS => ?_)
    refine lv_aload_n hx hb dX4_purseOf_5 rfl (lv_at hl 0 rfl) ?_
    refine getP hx hb hta hown hE.1 hW 0 (by decide) q274 rfl dX4_purseOf_6 ?_
    refine getF hx hb hta hown hE.1 hW sh_1 12 (by decide) q195 rfl dX4_purseOf_9 ?_
    refine getC hx hb hta hown hE.1 hW (shF_4 sh_1) 2 (by decide) q76 rfl dX4_purseOf_12 ?_
    refine lv_iload_n hx hb dX4_purseOf_15 rfl (lv_at hl 1 rfl) ?_
    obtain ⟨g6, hf⟩ := gd_e hf
    refine iald hx hb hE.1 hW (shC_1 (shF_4 sh_1)) g6 dX4_purseOf_16 ?_
    cases hf
    refine vx_ret ?_
    refine W.widen (k := 1) (n := 6) (Nat.le_of_ble_eq_true rfl) (Nat.le_of_ble_eq_true rfl) ?_
    exact W.iret hx hb hr (fun u hu _ => ⟨_, _, rfl, ⟨rfl, by rw [hu]; exact hW⟩, hS.F hu⟩) hS.2.2 dX4_purseOf_17
def f_X4_moodOf (σ : Sg) (p1 : Int32) : Option (Nat ⊕ Int32) := bt (f_X4_needChild σ p1) fun y5 => gd p1 200 (some (.inr (σ ((1 + 4) + 2) (p1).toNatClampNeg)))
set_option maxHeartbeats 4000000 in
set_option maxRecDepth 100000 in
theorem c_X4_moodOf (l : Launch) (hfl : l.stackTraces = false) (D : va_G) (t : Nat → ClassId) (b : Nat) (σ : Sg) (p1 : Int32) (r : (Nat ⊕ Int32)) (hf : f_X4_moodOf σ p1 = some r) : vx_Met l yX4_moodOf (Cond.code yX4_moodOf cX4_moodOf 2 (some .int) :: ALL) ({ frames := 7, cells := 1, slots := 6, locals := 103 }) (PM D t b σ [.ref (b + 0), .int p1]) (QX D t b (Sum.map (fun k => (k, σ)) (fun y => (some (.int y), σ)) r)) (XX D t b (Sum.map (fun k => (k, σ)) (fun y => (some (.int y), σ)) r)) 1 6 (geA b) := by
  refine vx_ofW (cc := cX4_moodOf) (maxL := 2) (ret := (some .int)) (by decide) rfl ?_
  intro p e s m args below meth c s₁ B hml htab hv
  obtain ⟨rfl, hW, hE⟩ := hv
  have hx := B.exec
  have hb := B.bytes
  have hr := B.returns
  have hts := atoms_spec (ws := Cond.code yX4_moodOf cX4_moodOf 2 (some .int) :: ALL) B.pre
  have hta := fun w h => hts w (List.mem_cons_of_mem _ h)
  have hown : s.vm.findClass RX4 = some m.cls := findClass_of_methodNamed B.named
  have hlocks := B.notSynchronized
  have hS : va_S (geA b) s.heap s.heap [] := va_S.rf
  have hl := lv_entry ([.ref (b + 0), .int p1]) (n := 2) (Nat.le_of_ble_eq_true rfl)
  rw [lg_entry_eq]
  generalize (lg_sl ([.ref (b + 0), .int p1]) ++ List.replicate (2 - (lg_sl ([.ref (b + 0), .int p1])).length) Slot.unset).toArray = ls at hl ⊢
  have hl : lv_has ls 2 [(0, .ref (b + 0)), (1, .int p1)] := hl
  unfold f_X4_moodOf at hf
  refine lv_aload_n hx hb dX4_moodOf_0 rfl (lv_at hl 0 rfl) ?_
  refine lv_iload_n hx hb dX4_moodOf_1 rfl (lv_at hl 1 rfl) ?_
  rcases bt_e hf with ⟨k3, u4, hf⟩ | ⟨y5, u4, hf⟩
  · subst hf
    refine mVXt (k := 0) (q := (0, 0)) (C := RX4) (T := TX4) (N := 8) (ci := 4) (n := 1) (As := [.int p1]) (rest := []) (c_X4_needChild l hfl D t b σ p1 (.inl k3) u4) sh_0 (by decide) rfl rfl hx hb hml hown hts hE hW hS q770 q772 q18 q34 q773 hy_X4_needChild ⟨rfl, rfl⟩ ⟨Nat.le_of_ble_eq_true rfl, Nat.le_of_ble_eq_true rfl⟩ rfl rfl hl.1 (Nat.le_of_ble_eq_true rfl) ⟨Nat.le_of_ble_eq_true rfl, Nat.le_of_ble_eq_true rfl⟩ dX4_moodOf_2 htab hlocks ⟨Nat.le_of_ble_eq_true rfl, Nat.le_of_ble_eq_true rfl⟩
  · refine mVXn (k := 0) (q := (0, 0)) (C := RX4) (T := TX4) (N := 8) (ci := 4) (n := 1) (As := [.int p1]) (rest := []) (c_X4_needChild l hfl D t b σ p1 (.inr y5) u4) sh_0 (by decide) rfl rfl hx hb hml hown hts hE hW hS q770 q772 q18 q34 q773 hy_X4_needChild ⟨rfl, rfl⟩ ⟨Nat.le_of_ble_eq_true rfl, Nat.le_of_ble_eq_true rfl⟩ rfl rfl hl.1 (Nat.le_of_ble_eq_true rfl) ⟨Nat.le_of_ble_eq_true rfl, Nat.le_of_ble_eq_true rfl⟩ dX4_moodOf_2 (fun H locs hW hS => ?_)
    refine lv_aload_n hx hb dX4_moodOf_5 rfl (lv_at hl 0 rfl) ?_
    refine getP hx hb hta hown hE.1 hW 0 (by decide) q274 rfl dX4_moodOf_6 ?_
    refine getF hx hb hta hown hE.1 hW sh_1 12 (by decide) q195 rfl dX4_moodOf_9 ?_
    refine getC hx hb hta hown hE.1 hW (shF_4 sh_1) 3 (by decide) q79 rfl dX4_moodOf_12 ?_
    refine lv_iload_n hx hb dX4_moodOf_15 rfl (lv_at hl 1 rfl) ?_
    obtain ⟨g6, hf⟩ := gd_e hf
    refine iald hx hb hE.1 hW (shC_2 (shF_4 sh_1)) g6 dX4_moodOf_16 ?_
    cases hf
    refine vx_ret ?_
    refine W.widen (k := 1) (n := 6) (Nat.le_of_ble_eq_true rfl) (Nat.le_of_ble_eq_true rfl) ?_
    exact W.iret hx hb hr (fun u hu _ => ⟨_, _, rfl, ⟨rfl, by rw [hu]; exact hW⟩, hS.F hu⟩) hS.2.2 dX4_moodOf_17
def f_X4_placeOf (σ : Sg) (p1 : Int32) : Option (Nat ⊕ Int32) := bt (f_X4_needChild σ p1) fun y5 => gd p1 200 (some (.inr (σ ((1 + 4) + 5) (p1).toNatClampNeg)))
set_option maxHeartbeats 4000000 in
set_option maxRecDepth 100000 in
theorem c_X4_placeOf (l : Launch) (hfl : l.stackTraces = false) (D : va_G) (t : Nat → ClassId) (b : Nat) (σ : Sg) (p1 : Int32) (r : (Nat ⊕ Int32)) (hf : f_X4_placeOf σ p1 = some r) : vx_Met l yX4_placeOf (Cond.code yX4_placeOf cX4_placeOf 2 (some .int) :: ALL) ({ frames := 7, cells := 1, slots := 6, locals := 103 }) (PM D t b σ [.ref (b + 0), .int p1]) (QX D t b (Sum.map (fun k => (k, σ)) (fun y => (some (.int y), σ)) r)) (XX D t b (Sum.map (fun k => (k, σ)) (fun y => (some (.int y), σ)) r)) 1 6 (geA b) := by
  refine vx_ofW (cc := cX4_placeOf) (maxL := 2) (ret := (some .int)) (by decide) rfl ?_
  intro p e s m args below meth c s₁ B hml htab hv
  obtain ⟨rfl, hW, hE⟩ := hv
  have hx := B.exec
  have hb := B.bytes
  have hr := B.returns
  have hts := atoms_spec (ws := Cond.code yX4_placeOf cX4_placeOf 2 (some .int) :: ALL) B.pre
  have hta := fun w h => hts w (List.mem_cons_of_mem _ h)
  have hown : s.vm.findClass RX4 = some m.cls := findClass_of_methodNamed B.named
  have hlocks := B.notSynchronized
  have hS : va_S (geA b) s.heap s.heap [] := va_S.rf
  have hl := lv_entry ([.ref (b + 0), .int p1]) (n := 2) (Nat.le_of_ble_eq_true rfl)
  rw [lg_entry_eq]
  generalize (lg_sl ([.ref (b + 0), .int p1]) ++ List.replicate (2 - (lg_sl ([.ref (b + 0), .int p1])).length) Slot.unset).toArray = ls at hl ⊢
  have hl : lv_has ls 2 [(0, .ref (b + 0)), (1, .int p1)] := hl
  unfold f_X4_placeOf at hf
  refine lv_aload_n hx hb dX4_placeOf_0 rfl (lv_at hl 0 rfl) ?_
  refine lv_iload_n hx hb dX4_placeOf_1 rfl (lv_at hl 1 rfl) ?_
  rcases bt_e hf with ⟨k3, u4, hf⟩ | ⟨y5, u4, hf⟩
  · subst hf
    refine mVXt (k := 0) (q := (0, 0)) (C := RX4) (T := TX4) (N := 8) (ci := 4) (n := 1) (As := [.int p1]) (rest := []) (c_X4_needChild l hfl D t b σ p1 (.inl k3) u4) sh_0 (by decide) rfl rfl hx hb hml hown hts hE hW hS q770 q772 q18 q34 q773 hy_X4_needChild ⟨rfl, rfl⟩ ⟨Nat.le_of_ble_eq_true rfl, Nat.le_of_ble_eq_true rfl⟩ rfl rfl hl.1 (Nat.le_of_ble_eq_true rfl) ⟨Nat.le_of_ble_eq_true rfl, Nat.le_of_ble_eq_true rfl⟩ dX4_placeOf_2 htab hlocks ⟨Nat.le_of_ble_eq_true rfl, Nat.le_of_ble_eq_true rfl⟩
  · refine mVXn (k := 0) (q := (0, 0)) (C := RX4) (T := TX4) (N := 8) (ci := 4) (n := 1) (As := [.int p1]) (rest := []) (c_X4_needChild l hfl D t b σ p1 (.inr y5) u4) sh_0 (by decide) rfl rfl hx hb hml hown hts hE hW hS q770 q772 q18 q34 q773 hy_X4_needChild ⟨rfl, rfl⟩ ⟨Nat.le_of_ble_eq_true rfl, Nat.le_of_ble_eq_true rfl⟩ rfl rfl hl.1 (Nat.le_of_ble_eq_true rfl) ⟨Nat.le_of_ble_eq_true rfl, Nat.le_of_ble_eq_true rfl⟩ dX4_placeOf_2 (fun H locs hW hS => ?_)
    refine lv_aload_n hx hb dX4_placeOf_5 rfl (lv_at hl 0 rfl) ?_
    refine getP hx hb hta hown hE.1 hW 0 (by decide) q274 rfl dX4_placeOf_6 ?_
    refine getF hx hb hta hown hE.1 hW sh_1 12 (by decide) q195 rfl dX4_placeOf_9 ?_
    refine getC hx hb hta hown hE.1 hW (shF_4 sh_1) 6 (by decide) q85 rfl dX4_placeOf_12 ?_
    refine lv_iload_n hx hb dX4_placeOf_15 rfl (lv_at hl 1 rfl) ?_
    obtain ⟨g6, hf⟩ := gd_e hf
    refine iald hx hb hE.1 hW (shC_5 (shF_4 sh_1)) g6 dX4_placeOf_16 ?_
    cases hf
    refine vx_ret ?_
    refine W.widen (k := 1) (n := 6) (Nat.le_of_ble_eq_true rfl) (Nat.le_of_ble_eq_true rfl) ?_
    exact W.iret hx hb hr (fun u hu _ => ⟨_, _, rfl, ⟨rfl, by rw [hu]; exact hW⟩, hS.F hu⟩) hS.2.2 dX4_placeOf_17
def f_X4_isHomeward (σ : Sg) (p1 : Int32) : Option (Nat ⊕ Int32) := bt (f_X4_needChild σ p1) fun y5 => gd p1 200 (if (σ ((1 + 4) + 6) (p1).toNatClampNeg) = (-1) then (some (.inr 1)) else (some (.inr 0)))
set_option maxHeartbeats 4000000 in
set_option maxRecDepth 100000 in
theorem c_X4_isHomeward (l : Launch) (hfl : l.stackTraces = false) (D : va_G) (t : Nat → ClassId) (b : Nat) (σ : Sg) (p1 : Int32) (r : (Nat ⊕ Int32)) (hf : f_X4_isHomeward σ p1 = some r) : vx_Met l yX4_isHomeward (Cond.code yX4_isHomeward cX4_isHomeward 2 (some .boolean) :: ALL) ({ frames := 7, cells := 1, slots := 6, locals := 103 }) (PM D t b σ [.ref (b + 0), .int p1]) (QX D t b (Sum.map (fun k => (k, σ)) (fun y => (some (.int y), σ)) r)) (XX D t b (Sum.map (fun k => (k, σ)) (fun y => (some (.int y), σ)) r)) 1 6 (geA b) := by
  refine vx_ofW (cc := cX4_isHomeward) (maxL := 2) (ret := (some .boolean)) (by decide) rfl ?_
  intro p e s m args below meth c s₁ B hml htab hv
  obtain ⟨rfl, hW, hE⟩ := hv
  have hx := B.exec
  have hb := B.bytes
  have hr := B.returns
  have hts := atoms_spec (ws := Cond.code yX4_isHomeward cX4_isHomeward 2 (some .boolean) :: ALL) B.pre
  have hta := fun w h => hts w (List.mem_cons_of_mem _ h)
  have hown : s.vm.findClass RX4 = some m.cls := findClass_of_methodNamed B.named
  have hlocks := B.notSynchronized
  have hS : va_S (geA b) s.heap s.heap [] := va_S.rf
  have hl := lv_entry ([.ref (b + 0), .int p1]) (n := 2) (Nat.le_of_ble_eq_true rfl)
  rw [lg_entry_eq]
  generalize (lg_sl ([.ref (b + 0), .int p1]) ++ List.replicate (2 - (lg_sl ([.ref (b + 0), .int p1])).length) Slot.unset).toArray = ls at hl ⊢
  have hl : lv_has ls 2 [(0, .ref (b + 0)), (1, .int p1)] := hl
  unfold f_X4_isHomeward at hf
  refine lv_aload_n hx hb dX4_isHomeward_0 rfl (lv_at hl 0 rfl) ?_
  refine lv_iload_n hx hb dX4_isHomeward_1 rfl (lv_at hl 1 rfl) ?_
  rcases bt_e hf with ⟨k3, u4, hf⟩ | ⟨y5, u4, hf⟩
  · subst hf
    refine mVXt (k := 0) (q := (0, 0)) (C := RX4) (T := TX4) (N := 8) (ci := 4) (n := 1) (As := [.int p1]) (rest := []) (c_X4_needChild l hfl D t b σ p1 (.inl k3) u4) sh_0 (by decide) rfl rfl hx hb hml hown hts hE hW hS q770 q772 q18 q34 q773 hy_X4_needChild ⟨rfl, rfl⟩ ⟨Nat.le_of_ble_eq_true rfl, Nat.le_of_ble_eq_true rfl⟩ rfl rfl hl.1 (Nat.le_of_ble_eq_true rfl) ⟨Nat.le_of_ble_eq_true rfl, Nat.le_of_ble_eq_true rfl⟩ dX4_isHomeward_2 htab hlocks ⟨Nat.le_of_ble_eq_true rfl, Nat.le_of_ble_eq_true rfl⟩
  · refine mVXn (k := 0) (q := (0, 0)) (C := RX4) (T := TX4) (N := 8) (ci := 4) (n := 1) (As := [.int p1]) (rest := []) (c_X4_needChild l hfl D t b σ p1 (.inr y5) u4) sh_0 (by decide) rfl rfl hx hb hml hown hts hE hW hS q770 q772 q18 q34 q773 hy_X4_needChild ⟨rfl, rfl⟩ ⟨Nat.le_of_ble_eq_true rfl, Nat.le_of_ble_eq_true rfl⟩ rfl rfl hl.1 (Nat.le_of_ble_eq_true rfl) ⟨Nat.le_of_ble_eq_true rfl, Nat.le_of_ble_eq_true rfl⟩ dX4_isHomeward_2 (fun H locs hW hS => ?_)
    refine lv_aload_n hx hb dX4_isHomeward_5 rfl (lv_at hl 0 rfl) ?_
    refine getP hx hb hta hown hE.1 hW 0 (by decide) q274 rfl dX4_isHomeward_6 ?_
    refine getF hx hb hta hown hE.1 hW sh_1 12 (by decide) q195 rfl dX4_isHomeward_9 ?_
    refine getC hx hb hta hown hE.1 hW (shF_4 sh_1) 7 (by decide) q87 rfl dX4_isHomeward_12 ?_
    refine lv_iload_n hx hb dX4_isHomeward_15 rfl (lv_at hl 1 rfl) ?_
    obtain ⟨g6, hf⟩ := gd_e hf
    refine iald hx hb hE.1 hW (shC_6 (shF_4 sh_1)) g6 dX4_isHomeward_16 ?_
    refine lv_iconst (v := (-1)) hx hb dX4_isHomeward_17 (by decide) ?_
    refine lv_icmp_ne (tgt := 25) hx hb dX4_isHomeward_18 (by decide) (fun h7 => ?_) (fun h7 => ?_)
    · have hf := ifn h7 hf
      refine lv_iconst (v := 0) hx hb dX4_isHomeward_25 (by decide) ?_
      cases hf
      refine vx_ret ?_
      refine W.widen (k := 1) (n := 6) (Nat.le_of_ble_eq_true rfl) (Nat.le_of_ble_eq_true rfl) ?_
      exact W.zret (ty := .boolean) hx hb hr (by decide) (fun u hu _ => ⟨_, _, rfl, ⟨rfl, by rw [hu]; exact hW⟩, hS.F hu⟩) hS.2.2 dX4_isHomeward_26
    · have hf := ifp h7 hf
      refine lv_iconst (v := 1) hx hb dX4_isHomeward_21 (by decide) ?_
      refine lv_goto (tgt := 26) hx hb dX4_isHomeward_22 (by decide) ?_
      cases hf
      refine vx_ret ?_
      refine W.widen (k := 1) (n := 6) (Nat.le_of_ble_eq_true rfl) (Nat.le_of_ble_eq_true rfl) ?_
      exact W.zret (ty := .boolean) hx hb hr (by decide) (fun u hu _ => ⟨_, _, rfl, ⟨rfl, by rw [hu]; exact hW⟩, hS.F hu⟩) hS.2.2 dX4_isHomeward_26
def f_X4_prizesOf (σ : Sg) (p1 : Int32) : Option (Nat ⊕ Int32) := bt (f_X4_needChild σ p1) fun y5 => gd p1 200 (some (.inr (σ ((1 + 4) + 8) (p1).toNatClampNeg)))
set_option maxHeartbeats 4000000 in
set_option maxRecDepth 100000 in
theorem c_X4_prizesOf (l : Launch) (hfl : l.stackTraces = false) (D : va_G) (t : Nat → ClassId) (b : Nat) (σ : Sg) (p1 : Int32) (r : (Nat ⊕ Int32)) (hf : f_X4_prizesOf σ p1 = some r) : vx_Met l yX4_prizesOf (Cond.code yX4_prizesOf cX4_prizesOf 2 (some .int) :: ALL) ({ frames := 7, cells := 1, slots := 6, locals := 103 }) (PM D t b σ [.ref (b + 0), .int p1]) (QX D t b (Sum.map (fun k => (k, σ)) (fun y => (some (.int y), σ)) r)) (XX D t b (Sum.map (fun k => (k, σ)) (fun y => (some (.int y), σ)) r)) 1 6 (geA b) := by
  refine vx_ofW (cc := cX4_prizesOf) (maxL := 2) (ret := (some .int)) (by decide) rfl ?_
  intro p e s m args below meth c s₁ B hml htab hv
  obtain ⟨rfl, hW, hE⟩ := hv
  have hx := B.exec
  have hb := B.bytes
  have hr := B.returns
  have hts := atoms_spec (ws := Cond.code yX4_prizesOf cX4_prizesOf 2 (some .int) :: ALL) B.pre
  have hta := fun w h => hts w (List.mem_cons_of_mem _ h)
  have hown : s.vm.findClass RX4 = some m.cls := findClass_of_methodNamed B.named
  have hlocks := B.notSynchronized
  have hS : va_S (geA b) s.heap s.heap [] := va_S.rf
  have hl := lv_entry ([.ref (b + 0), .int p1]) (n := 2) (Nat.le_of_ble_eq_true rfl)
  rw [lg_entry_eq]
  generalize (lg_sl ([.ref (b + 0), .int p1]) ++ List.replicate (2 - (lg_sl ([.ref (b + 0), .int p1])).length) Slot.unset).toArray = ls at hl ⊢
  have hl : lv_has ls 2 [(0, .ref (b + 0)), (1, .int p1)] := hl
  unfold f_X4_prizesOf at hf
  refine lv_aload_n hx hb dX4_prizesOf_0 rfl (lv_at hl 0 rfl) ?_
  refine lv_iload_n hx hb dX4_prizesOf_1 rfl (lv_at hl 1 rfl) ?_
  rcases bt_e hf with ⟨k3, u4, hf⟩ | ⟨y5, u4, hf⟩
  · subst hf
    refine mVXt (k := 0) (q := (0, 0)) (C := RX4) (T := TX4) (N := 8) (ci := 4) (n := 1) (As := [.int p1]) (rest := []) (c_X4_needChild l hfl D t b σ p1 (.inl k3) u4) sh_0 (by decide) rfl rfl hx hb hml hown hts hE hW hS q770 q772 q18 q34 q773 hy_X4_needChild ⟨rfl, rfl⟩ ⟨Nat.le_of_ble_eq_true rfl, Nat.le_of_ble_eq_true rfl⟩ rfl rfl hl.1 (Nat.le_of_ble_eq_true rfl) ⟨Nat.le_of_ble_eq_true rfl, Nat.le_of_ble_eq_true rfl⟩ dX4_prizesOf_2 htab hlocks ⟨Nat.le_of_ble_eq_true rfl, Nat.le_of_ble_eq_true rfl⟩
  · refine mVXn (k := 0) (q := (0, 0)) (C := RX4) (T := TX4) (N := 8) (ci := 4) (n := 1) (As := [.int p1]) (rest := []) (c_X4_needChild l hfl D t b σ p1 (.inr y5) u4) sh_0 (by decide) rfl rfl hx hb hml hown hts hE hW hS q770 q772 q18 q34 q773 hy_X4_needChild ⟨rfl, rfl⟩ ⟨Nat.le_of_ble_eq_true rfl, Nat.le_of_ble_eq_true rfl⟩ rfl rfl hl.1 (Nat.le_of_ble_eq_true rfl) ⟨Nat.le_of_ble_eq_true rfl, Nat.le_of_ble_eq_true rfl⟩ dX4_prizesOf_2 (fun H locs hW hS => ?_)
    refine lv_aload_n hx hb dX4_prizesOf_5 rfl (lv_at hl 0 rfl) ?_
    refine getP hx hb hta hown hE.1 hW 0 (by decide) q274 rfl dX4_prizesOf_6 ?_
    refine getF hx hb hta hown hE.1 hW sh_1 12 (by decide) q195 rfl dX4_prizesOf_9 ?_
    refine getC hx hb hta hown hE.1 hW (shF_4 sh_1) 9 (by decide) q92 rfl dX4_prizesOf_12 ?_
    refine lv_iload_n hx hb dX4_prizesOf_15 rfl (lv_at hl 1 rfl) ?_
    obtain ⟨g6, hf⟩ := gd_e hf
    refine iald hx hb hE.1 hW (shC_8 (shF_4 sh_1)) g6 dX4_prizesOf_16 ?_
    cases hf
    refine vx_ret ?_
    refine W.widen (k := 1) (n := 6) (Nat.le_of_ble_eq_true rfl) (Nat.le_of_ble_eq_true rfl) ?_
    exact W.iret hx hb hr (fun u hu _ => ⟨_, _, rfl, ⟨rfl, by rw [hu]; exact hW⟩, hS.F hu⟩) hS.2.2 dX4_prizesOf_17
def f_X4_whyNoPlay (σ : Sg) (p1 : Int32) : Option (Nat ⊕ Int32) := bt (f_X4_needChild σ p1) fun y5 => gd p1 200 (if (σ ((1 + 4) + 5) (p1).toNatClampNeg) = (-1) then (some (.inr 1)) else (b1 (f_X1_openStallOn 1 σ (σ ((1 + 4) + 5) (p1).toNatClampNeg)) fun y8 => if y8 = 0 then (some (.inr 2)) else (sg y8 3 (b1 (f_X0_reasonAgainst (1 + 4) y8 σ p1) fun y12 => some (.inr y12)))))
set_option maxHeartbeats 4000000 in
set_option maxRecDepth 100000 in
theorem c_X4_whyNoPlay (l : Launch) (hfl : l.stackTraces = false) (D : va_G) (t : Nat → ClassId) (b : Nat) (σ : Sg) (p1 : Int32) (r : (Nat ⊕ Int32)) (hf : f_X4_whyNoPlay σ p1 = some r) : vx_Met l yX4_whyNoPlay (Cond.code yX4_whyNoPlay cX4_whyNoPlay 4 (some .int) :: ALL) ({ frames := 7, cells := 1, slots := 6, locals := 103 }) (PM D t b σ [.ref (b + 0), .int p1]) (QX D t b (Sum.map (fun k => (k, σ)) (fun y => (some (.int y), σ)) r)) (XX D t b (Sum.map (fun k => (k, σ)) (fun y => (some (.int y), σ)) r)) 1 6 (geA b) := by
  refine vx_ofW (cc := cX4_whyNoPlay) (maxL := 4) (ret := (some .int)) (by decide) rfl ?_
  intro p e s m args below meth c s₁ B hml htab hv
  obtain ⟨rfl, hW, hE⟩ := hv
  have hx := B.exec
  have hb := B.bytes
  have hr := B.returns
  have hts := atoms_spec (ws := Cond.code yX4_whyNoPlay cX4_whyNoPlay 4 (some .int) :: ALL) B.pre
  have hta := fun w h => hts w (List.mem_cons_of_mem _ h)
  have hown : s.vm.findClass RX4 = some m.cls := findClass_of_methodNamed B.named
  have hlocks := B.notSynchronized
  have hS : va_S (geA b) s.heap s.heap [] := va_S.rf
  have hl := lv_entry ([.ref (b + 0), .int p1]) (n := 4) (Nat.le_of_ble_eq_true rfl)
  rw [lg_entry_eq]
  generalize (lg_sl ([.ref (b + 0), .int p1]) ++ List.replicate (4 - (lg_sl ([.ref (b + 0), .int p1])).length) Slot.unset).toArray = ls at hl ⊢
  have hl : lv_has ls 4 [(0, .ref (b + 0)), (1, .int p1)] := hl
  unfold f_X4_whyNoPlay at hf
  refine lv_aload_n hx hb dX4_whyNoPlay_0 rfl (lv_at hl 0 rfl) ?_
  refine lv_iload_n hx hb dX4_whyNoPlay_1 rfl (lv_at hl 1 rfl) ?_
  rcases bt_e hf with ⟨k3, u4, hf⟩ | ⟨y5, u4, hf⟩
  · subst hf
    refine mVXt (k := 0) (q := (0, 0)) (C := RX4) (T := TX4) (N := 8) (ci := 4) (n := 1) (As := [.int p1]) (rest := []) (c_X4_needChild l hfl D t b σ p1 (.inl k3) u4) sh_0 (by decide) rfl rfl hx hb hml hown hts hE hW hS q770 q772 q18 q34 q773 hy_X4_needChild ⟨rfl, rfl⟩ ⟨Nat.le_of_ble_eq_true rfl, Nat.le_of_ble_eq_true rfl⟩ rfl rfl hl.1 (Nat.le_of_ble_eq_true rfl) ⟨Nat.le_of_ble_eq_true rfl, Nat.le_of_ble_eq_true rfl⟩ dX4_whyNoPlay_2 htab hlocks ⟨Nat.le_of_ble_eq_true rfl, Nat.le_of_ble_eq_true rfl⟩
  · refine mVXn (k := 0) (q := (0, 0)) (C := RX4) (T := TX4) (N := 8) (ci := 4) (n := 1) (As := [.int p1]) (rest := []) (c_X4_needChild l hfl D t b σ p1 (.inr y5) u4) sh_0 (by decide) rfl rfl hx hb hml hown hts hE hW hS q770 q772 q18 q34 q773 hy_X4_needChild ⟨rfl, rfl⟩ ⟨Nat.le_of_ble_eq_true rfl, Nat.le_of_ble_eq_true rfl⟩ rfl rfl hl.1 (Nat.le_of_ble_eq_true rfl) ⟨Nat.le_of_ble_eq_true rfl, Nat.le_of_ble_eq_true rfl⟩ dX4_whyNoPlay_2 (fun H locs hW hS => ?_)
    refine lv_aload_n hx hb dX4_whyNoPlay_5 rfl (lv_at hl 0 rfl) ?_
    refine getP hx hb hta hown hE.1 hW 0 (by decide) q274 rfl dX4_whyNoPlay_6 ?_
    refine getF hx hb hta hown hE.1 hW sh_1 12 (by decide) q195 rfl dX4_whyNoPlay_9 ?_
    refine getC hx hb hta hown hE.1 hW (shF_4 sh_1) 6 (by decide) q85 rfl dX4_whyNoPlay_12 ?_
    refine lv_iload_n hx hb dX4_whyNoPlay_15 rfl (lv_at hl 1 rfl) ?_
    obtain ⟨g6, hf⟩ := gd_e hf
    refine iald hx hb hE.1 hW (shC_5 (shF_4 sh_1)) g6 dX4_whyNoPlay_16 ?_
    refine lv_istore_n (lv' := [(2, .int (σ ((1 + 4) + 5) (p1).toNatClampNeg)), (0, .ref (b + 0)), (1, .int p1)]) hx hb dX4_whyNoPlay_17 rfl hl (by decide) rfl (fun ls hl => ?_)
    refine lv_iload_n hx hb dX4_whyNoPlay_18 rfl (lv_at hl 0 rfl) ?_
    refine lv_iconst (v := (-1)) hx hb dX4_whyNoPlay_19 (by decide) ?_
    refine lv_icmp_ne (tgt := 25) hx hb dX4_whyNoPlay_20 (by decide) (fun h7 => ?_) (fun h7 => ?_)
    · have hf := ifn h7 hf
      refine lv_aload_n hx hb dX4_whyNoPlay_25 rfl (lv_at hl 1 rfl) ?_
      refine getP hx hb hta hown hE.1 hW 0 (by decide) q274 rfl dX4_whyNoPlay_26 ?_
      refine lv_iload_n hx hb dX4_whyNoPlay_29 rfl (lv_at hl 0 rfl) ?_
      obtain ⟨y8, u9, hf⟩ := b1_e hf
      refine mV (k := 1) (q := (1, 0)) (C := RX1) (T := TX1) (N := 13) (ci := 1) (n := 1) (As := [.int (σ ((1 + 4) + 5) (p1).toNatClampNeg)]) (rest := []) (c_X1_openStallOn l D t b 1 σ (σ ((1 + 4) + 5) (p1).toNatClampNeg) y8 sh_1 u9) sh_1 (by decide) rfl rfl hx hb hml hown hts hE hW hS q799 q656 q657 q35 q658 hy_X1_openStallOn ⟨rfl, rfl⟩ ⟨Nat.le_of_ble_eq_true rfl, Nat.le_of_ble_eq_true rfl⟩ rfl rfl hl.1 (Nat.le_of_ble_eq_true rfl) ⟨Nat.le_of_ble_eq_true rfl, Nat.le_of_ble_eq_true rfl⟩ dX4_whyNoPlay_30 (fun H locs hW hS => ?_)
      by_cases h10 : y8 = 0
      · have hf := ifp h10 hf
        rw [show (nrv b y8) = .null from if_pos h10]
        refine lv_astore_nN (lv' := [(3, .null), (2, .int (σ ((1 + 4) + 5) (p1).toNatClampNeg)), (0, .ref (b + 0)), (1, .int p1)]) hx hb dX4_whyNoPlay_33 rfl hl (by decide) rfl (fun ls hl => ?_)
        refine lv_aload_nN hx hb dX4_whyNoPlay_34 rfl (lv_at hl 0 rfl) ?_
        refine lv_ifnonnullN hx hb dX4_whyNoPlay_35 ?_
        refine lv_iconst (v := 2) hx hb dX4_whyNoPlay_38 (by decide) ?_
        cases hf
        refine vx_ret ?_
        refine W.widen (k := 1) (n := 6) (Nat.le_of_ble_eq_true rfl) (Nat.le_of_ble_eq_true rfl) ?_
        exact W.iret hx hb hr (fun u hu _ => ⟨_, _, rfl, ⟨rfl, by rw [hu]; exact hW⟩, hS.F hu⟩) hS.2.2 dX4_whyNoPlay_39
      · have hf := ifn h10 hf
        obtain ⟨g11, hf⟩ := sg_e hf
        rw [show (nrv b y8) = .ref (b + y8) from if_neg h10]
        refine lv_astore_n (lv' := [(3, .ref (b + y8)), (2, .int (σ ((1 + 4) + 5) (p1).toNatClampNeg)), (0, .ref (b + 0)), (1, .int p1)]) hx hb dX4_whyNoPlay_33 rfl hl (by decide) rfl (fun ls hl => ?_)
        refine lv_aload_n hx hb dX4_whyNoPlay_34 rfl (lv_at hl 0 rfl) ?_
        refine lv_ifnonnull (tgt := 40) hx hb dX4_whyNoPlay_35 (by decide) ?_
        refine lv_aload_n hx hb dX4_whyNoPlay_40 rfl (lv_at hl 2 rfl) ?_
        refine getP hx hb hta hown hE.1 hW 0 (by decide) q274 rfl dX4_whyNoPlay_41 ?_
        refine getF hx hb hta hown hE.1 hW sh_1 12 (by decide) q195 rfl dX4_whyNoPlay_44 ?_
        refine lv_iload_n hx hb dX4_whyNoPlay_47 rfl (lv_at hl 3 rfl) ?_
        refine lv_aload_n hx hb dX4_whyNoPlay_48 rfl (lv_at hl 0 rfl) ?_
        obtain ⟨y12, u13, hf⟩ := b1_e hf
        refine mV (k := (1 + 4)) (q := (2, 0)) (C := RX0) (T := TX0) (N := 10) (ci := 0) (n := 2) (As := [.int p1, .ref (b + y8)]) (rest := []) (c_X0_reasonAgainst l D t b (1 + 4) y8 σ p1 y12 (shF_4 sh_1) g11 u13) (shF_4 sh_1) (by decide) rfl rfl hx hb hml hown hts hE hW hS q800 q668 q669 q36 q670 hy_X0_reasonAgainst ⟨rfl, rfl⟩ ⟨Nat.le_of_ble_eq_true rfl, Nat.le_of_ble_eq_true rfl⟩ rfl rfl hl.1 (Nat.le_of_ble_eq_true rfl) ⟨Nat.le_of_ble_eq_true rfl, Nat.le_of_ble_eq_true rfl⟩ dX4_whyNoPlay_49 (fun H locs hW hS => ?_)
        cases hf
        refine vx_ret ?_
        refine W.widen (k := 1) (n := 6) (Nat.le_of_ble_eq_true rfl) (Nat.le_of_ble_eq_true rfl) ?_
        exact W.iret hx hb hr (fun u hu _ => ⟨_, _, rfl, ⟨rfl, by rw [hu]; exact hW⟩, hS.F hu⟩) hS.2.2 dX4_whyNoPlay_52
    · have hf := ifp h7 hf
      refine lv_iconst (v := 1) hx hb dX4_whyNoPlay_23 (by decide) ?_
      cases hf
      refine vx_ret ?_
      refine W.widen (k := 1) (n := 6) (Nat.le_of_ble_eq_true rfl) (Nat.le_of_ble_eq_true rfl) ?_
      exact W.iret hx hb hr (fun u hu _ => ⟨_, _, rfl, ⟨rfl, by rw [hu]; exact hW⟩, hS.F hu⟩) hS.2.2 dX4_whyNoPlay_24
def f_X4_crowdOn (σ : Sg) (p1 : Int32) : Option (Nat ⊕ Int32) := bt (f_X4_needPitch σ p1) fun y5 => b1 (f_X0_countOn (1 + 4) σ p1) fun y6 => some (.inr y6)
set_option maxHeartbeats 4000000 in
set_option maxRecDepth 100000 in
theorem c_X4_crowdOn (l : Launch) (hfl : l.stackTraces = false) (D : va_G) (t : Nat → ClassId) (b : Nat) (σ : Sg) (p1 : Int32) (r : (Nat ⊕ Int32)) (hf : f_X4_crowdOn σ p1 = some r) : vx_Met l yX4_crowdOn (Cond.code yX4_crowdOn cX4_crowdOn 2 (some .int) :: ALL) ({ frames := 7, cells := 1, slots := 6, locals := 103 }) (PM D t b σ [.ref (b + 0), .int p1]) (QX D t b (Sum.map (fun k => (k, σ)) (fun y => (some (.int y), σ)) r)) (XX D t b (Sum.map (fun k => (k, σ)) (fun y => (some (.int y), σ)) r)) 1 6 (geA b) := by
  refine vx_ofW (cc := cX4_crowdOn) (maxL := 2) (ret := (some .int)) (by decide) rfl ?_
  intro p e s m args below meth c s₁ B hml htab hv
  obtain ⟨rfl, hW, hE⟩ := hv
  have hx := B.exec
  have hb := B.bytes
  have hr := B.returns
  have hts := atoms_spec (ws := Cond.code yX4_crowdOn cX4_crowdOn 2 (some .int) :: ALL) B.pre
  have hta := fun w h => hts w (List.mem_cons_of_mem _ h)
  have hown : s.vm.findClass RX4 = some m.cls := findClass_of_methodNamed B.named
  have hlocks := B.notSynchronized
  have hS : va_S (geA b) s.heap s.heap [] := va_S.rf
  have hl := lv_entry ([.ref (b + 0), .int p1]) (n := 2) (Nat.le_of_ble_eq_true rfl)
  rw [lg_entry_eq]
  generalize (lg_sl ([.ref (b + 0), .int p1]) ++ List.replicate (2 - (lg_sl ([.ref (b + 0), .int p1])).length) Slot.unset).toArray = ls at hl ⊢
  have hl : lv_has ls 2 [(0, .ref (b + 0)), (1, .int p1)] := hl
  unfold f_X4_crowdOn at hf
  refine lv_aload_n hx hb dX4_crowdOn_0 rfl (lv_at hl 0 rfl) ?_
  refine lv_iload_n hx hb dX4_crowdOn_1 rfl (lv_at hl 1 rfl) ?_
  rcases bt_e hf with ⟨k3, u4, hf⟩ | ⟨y5, u4, hf⟩
  · subst hf
    refine mVXt (k := 0) (q := (0, 0)) (C := RX4) (T := TX4) (N := 8) (ci := 4) (n := 1) (As := [.int p1]) (rest := []) (c_X4_needPitch l hfl D t b σ p1 (.inl k3) u4) sh_0 (by decide) rfl rfl hx hb hml hown hts hE hW hS q303 q305 q0 q34 q306 hy_X4_needPitch ⟨rfl, rfl⟩ ⟨Nat.le_of_ble_eq_true rfl, Nat.le_of_ble_eq_true rfl⟩ rfl rfl hl.1 (Nat.le_of_ble_eq_true rfl) ⟨Nat.le_of_ble_eq_true rfl, Nat.le_of_ble_eq_true rfl⟩ dX4_crowdOn_2 htab hlocks ⟨Nat.le_of_ble_eq_true rfl, Nat.le_of_ble_eq_true rfl⟩
  · refine mVXn (k := 0) (q := (0, 0)) (C := RX4) (T := TX4) (N := 8) (ci := 4) (n := 1) (As := [.int p1]) (rest := []) (c_X4_needPitch l hfl D t b σ p1 (.inr y5) u4) sh_0 (by decide) rfl rfl hx hb hml hown hts hE hW hS q303 q305 q0 q34 q306 hy_X4_needPitch ⟨rfl, rfl⟩ ⟨Nat.le_of_ble_eq_true rfl, Nat.le_of_ble_eq_true rfl⟩ rfl rfl hl.1 (Nat.le_of_ble_eq_true rfl) ⟨Nat.le_of_ble_eq_true rfl, Nat.le_of_ble_eq_true rfl⟩ dX4_crowdOn_2 (fun H locs hW hS => ?_)
    refine lv_aload_n hx hb dX4_crowdOn_5 rfl (lv_at hl 0 rfl) ?_
    refine getP hx hb hta hown hE.1 hW 0 (by decide) q274 rfl dX4_crowdOn_6 ?_
    refine getF hx hb hta hown hE.1 hW sh_1 12 (by decide) q195 rfl dX4_crowdOn_9 ?_
    refine lv_iload_n hx hb dX4_crowdOn_12 rfl (lv_at hl 1 rfl) ?_
    obtain ⟨y6, u7, hf⟩ := b1_e hf
    refine mV (k := (1 + 4)) (q := (2, 0)) (C := RX0) (T := TX0) (N := 10) (ci := 0) (n := 1) (As := [.int p1]) (rest := []) (c_X0_countOn l D t b (1 + 4) σ p1 y6 (shF_4 sh_1) u7) (shF_4 sh_1) (by decide) rfl rfl hx hb hml hown hts hE hW hS q814 q815 q816 q36 q817 hy_X0_countOn ⟨rfl, rfl⟩ ⟨Nat.le_of_ble_eq_true rfl, Nat.le_of_ble_eq_true rfl⟩ rfl rfl hl.1 (Nat.le_of_ble_eq_true rfl) ⟨Nat.le_of_ble_eq_true rfl, Nat.le_of_ble_eq_true rfl⟩ dX4_crowdOn_13 (fun H locs hW hS => ?_)
    cases hf
    refine vx_ret ?_
    refine W.widen (k := 1) (n := 6) (Nat.le_of_ble_eq_true rfl) (Nat.le_of_ble_eq_true rfl) ?_
    exact W.iret hx hb hr (fun u hu _ => ⟨_, _, rfl, ⟨rfl, by rw [hu]; exact hW⟩, hS.F hu⟩) hS.2.2 dX4_crowdOn_16
def f_X4_rainIn (σ : Sg) (p1 : Int32) : Option (Nat ⊕ Int32) := bt (f_X4_needHour σ p1) fun y5 => b1 (f_X1_rainToday 1 σ p1) fun y6 => some (.inr y6)
set_option maxHeartbeats 4000000 in
set_option maxRecDepth 100000 in
theorem c_X4_rainIn (l : Launch) (hfl : l.stackTraces = false) (D : va_G) (t : Nat → ClassId) (b : Nat) (σ : Sg) (p1 : Int32) (r : (Nat ⊕ Int32)) (hf : f_X4_rainIn σ p1 = some r) : vx_Met l yX4_rainIn (Cond.code yX4_rainIn cX4_rainIn 2 (some .int) :: ALL) ({ frames := 7, cells := 1, slots := 6, locals := 103 }) (PM D t b σ [.ref (b + 0), .int p1]) (QX D t b (Sum.map (fun k => (k, σ)) (fun y => (some (.int y), σ)) r)) (XX D t b (Sum.map (fun k => (k, σ)) (fun y => (some (.int y), σ)) r)) 1 6 (geA b) := by
  refine vx_ofW (cc := cX4_rainIn) (maxL := 2) (ret := (some .int)) (by decide) rfl ?_
  intro p e s m args below meth c s₁ B hml htab hv
  obtain ⟨rfl, hW, hE⟩ := hv
  have hx := B.exec
  have hb := B.bytes
  have hr := B.returns
  have hts := atoms_spec (ws := Cond.code yX4_rainIn cX4_rainIn 2 (some .int) :: ALL) B.pre
  have hta := fun w h => hts w (List.mem_cons_of_mem _ h)
  have hown : s.vm.findClass RX4 = some m.cls := findClass_of_methodNamed B.named
  have hlocks := B.notSynchronized
  have hS : va_S (geA b) s.heap s.heap [] := va_S.rf
  have hl := lv_entry ([.ref (b + 0), .int p1]) (n := 2) (Nat.le_of_ble_eq_true rfl)
  rw [lg_entry_eq]
  generalize (lg_sl ([.ref (b + 0), .int p1]) ++ List.replicate (2 - (lg_sl ([.ref (b + 0), .int p1])).length) Slot.unset).toArray = ls at hl ⊢
  have hl : lv_has ls 2 [(0, .ref (b + 0)), (1, .int p1)] := hl
  unfold f_X4_rainIn at hf
  refine lv_aload_n hx hb dX4_rainIn_0 rfl (lv_at hl 0 rfl) ?_
  refine lv_iload_n hx hb dX4_rainIn_1 rfl (lv_at hl 1 rfl) ?_
  rcases bt_e hf with ⟨k3, u4, hf⟩ | ⟨y5, u4, hf⟩
  · subst hf
    refine mVXt (k := 0) (q := (0, 0)) (C := RX4) (T := TX4) (N := 8) (ci := 4) (n := 1) (As := [.int p1]) (rest := []) (c_X4_needHour l hfl D t b σ p1 (.inl k3) u4) sh_0 (by decide) rfl rfl hx hb hml hown hts hE hW hS q610 q612 q9 q34 q613 hy_X4_needHour ⟨rfl, rfl⟩ ⟨Nat.le_of_ble_eq_true rfl, Nat.le_of_ble_eq_true rfl⟩ rfl rfl hl.1 (Nat.le_of_ble_eq_true rfl) ⟨Nat.le_of_ble_eq_true rfl, Nat.le_of_ble_eq_true rfl⟩ dX4_rainIn_2 htab hlocks ⟨Nat.le_of_ble_eq_true rfl, Nat.le_of_ble_eq_true rfl⟩
  · refine mVXn (k := 0) (q := (0, 0)) (C := RX4) (T := TX4) (N := 8) (ci := 4) (n := 1) (As := [.int p1]) (rest := []) (c_X4_needHour l hfl D t b σ p1 (.inr y5) u4) sh_0 (by decide) rfl rfl hx hb hml hown hts hE hW hS q610 q612 q9 q34 q613 hy_X4_needHour ⟨rfl, rfl⟩ ⟨Nat.le_of_ble_eq_true rfl, Nat.le_of_ble_eq_true rfl⟩ rfl rfl hl.1 (Nat.le_of_ble_eq_true rfl) ⟨Nat.le_of_ble_eq_true rfl, Nat.le_of_ble_eq_true rfl⟩ dX4_rainIn_2 (fun H locs hW hS => ?_)
    refine lv_aload_n hx hb dX4_rainIn_5 rfl (lv_at hl 0 rfl) ?_
    refine getP hx hb hta hown hE.1 hW 0 (by decide) q274 rfl dX4_rainIn_6 ?_
    refine lv_iload_n hx hb dX4_rainIn_9 rfl (lv_at hl 1 rfl) ?_
    obtain ⟨y6, u7, hf⟩ := b1_e hf
    refine mV (k := 1) (q := (1, 0)) (C := RX1) (T := TX1) (N := 13) (ci := 1) (n := 1) (As := [.int p1]) (rest := []) (c_X1_rainToday l D t b 1 σ p1 y6 sh_1 u7) sh_1 (by decide) rfl rfl hx hb hml hown hts hE hW hS q829 q635 q636 q35 q637 hy_X1_rainToday ⟨rfl, rfl⟩ ⟨Nat.le_of_ble_eq_true rfl, Nat.le_of_ble_eq_true rfl⟩ rfl rfl hl.1 (Nat.le_of_ble_eq_true rfl) ⟨Nat.le_of_ble_eq_true rfl, Nat.le_of_ble_eq_true rfl⟩ dX4_rainIn_10 (fun H locs hW hS => ?_)
    cases hf
    refine vx_ret ?_
    refine W.widen (k := 1) (n := 6) (Nat.le_of_ble_eq_true rfl) (Nat.le_of_ble_eq_true rfl) ?_
    exact W.iret hx hb hr (fun u hu _ => ⟨_, _, rfl, ⟨rfl, by rw [hu]; exact hW⟩, hS.F hu⟩) hS.2.2 dX4_rainIn_13
def l_X4_homeIn_18 : Nat → Sg → Int32 → Int32 → Option (Nat ⊕ (Int32 × Sg))
  | 0, _, _, _ => none
  | n + 1, τ, x1, x2 => if 40 ≤ x2 then (some (.inr (x2, τ))) else (gd x1 200 (if (τ ((28 + 4) + 5) (x1).toNatClampNeg) = (-1) then (some (.inr (x2, τ))) else (b1 (f_X1_letPass 28 τ 1) fun σ14 => l_X4_homeIn_18 n σ14 x1 (x2 + 1))))
def f_X4_homeIn (σ : Sg) (p1 : Int32) : Option (Nat ⊕ (Int32 × Sg)) := bt (f_X4_needChild σ p1) fun y5 => b1 (f_X1_copyFrom 28 1 σ) fun σ8 => l_X4_homeIn_18 10000 σ8 p1 0
set_option maxHeartbeats 4000000 in
set_option maxRecDepth 100000 in
theorem c_X4_homeIn (l : Launch) (hfl : l.stackTraces = false) (D : va_G) (t : Nat → ClassId) (b : Nat) (σ : Sg) (p1 : Int32) (r : (Nat ⊕ (Int32 × Sg))) (hf : f_X4_homeIn σ p1 = some r) : vx_Met l yX4_homeIn (Cond.code yX4_homeIn cX4_homeIn 3 (some .int) :: ALL) ({ frames := 7, cells := 1, slots := 6, locals := 103 }) (PM D t b σ [.ref (b + 0), .int p1]) (QX D t b (Sum.map (fun k => (k, σ)) (fun y => (some (.int y.1), y.2)) r)) (XX D t b (Sum.map (fun k => (k, σ)) (fun y => (some (.int y.1), y.2)) r)) 1 6 (geA b) := by
  refine vx_ofW (cc := cX4_homeIn) (maxL := 3) (ret := (some .int)) (by decide) rfl ?_
  intro p e s m args below meth c s₁ B hml htab hv
  obtain ⟨rfl, hW, hE⟩ := hv
  have hx := B.exec
  have hb := B.bytes
  have hr := B.returns
  have hts := atoms_spec (ws := Cond.code yX4_homeIn cX4_homeIn 3 (some .int) :: ALL) B.pre
  have hta := fun w h => hts w (List.mem_cons_of_mem _ h)
  have hown : s.vm.findClass RX4 = some m.cls := findClass_of_methodNamed B.named
  have hlocks := B.notSynchronized
  have hS : va_S (geA b) s.heap s.heap [] := va_S.rf
  have hl := lv_entry ([.ref (b + 0), .int p1]) (n := 3) (Nat.le_of_ble_eq_true rfl)
  rw [lg_entry_eq]
  generalize (lg_sl ([.ref (b + 0), .int p1]) ++ List.replicate (3 - (lg_sl ([.ref (b + 0), .int p1])).length) Slot.unset).toArray = ls at hl ⊢
  have hl : lv_has ls 3 [(0, .ref (b + 0)), (1, .int p1)] := hl
  unfold f_X4_homeIn at hf
  refine lv_aload_n hx hb dX4_homeIn_0 rfl (lv_at hl 0 rfl) ?_
  refine lv_iload_n hx hb dX4_homeIn_1 rfl (lv_at hl 1 rfl) ?_
  rcases bt_e hf with ⟨k3, u4, hf⟩ | ⟨y5, u4, hf⟩
  · subst hf
    refine mVXt (k := 0) (q := (0, 0)) (C := RX4) (T := TX4) (N := 8) (ci := 4) (n := 1) (As := [.int p1]) (rest := []) (c_X4_needChild l hfl D t b σ p1 (.inl k3) u4) sh_0 (by decide) rfl rfl hx hb hml hown hts hE hW hS q770 q772 q18 q34 q773 hy_X4_needChild ⟨rfl, rfl⟩ ⟨Nat.le_of_ble_eq_true rfl, Nat.le_of_ble_eq_true rfl⟩ rfl rfl hl.1 (Nat.le_of_ble_eq_true rfl) ⟨Nat.le_of_ble_eq_true rfl, Nat.le_of_ble_eq_true rfl⟩ dX4_homeIn_2 htab hlocks ⟨Nat.le_of_ble_eq_true rfl, Nat.le_of_ble_eq_true rfl⟩
  · refine mVXn (k := 0) (q := (0, 0)) (C := RX4) (T := TX4) (N := 8) (ci := 4) (n := 1) (As := [.int p1]) (rest := []) (c_X4_needChild l hfl D t b σ p1 (.inr y5) u4) sh_0 (by decide) rfl rfl hx hb hml hown hts hE hW hS q770 q772 q18 q34 q773 hy_X4_needChild ⟨rfl, rfl⟩ ⟨Nat.le_of_ble_eq_true rfl, Nat.le_of_ble_eq_true rfl⟩ rfl rfl hl.1 (Nat.le_of_ble_eq_true rfl) ⟨Nat.le_of_ble_eq_true rfl, Nat.le_of_ble_eq_true rfl⟩ dX4_homeIn_2 (fun H locs hW hS => ?_)
    refine lv_aload_n hx hb dX4_homeIn_5 rfl (lv_at hl 0 rfl) ?_
    refine getP hx hb hta hown hE.1 hW 1 (by decide) q275 rfl dX4_homeIn_6 ?_
    refine lv_aload_n hx hb dX4_homeIn_9 rfl (lv_at hl 0 rfl) ?_
    refine getP hx hb hta hown hE.1 hW 0 (by decide) q274 rfl dX4_homeIn_10 ?_
    obtain ⟨σ8, u7, hf⟩ := b1_e hf
    refine mV (k := 28) (q := (1, 0)) (C := RX1) (T := TX1) (N := 13) (ci := 1) (n := 1) (As := [.ref (b + 1)]) (rest := []) (c_X1_copyFrom l D t b 28 1 σ σ8 sh_28 sh_1 u7) sh_28 (by decide) rfl rfl hx hb hml hown hts hE hW hS q431 q432 q433 q35 q434 hy_X1_copyFrom ⟨rfl, rfl⟩ ⟨Nat.le_of_ble_eq_true rfl, Nat.le_of_ble_eq_true rfl⟩ rfl rfl hl.1 (Nat.le_of_ble_eq_true rfl) ⟨Nat.le_of_ble_eq_true rfl, Nat.le_of_ble_eq_true rfl⟩ dX4_homeIn_13 (fun H locs hW hS => ?_)
    refine lv_iconst (v := 0) hx hb dX4_homeIn_16 (by decide) ?_
    refine lv_istore_n (lv' := [(2, .int 0), (0, .ref (b + 0)), (1, .int p1)]) hx hb dX4_homeIn_17 rfl hl (by decide) rfl (fun ls hl => ?_)
    have key_18 : ∀ (n : Nat) (τ : Sg) (x1 : Int32) (x2 : Int32) (H : Heap) (locs : List Loc) (ls : Array Slot), l_X4_homeIn_18 n τ x1 x2 = some r → wd D t b τ H → va_S (geA b) s.heap H locs → lv_has ls 3 [(0, .ref (b + 0)), (1, .int x1), (2, .int x2)] → W p l e (headSpec (Cond.code yX4_homeIn cX4_homeIn 3 (some .int) :: ALL) ({ frames := 7, cells := 1, slots := 6, locals := 103 })).room s m (([.ref (b + 0), .int p1] : List Value).toArray) below meth c H locs 1 6 (vx_MQ below (QX D t b (Sum.map (fun k => (k, σ)) (fun y => (some (.int y.1), y.2)) r)) (XX D t b (Sum.map (fun k => (k, σ)) (fun y => (some (.int y.1), y.2)) r)) (([.ref (b + 0), .int p1] : List Value).toArray) s 1 6 (geA b)) (F0 m 18 ls []) := by
      intro n
      induction n with
      | zero =>
        intro τ x1 x2 H locs ls hf
        rw [l_X4_homeIn_18.eq_1] at hf
        cases hf
      | succ n ih_18 =>
        intro τ x1 x2 H locs ls hf hW hS hl
        rw [l_X4_homeIn_18.eq_2] at hf
        refine lv_iload_n hx hb dX4_homeIn_18 rfl (lv_at hl 2 rfl) ?_
        refine lv_bipush (v := 40) hx hb dX4_homeIn_19 (by decide) ?_
        refine lv_icmp_ge (tgt := 54) hx hb dX4_homeIn_21 (by decide) (fun h9 => ?_) (fun h9 => ?_)
        · have hf := ifp h9 hf
          refine lv_iload_n hx hb dX4_homeIn_54 rfl (lv_at hl 2 rfl) ?_
          cases hf
          refine vx_ret ?_
          refine W.widen (k := 1) (n := 6) (Nat.le_of_ble_eq_true rfl) (Nat.le_of_ble_eq_true rfl) ?_
          exact W.iret hx hb hr (fun u hu _ => ⟨_, _, rfl, ⟨rfl, by rw [hu]; exact hW⟩, hS.F hu⟩) hS.2.2 dX4_homeIn_55
        · have hf := ifn h9 hf
          refine lv_aload_n hx hb dX4_homeIn_24 rfl (lv_at hl 0 rfl) ?_
          refine getP hx hb hta hown hE.1 hW 1 (by decide) q275 rfl dX4_homeIn_25 ?_
          refine getF hx hb hta hown hE.1 hW sh_28 12 (by decide) q195 rfl dX4_homeIn_28 ?_
          refine getC hx hb hta hown hE.1 hW (shF_4 sh_28) 6 (by decide) q85 rfl dX4_homeIn_31 ?_
          refine lv_iload_n hx hb dX4_homeIn_34 rfl (lv_at hl 1 rfl) ?_
          obtain ⟨g10, hf⟩ := gd_e hf
          refine iald hx hb hE.1 hW (shC_5 (shF_4 sh_28)) g10 dX4_homeIn_35 ?_
          refine lv_iconst (v := (-1)) hx hb dX4_homeIn_36 (by decide) ?_
          refine lv_icmp_eq (tgt := 54) hx hb dX4_homeIn_37 (by decide) (fun h11 => ?_) (fun h11 => ?_)
          · have hf := ifp h11 hf
            refine lv_iload_n hx hb dX4_homeIn_54 rfl (lv_at hl 2 rfl) ?_
            cases hf
            refine vx_ret ?_
            refine W.widen (k := 1) (n := 6) (Nat.le_of_ble_eq_true rfl) (Nat.le_of_ble_eq_true rfl) ?_
            exact W.iret hx hb hr (fun u hu _ => ⟨_, _, rfl, ⟨rfl, by rw [hu]; exact hW⟩, hS.F hu⟩) hS.2.2 dX4_homeIn_55
          · have hf := ifn h11 hf
            refine lv_aload_n hx hb dX4_homeIn_40 rfl (lv_at hl 0 rfl) ?_
            refine getP hx hb hta hown hE.1 hW 1 (by decide) q275 rfl dX4_homeIn_41 ?_
            refine lv_iconst (v := 1) hx hb dX4_homeIn_44 (by decide) ?_
            obtain ⟨σ14, u13, hf⟩ := b1_e hf
            refine mV (k := 28) (q := (1, 0)) (C := RX1) (T := TX1) (N := 13) (ci := 1) (n := 1) (As := [.int 1]) (rest := []) (c_X1_letPass l D t b 28 τ 1 σ14 sh_28 u13) sh_28 (by decide) rfl rfl hx hb hml hown hts hE hW hS q626 q627 q628 q35 q629 hy_X1_letPass ⟨rfl, rfl⟩ ⟨Nat.le_of_ble_eq_true rfl, Nat.le_of_ble_eq_true rfl⟩ rfl rfl hl.1 (Nat.le_of_ble_eq_true rfl) ⟨Nat.le_of_ble_eq_true rfl, Nat.le_of_ble_eq_true rfl⟩ dX4_homeIn_45 (fun H locs hW hS => ?_)
            refine lv_iinc (v := (x2 + 1)) (lv' := [(2, .int (x2 + 1)), (0, .ref (b + 0)), (1, .int x1)]) hx hb dX4_homeIn_48 hl (k := 2) rfl (by rfl) (by decide) rfl (fun ls hl => ?_)
            refine lv_goto (tgt := 18) hx hb dX4_homeIn_51 (by decide) ?_
            exact ih_18 σ14 x1 (x2 + 1) _ _ _ hf hW hS (lv_sub hl [1, 2, 0] rfl)
    exact key_18 10000 σ8 p1 0 _ _ _ hf hW hS (lv_sub hl [1, 2, 0] rfl)
def l_X4_bestPitch_18 : Nat → Sg → Int32 → Int32 → Int32 → Int32 → Int32 → Option (Nat ⊕ (Int32 × Sg))
  | 0, _, _, _, _, _, _ => none
  | n + 1, τ, x1, x2, x3, x4, x5 => if 12 ≤ x5 then (some (.inr (x3, τ))) else (b1 (f_X1_findStall 1 τ x5) fun y12 => if y12 = (-1) then (b2 (f_X4_coinsOfNewStall τ x5 x1 x2) fun y15 σ17 => if y15 ≤ x4 then (l_X4_bestPitch_18 n σ17 x1 x2 x3 x4 (x5 + 1)) else (l_X4_bestPitch_18 n σ17 x1 x2 x5 y15 (x5 + 1))) else (l_X4_bestPitch_18 n τ x1 x2 x3 x4 (x5 + 1)))
def f_X4_bestPitch (σ : Sg) (p1 : Int32) (p2 : Int32) : Option (Nat ⊕ (Int32 × Sg)) := bt (f_X4_needKind σ p1) fun y5 => bt (f_X4_needPrice σ p2) fun y10 => l_X4_bestPitch_18 10000 σ p1 p2 (-1) (-1) 0
set_option maxHeartbeats 4000000 in
set_option maxRecDepth 100000 in
theorem c_X4_bestPitch (l : Launch) (hfl : l.stackTraces = false) (D : va_G) (t : Nat → ClassId) (b : Nat) (σ : Sg) (p1 : Int32) (p2 : Int32) (r : (Nat ⊕ (Int32 × Sg))) (hf : f_X4_bestPitch σ p1 p2 = some r) : vx_Met l yX4_bestPitch (Cond.code yX4_bestPitch cX4_bestPitch 7 (some .int) :: ALL) ({ frames := 7, cells := 2, slots := 12, locals := 127 }) (PM D t b σ [.ref (b + 0), .int p1, .int p2]) (QX D t b (Sum.map (fun k => (k, σ)) (fun y => (some (.int y.1), y.2)) r)) (XX D t b (Sum.map (fun k => (k, σ)) (fun y => (some (.int y.1), y.2)) r)) 2 12 (geA b) := by
  refine vx_ofW (cc := cX4_bestPitch) (maxL := 7) (ret := (some .int)) (by decide) rfl ?_
  intro p e s m args below meth c s₁ B hml htab hv
  obtain ⟨rfl, hW, hE⟩ := hv
  have hx := B.exec
  have hb := B.bytes
  have hr := B.returns
  have hts := atoms_spec (ws := Cond.code yX4_bestPitch cX4_bestPitch 7 (some .int) :: ALL) B.pre
  have hta := fun w h => hts w (List.mem_cons_of_mem _ h)
  have hown : s.vm.findClass RX4 = some m.cls := findClass_of_methodNamed B.named
  have hlocks := B.notSynchronized
  have hS : va_S (geA b) s.heap s.heap [] := va_S.rf
  have hl := lv_entry ([.ref (b + 0), .int p1, .int p2]) (n := 7) (Nat.le_of_ble_eq_true rfl)
  rw [lg_entry_eq]
  generalize (lg_sl ([.ref (b + 0), .int p1, .int p2]) ++ List.replicate (7 - (lg_sl ([.ref (b + 0), .int p1, .int p2])).length) Slot.unset).toArray = ls at hl ⊢
  have hl : lv_has ls 7 [(0, .ref (b + 0)), (1, .int p1), (2, .int p2)] := hl
  unfold f_X4_bestPitch at hf
  refine lv_aload_n hx hb dX4_bestPitch_0 rfl (lv_at hl 0 rfl) ?_
  refine lv_iload_n hx hb dX4_bestPitch_1 rfl (lv_at hl 1 rfl) ?_
  rcases bt_e hf with ⟨k3, u4, hf⟩ | ⟨y5, u4, hf⟩
  · subst hf
    refine mVXt (k := 0) (q := (0, 0)) (C := RX4) (T := TX4) (N := 8) (ci := 4) (n := 1) (As := [.int p1]) (rest := []) (c_X4_needKind l hfl D t b σ p1 (.inl k3) u4) sh_0 (by decide) rfl rfl hx hb hml hown hts hE hW hS q375 q377 q2 q34 q378 hy_X4_needKind ⟨rfl, rfl⟩ ⟨Nat.le_of_ble_eq_true rfl, Nat.le_of_ble_eq_true rfl⟩ rfl rfl hl.1 (Nat.le_of_ble_eq_true rfl) ⟨Nat.le_of_ble_eq_true rfl, Nat.le_of_ble_eq_true rfl⟩ dX4_bestPitch_2 htab hlocks ⟨Nat.le_of_ble_eq_true rfl, Nat.le_of_ble_eq_true rfl⟩
  · refine mVXn (k := 0) (q := (0, 0)) (C := RX4) (T := TX4) (N := 8) (ci := 4) (n := 1) (As := [.int p1]) (rest := []) (c_X4_needKind l hfl D t b σ p1 (.inr y5) u4) sh_0 (by decide) rfl rfl hx hb hml hown hts hE hW hS q375 q377 q2 q34 q378 hy_X4_needKind ⟨rfl, rfl⟩ ⟨Nat.le_of_ble_eq_true rfl, Nat.le_of_ble_eq_true rfl⟩ rfl rfl hl.1 (Nat.le_of_ble_eq_true rfl) ⟨Nat.le_of_ble_eq_true rfl, Nat.le_of_ble_eq_true rfl⟩ dX4_bestPitch_2 (fun H locs hW hS => ?_)
    refine lv_aload_n hx hb dX4_bestPitch_5 rfl (lv_at hl 0 rfl) ?_
    refine lv_iload_n hx hb dX4_bestPitch_6 rfl (lv_at hl 2 rfl) ?_
    rcases bt_e hf with ⟨k8, u9, hf⟩ | ⟨y10, u9, hf⟩
    · subst hf
      refine mVXt (k := 0) (q := (0, 0)) (C := RX4) (T := TX4) (N := 8) (ci := 4) (n := 1) (As := [.int p2]) (rest := []) (c_X4_needPrice l hfl D t b σ p2 (.inl k8) u9) sh_0 (by decide) rfl rfl hx hb hml hown hts hE hW hS q380 q382 q3 q34 q383 hy_X4_needPrice ⟨rfl, rfl⟩ ⟨Nat.le_of_ble_eq_true rfl, Nat.le_of_ble_eq_true rfl⟩ rfl rfl hl.1 (Nat.le_of_ble_eq_true rfl) ⟨Nat.le_of_ble_eq_true rfl, Nat.le_of_ble_eq_true rfl⟩ dX4_bestPitch_7 htab hlocks ⟨Nat.le_of_ble_eq_true rfl, Nat.le_of_ble_eq_true rfl⟩
    · refine mVXn (k := 0) (q := (0, 0)) (C := RX4) (T := TX4) (N := 8) (ci := 4) (n := 1) (As := [.int p2]) (rest := []) (c_X4_needPrice l hfl D t b σ p2 (.inr y10) u9) sh_0 (by decide) rfl rfl hx hb hml hown hts hE hW hS q380 q382 q3 q34 q383 hy_X4_needPrice ⟨rfl, rfl⟩ ⟨Nat.le_of_ble_eq_true rfl, Nat.le_of_ble_eq_true rfl⟩ rfl rfl hl.1 (Nat.le_of_ble_eq_true rfl) ⟨Nat.le_of_ble_eq_true rfl, Nat.le_of_ble_eq_true rfl⟩ dX4_bestPitch_7 (fun H locs hW hS => ?_)
      refine lv_iconst (v := (-1)) hx hb dX4_bestPitch_10 (by decide) ?_
      refine lv_istore_n (lv' := [(3, .int (-1)), (0, .ref (b + 0)), (1, .int p1), (2, .int p2)]) hx hb dX4_bestPitch_11 rfl hl (by decide) rfl (fun ls hl => ?_)
      refine lv_iconst (v := (-1)) hx hb dX4_bestPitch_12 (by decide) ?_
      refine lv_istore (lv' := [(4, .int (-1)), (3, .int (-1)), (0, .ref (b + 0)), (1, .int p1), (2, .int p2)]) hx hb dX4_bestPitch_13 hl (by decide) rfl (fun ls hl => ?_)
      refine lv_iconst (v := 0) hx hb dX4_bestPitch_15 (by decide) ?_
      refine lv_istore (lv' := [(5, .int 0), (4, .int (-1)), (3, .int (-1)), (0, .ref (b + 0)), (1, .int p1), (2, .int p2)]) hx hb dX4_bestPitch_16 hl (by decide) rfl (fun ls hl => ?_)
      have key_18 : ∀ (n : Nat) (τ : Sg) (x1 : Int32) (x2 : Int32) (x3 : Int32) (x4 : Int32) (x5 : Int32) (H : Heap) (locs : List Loc) (ls : Array Slot), l_X4_bestPitch_18 n τ x1 x2 x3 x4 x5 = some r → wd D t b τ H → va_S (geA b) s.heap H locs → lv_has ls 7 [(0, .ref (b + 0)), (1, .int x1), (2, .int x2), (3, .int x3), (4, .int x4), (5, .int x5)] → W p l e (headSpec (Cond.code yX4_bestPitch cX4_bestPitch 7 (some .int) :: ALL) ({ frames := 7, cells := 2, slots := 12, locals := 127 })).room s m (([.ref (b + 0), .int p1, .int p2] : List Value).toArray) below meth c H locs 2 12 (vx_MQ below (QX D t b (Sum.map (fun k => (k, σ)) (fun y => (some (.int y.1), y.2)) r)) (XX D t b (Sum.map (fun k => (k, σ)) (fun y => (some (.int y.1), y.2)) r)) (([.ref (b + 0), .int p1, .int p2] : List Value).toArray) s 2 12 (geA b)) (F0 m 18 ls []) := by
        intro n
        induction n with
        | zero =>
          intro τ x1 x2 x3 x4 x5 H locs ls hf
          rw [l_X4_bestPitch_18.eq_1] at hf
          cases hf
        | succ n ih_18 =>
          intro τ x1 x2 x3 x4 x5 H locs ls hf hW hS hl
          rw [l_X4_bestPitch_18.eq_2] at hf
          refine lv_iload hx hb dX4_bestPitch_18 (lv_at hl 5 rfl) ?_
          refine lv_bipush (v := 12) hx hb dX4_bestPitch_20 (by decide) ?_
          refine lv_icmp_ge (tgt := 68) hx hb dX4_bestPitch_22 (by decide) (fun h11 => ?_) (fun h11 => ?_)
          · have hf := ifp h11 hf
            refine lv_iload_n hx hb dX4_bestPitch_68 rfl (lv_at hl 3 rfl) ?_
            cases hf
            refine vx_ret ?_
            refine W.widen (k := 2) (n := 12) (Nat.le_of_ble_eq_true rfl) (Nat.le_of_ble_eq_true rfl) ?_
            exact W.iret hx hb hr (fun u hu _ => ⟨_, _, rfl, ⟨rfl, by rw [hu]; exact hW⟩, hS.F hu⟩) hS.2.2 dX4_bestPitch_69
          · have hf := ifn h11 hf
            refine lv_aload_n hx hb dX4_bestPitch_25 rfl (lv_at hl 0 rfl) ?_
            refine getP hx hb hta hown hE.1 hW 0 (by decide) q274 rfl dX4_bestPitch_26 ?_
            refine lv_iload hx hb dX4_bestPitch_29 (lv_at hl 5 rfl) ?_
            obtain ⟨y12, u13, hf⟩ := b1_e hf
            refine mV (k := 1) (q := (1, 0)) (C := RX1) (T := TX1) (N := 13) (ci := 1) (n := 1) (As := [.int x5]) (rest := []) (c_X1_findStall l D t b 1 τ x5 y12 sh_1 u13) sh_1 (by decide) rfl rfl hx hb hml hown hts hE hW hS q809 q405 q406 q35 q407 hy_X1_findStall ⟨rfl, rfl⟩ ⟨Nat.le_of_ble_eq_true rfl, Nat.le_of_ble_eq_true rfl⟩ rfl rfl hl.1 (Nat.le_of_ble_eq_true rfl) ⟨Nat.le_of_ble_eq_true rfl, Nat.le_of_ble_eq_true rfl⟩ dX4_bestPitch_31 (fun H locs hW hS => ?_)
            refine lv_iconst (v := (-1)) hx hb dX4_bestPitch_34 (by decide) ?_
            refine lv_icmp_ne (tgt := 62) hx hb dX4_bestPitch_35 (by decide) (fun h14 => ?_) (fun h14 => ?_)
            · have hf := ifn h14 hf
              refine lv_iinc (v := (x5 + 1)) (lv' := [(5, .int (x5 + 1)), (0, .ref (b + 0)), (1, .int x1), (2, .int x2), (3, .int x3), (4, .int x4)]) hx hb dX4_bestPitch_62 hl (k := 5) rfl (by rfl) (by decide) rfl (fun ls hl => ?_)
              refine lv_goto (tgt := 18) hx hb dX4_bestPitch_65 (by decide) ?_
              exact ih_18 τ x1 x2 x3 x4 (x5 + 1) _ _ _ hf hW hS (lv_sub hl [1, 2, 3, 4, 5, 0] rfl)
            · have hf := ifp h14 hf
              refine lv_aload_n hx hb dX4_bestPitch_38 rfl (lv_at hl 0 rfl) ?_
              refine lv_iload hx hb dX4_bestPitch_39 (lv_at hl 5 rfl) ?_
              refine lv_iload_n hx hb dX4_bestPitch_41 rfl (lv_at hl 1 rfl) ?_
              refine lv_iload_n hx hb dX4_bestPitch_42 rfl (lv_at hl 2 rfl) ?_
              obtain ⟨y15, σ17, u16, hf⟩ := b2_e hf
              refine mV (k := 0) (q := (0, 0)) (C := RX4) (T := TX4) (N := 8) (ci := 4) (n := 3) (As := [.int x5, .int x1, .int x2]) (rest := []) (c_X4_coinsOfNewStall l D t b τ x5 x1 x2 y15 σ17 u16) sh_0 (by decide) rfl rfl hx hb hml hown hts hE hW hS q834 q836 q19 q34 q837 hy_X4_coinsOfNewStall ⟨rfl, rfl⟩ ⟨Nat.le_of_ble_eq_true rfl, Nat.le_of_ble_eq_true rfl⟩ rfl rfl hl.1 (Nat.le_of_ble_eq_true rfl) ⟨Nat.le_of_ble_eq_true rfl, Nat.le_of_ble_eq_true rfl⟩ dX4_bestPitch_43 (fun H locs hW hS => ?_)
              refine lv_istore (lv' := [(6, .int y15), (0, .ref (b + 0)), (1, .int x1), (2, .int x2), (3, .int x3), (4, .int x4), (5, .int x5)]) hx hb dX4_bestPitch_46 hl (by decide) rfl (fun ls hl => ?_)
              refine lv_iload hx hb dX4_bestPitch_48 (lv_at hl 0 rfl) ?_
              refine lv_iload hx hb dX4_bestPitch_50 (lv_at hl 5 rfl) ?_
              refine lv_icmp_le (tgt := 62) hx hb dX4_bestPitch_52 (by decide) (fun h18 => ?_) (fun h18 => ?_)
              · have hf := ifp h18 hf
                refine lv_iinc (v := (x5 + 1)) (lv' := [(5, .int (x5 + 1)), (6, .int y15), (0, .ref (b + 0)), (1, .int x1), (2, .int x2), (3, .int x3), (4, .int x4)]) hx hb dX4_bestPitch_62 hl (k := 6) rfl (by rfl) (by decide) rfl (fun ls hl => ?_)
                refine lv_goto (tgt := 18) hx hb dX4_bestPitch_65 (by decide) ?_
                exact ih_18 σ17 x1 x2 x3 x4 (x5 + 1) _ _ _ hf hW hS (lv_sub hl [2, 3, 4, 5, 6, 0] rfl)
              · have hf := ifn h18 hf
                refine lv_iload hx hb dX4_bestPitch_55 (lv_at hl 0 rfl) ?_
                refine lv_istore (lv' := [(4, .int y15), (6, .int y15), (0, .ref (b + 0)), (1, .int x1), (2, .int x2), (3, .int x3), (5, .int x5)]) hx hb dX4_bestPitch_57 hl (by decide) rfl (fun ls hl => ?_)
                refine lv_iload hx hb dX4_bestPitch_59 (lv_at hl 6 rfl) ?_
                refine lv_istore_n (lv' := [(3, .int x5), (4, .int y15), (6, .int y15), (0, .ref (b + 0)), (1, .int x1), (2, .int x2), (5, .int x5)]) hx hb dX4_bestPitch_61 rfl hl (by decide) rfl (fun ls hl => ?_)
                refine lv_iinc (v := (x5 + 1)) (lv' := [(5, .int (x5 + 1)), (3, .int x5), (4, .int y15), (6, .int y15), (0, .ref (b + 0)), (1, .int x1), (2, .int x2)]) hx hb dX4_bestPitch_62 hl (k := 6) rfl (by rfl) (by decide) rfl (fun ls hl => ?_)
                refine lv_goto (tgt := 18) hx hb dX4_bestPitch_65 (by decide) ?_
                exact ih_18 σ17 x1 x2 x5 y15 (x5 + 1) _ _ _ hf hW hS (lv_sub hl [4, 5, 6, 1, 2, 0] rfl)
      exact key_18 10000 σ p1 p2 (-1) (-1) 0 _ _ _ hf hW hS (lv_sub hl [3, 4, 5, 2, 1, 0] rfl)

def f_L_build (σ : Sg) (p1 : Int32) (p2 : Int32) (p3 : Int32) (p4 : Int32) : Option (Int32 × Sg) := bw (f_X4_build σ p1 p2 p3 p4) (fun k => if k = 1 then (some (1, σ)) else (if k = 2 then (some (2, σ)) else (if k = 3 then (some (3, σ)) else (none)))) (fun y => st (u2 y.2 202 (0 : Int32).toNatClampNeg y.1) fun σ7 => some (0, σ7))
set_option maxHeartbeats 4000000 in
set_option maxRecDepth 100000 in
theorem c_L_build (l : Launch) (hfl : l.stackTraces = false) (D : va_G) (t : Nat → ClassId) (b : Nat) (σ : Sg) (p1 : Int32) (p2 : Int32) (p3 : Int32) (p4 : Int32) (r : Int32) (σr : Sg) (hf : f_L_build σ p1 p2 p3 p4 = some (r, σr)) : Met l yL_build (Cond.codeWith yL_build cL_build 7 (some .int) [(0, 14, 17, 13), (0, 14, 21, 15), (0, 14, 25, 17)] :: ALL) ({ frames := 8, cells := 4, slots := 24, locals := 147 }) (PM D t b σ [.ref (b + 0), .int p1, .int p2, .int p3, .int p4, .ref (b + 202)]) (QG D t b σr (some (.int r))) 4 24 (geA b) := by
  refine MetH (cc := cL_build) (maxL := 7) (ret := (some .int)) (hh := [(0, 14, 17, 13), (0, 14, 21, 15), (0, 14, 25, 17)]) (by decide) rfl ?_
  intro p e s m args below meth c s₁ B hml hv
  obtain ⟨rfl, hW, hE⟩ := hv
  have hx := B.exec
  have hb := B.bytes
  have hr := B.returns
  have hts := atoms_spec (ws := Cond.codeWith yL_build cL_build 7 (some .int) [(0, 14, 17, 13), (0, 14, 21, 15), (0, 14, 25, 17)] :: ALL) B.pre
  have hta := fun w h => hts w (List.mem_cons_of_mem _ h)
  have htab : c.exceptionTable.toList = tableOf [(0, 14, 17, 13), (0, 14, 21, 15), (0, 14, 25, 17)] := vx_table (x := yL_build) B (hts _ List.mem_cons_self)
  have hown : s.vm.findClass RL = some m.cls := findClass_of_methodNamed B.named
  have hlocks := B.notSynchronized
  have hS : va_S (geA b) s.heap s.heap [] := va_S.rf
  have hl := lv_entry ([.ref (b + 0), .int p1, .int p2, .int p3, .int p4, .ref (b + 202)]) (n := 7) (Nat.le_of_ble_eq_true rfl)
  rw [lg_entry_eq]
  generalize (lg_sl ([.ref (b + 0), .int p1, .int p2, .int p3, .int p4, .ref (b + 202)]) ++ List.replicate (7 - (lg_sl ([.ref (b + 0), .int p1, .int p2, .int p3, .int p4, .ref (b + 202)])).length) Slot.unset).toArray = ls at hl ⊢
  have hl : lv_has ls 7 [(0, .ref (b + 0)), (1, .int p1), (2, .int p2), (3, .int p3), (4, .int p4), (5, .ref (b + 202))] := hl
  unfold f_L_build at hf
  refine lv_aload hx hb dL_build_0 (lv_at hl 5 rfl) ?_
  refine lv_iconst (v := 0) hx hb dL_build_2 (by decide) ?_
  refine lv_aload_n hx hb dL_build_3 rfl (lv_at hl 0 rfl) ?_
  refine lv_iload_n hx hb dL_build_4 rfl (lv_at hl 1 rfl) ?_
  refine lv_iload_n hx hb dL_build_5 rfl (lv_at hl 2 rfl) ?_
  refine lv_iload_n hx hb dL_build_6 rfl (lv_at hl 3 rfl) ?_
  refine lv_iload hx hb dL_build_7 (lv_at hl 4 rfl) ?_
  rcases bw_e hf with ⟨k2, u3, hf⟩ | ⟨y4, u3, hf⟩
  · skip
    by_cases h0 : k2 = 1
    · have hf := ifp h0 hf
      subst h0
      refine mVX (k := 0) (q := (0, 0)) (C := RX4) (T := TX4) (N := 8) (ci := 4) (n := 4) (As := [.int p1, .int p2, .int p3, .int p4]) (rest := [.int 0, .ref (b + 202)]) (c_X4_build l hfl D t b σ p1 p2 p3 p4 (.inl 1) u3) sh_0 (by decide) rfl rfl hx hb hml hown hts hE hW hS q642 q643 q644 q91 q645 hy_X4_build ⟨rfl, rfl⟩ ⟨Nat.le_of_ble_eq_true rfl, Nat.le_of_ble_eq_true rfl⟩ rfl rfl hl.1 (Nat.le_of_ble_eq_true rfl) ⟨Nat.le_of_ble_eq_true rfl, Nat.le_of_ble_eq_true rfl⟩ dL_build_9 (fun k2 σ2 hk H locs ce q9 hW hS hce hcv hcl => ?_) (fun _ _ hz => by cases hz)
      cases hk
      refine vx_catch (name := exn 1) hown [] ⟨0, 14, 17, 13⟩ [⟨0, 14, 21, 15⟩, ⟨0, 14, 25, 17⟩] htab (fun z hz => by cases hz) (by decide) (by decide) (hta _ lk_1) (va_Nw.use (NG_tab _ ca_1) (hE.2.1 _ ca_1)) hce hcv hcl ?_
      refine lv_astore (lv' := [(6, .ref q9), (0, .ref (b + 0)), (1, .int p1), (2, .int p2), (3, .int p3), (4, .int p4), (5, .ref (b + 202))]) hx hb dL_build_17 hl (by decide) rfl (fun ls hl => ?_)
      refine lv_iconst (v := 1) hx hb dL_build_19 (by decide) ?_
      cases hf
      refine W.widen (k := 4) (n := 24) (Nat.le_of_ble_eq_true rfl) (Nat.le_of_ble_eq_true rfl) ?_
      exact W.iret hx hb hr (fun u hu _ => ⟨⟨rfl, by rw [hu]; exact hW⟩, hS.F hu⟩) hS.2.2 dL_build_20
    · have hf := ifn h0 hf
      by_cases h1 : k2 = 2
      · have hf := ifp h1 hf
        subst h1
        refine mVX (k := 0) (q := (0, 0)) (C := RX4) (T := TX4) (N := 8) (ci := 4) (n := 4) (As := [.int p1, .int p2, .int p3, .int p4]) (rest := [.int 0, .ref (b + 202)]) (c_X4_build l hfl D t b σ p1 p2 p3 p4 (.inl 2) u3) sh_0 (by decide) rfl rfl hx hb hml hown hts hE hW hS q642 q643 q644 q91 q645 hy_X4_build ⟨rfl, rfl⟩ ⟨Nat.le_of_ble_eq_true rfl, Nat.le_of_ble_eq_true rfl⟩ rfl rfl hl.1 (Nat.le_of_ble_eq_true rfl) ⟨Nat.le_of_ble_eq_true rfl, Nat.le_of_ble_eq_true rfl⟩ dL_build_9 (fun k2 σ2 hk H locs ce q9 hW hS hce hcv hcl => ?_) (fun _ _ hz => by cases hz)
        cases hk
        refine vx_catch (name := exn 2) hown [⟨0, 14, 17, 13⟩] ⟨0, 14, 21, 15⟩ [⟨0, 14, 25, 17⟩] htab (fun z hz => by rw [List.mem_singleton.mp hz]; exact Or.inr ⟨by decide, _, hta _ lk_1, nc_21 hE⟩) (by decide) (by decide) (hta _ lk_2) (va_Nw.use (NG_tab _ ca_2) (hE.2.1 _ ca_2)) hce hcv hcl ?_
        refine lv_astore (lv' := [(6, .ref q9), (0, .ref (b + 0)), (1, .int p1), (2, .int p2), (3, .int p3), (4, .int p4), (5, .ref (b + 202))]) hx hb dL_build_21 hl (by decide) rfl (fun ls hl => ?_)
        refine lv_iconst (v := 2) hx hb dL_build_23 (by decide) ?_
        cases hf
        refine W.widen (k := 4) (n := 24) (Nat.le_of_ble_eq_true rfl) (Nat.le_of_ble_eq_true rfl) ?_
        exact W.iret hx hb hr (fun u hu _ => ⟨⟨rfl, by rw [hu]; exact hW⟩, hS.F hu⟩) hS.2.2 dL_build_24
      · have hf := ifn h1 hf
        by_cases h2 : k2 = 3
        · have hf := ifp h2 hf
          subst h2
          refine mVX (k := 0) (q := (0, 0)) (C := RX4) (T := TX4) (N := 8) (ci := 4) (n := 4) (As := [.int p1, .int p2, .int p3, .int p4]) (rest := [.int 0, .ref (b + 202)]) (c_X4_build l hfl D t b σ p1 p2 p3 p4 (.inl 3) u3) sh_0 (by decide) rfl rfl hx hb hml hown hts hE hW hS q642 q643 q644 q91 q645 hy_X4_build ⟨rfl, rfl⟩ ⟨Nat.le_of_ble_eq_true rfl, Nat.le_of_ble_eq_true rfl⟩ rfl rfl hl.1 (Nat.le_of_ble_eq_true rfl) ⟨Nat.le_of_ble_eq_true rfl, Nat.le_of_ble_eq_true rfl⟩ dL_build_9 (fun k2 σ2 hk H locs ce q9 hW hS hce hcv hcl => ?_) (fun _ _ hz => by cases hz)
          cases hk
          refine vx_catch (name := exn 3) hown [⟨0, 14, 17, 13⟩, ⟨0, 14, 21, 15⟩] ⟨0, 14, 25, 17⟩ [] htab (fun z hz => (List.mem_cons.mp hz).elim (fun h => by rw [h]; exact Or.inr ⟨by decide, _, hta _ lk_1, nc_31 hE⟩) (fun h => by rw [List.mem_singleton.mp h]; exact Or.inr ⟨by decide, _, hta _ lk_2, nc_32 hE⟩)) (by decide) (by decide) (hta _ lk_3) (va_Nw.use (NG_tab _ ca_3) (hE.2.1 _ ca_3)) hce hcv hcl ?_
          refine lv_astore (lv' := [(6, .ref q9), (0, .ref (b + 0)), (1, .int p1), (2, .int p2), (3, .int p3), (4, .int p4), (5, .ref (b + 202))]) hx hb dL_build_25 hl (by decide) rfl (fun ls hl => ?_)
          refine lv_iconst (v := 3) hx hb dL_build_27 (by decide) ?_
          cases hf
          refine W.widen (k := 4) (n := 24) (Nat.le_of_ble_eq_true rfl) (Nat.le_of_ble_eq_true rfl) ?_
          exact W.iret hx hb hr (fun u hu _ => ⟨⟨rfl, by rw [hu]; exact hW⟩, hS.F hu⟩) hS.2.2 dL_build_28
        · have hf := ifn h2 hf
          cases hf
  · obtain ⟨y6, σ5⟩ := y4
    refine mVXn (k := 0) (q := (0, 0)) (C := RX4) (T := TX4) (N := 8) (ci := 4) (n := 4) (As := [.int p1, .int p2, .int p3, .int p4]) (rest := [.int 0, .ref (b + 202)]) (c_X4_build l hfl D t b σ p1 p2 p3 p4 (.inr (y6, σ5)) u3) sh_0 (by decide) rfl rfl hx hb hml hown hts hE hW hS q642 q643 q644 q91 q645 hy_X4_build ⟨rfl, rfl⟩ ⟨Nat.le_of_ble_eq_true rfl, Nat.le_of_ble_eq_true rfl⟩ rfl rfl hl.1 (Nat.le_of_ble_eq_true rfl) ⟨Nat.le_of_ble_eq_true rfl, Nat.le_of_ble_eq_true rfl⟩ dL_build_9 (fun H locs hW hS => ?_)
    refine lv_i2l hx hb dL_build_12 rfl ?_
    refine last (k := 202) (i := 0) (x := y6) rfl hx hb hE.1 hW hS sh_202 (vp_lit (by decide +kernel)) dL_build_13 (fun H locs hW hS => ?_)
    obtain ⟨σ7, e8, hf⟩ := st_e hf
    rw [e8] at hW
    refine lv_goto (tgt := 29) hx hb dL_build_14 (by decide) ?_
    refine lv_iconst (v := 0) hx hb dL_build_29 (by decide) ?_
    cases hf
    refine W.widen (k := 4) (n := 24) (Nat.le_of_ble_eq_true rfl) (Nat.le_of_ble_eq_true rfl) ?_
    exact W.iret hx hb hr (fun u hu _ => ⟨⟨rfl, by rw [hu]; exact hW⟩, hS.F hu⟩) hS.2.2 dL_build_30
def f_L_pullDown (σ : Sg) (p1 : Int32) : Option (Int32 × Sg) := bw (f_X4_pullDown σ p1) (fun k => if k = 1 then (some (1, σ)) else (none)) (fun y => st (u2 y.2 202 (0 : Int32).toNatClampNeg y.1) fun σ7 => some (0, σ7))
set_option maxHeartbeats 4000000 in
set_option maxRecDepth 100000 in
theorem c_L_pullDown (l : Launch) (hfl : l.stackTraces = false) (D : va_G) (t : Nat → ClassId) (b : Nat) (σ : Sg) (p1 : Int32) (r : Int32) (σr : Sg) (hf : f_L_pullDown σ p1 = some (r, σr)) : Met l yL_pullDown (Cond.codeWith yL_pullDown cL_pullDown 4 (some .int) [(0, 9, 12, 13)] :: ALL) ({ frames := 8, cells := 1, slots := 6, locals := 145 }) (PM D t b σ [.ref (b + 0), .int p1, .ref (b + 202)]) (QG D t b σr (some (.int r))) 1 6 (geA b) := by
  refine MetH (cc := cL_pullDown) (maxL := 4) (ret := (some .int)) (hh := [(0, 9, 12, 13)]) (by decide) rfl ?_
  intro p e s m args below meth c s₁ B hml hv
  obtain ⟨rfl, hW, hE⟩ := hv
  have hx := B.exec
  have hb := B.bytes
  have hr := B.returns
  have hts := atoms_spec (ws := Cond.codeWith yL_pullDown cL_pullDown 4 (some .int) [(0, 9, 12, 13)] :: ALL) B.pre
  have hta := fun w h => hts w (List.mem_cons_of_mem _ h)
  have htab : c.exceptionTable.toList = tableOf [(0, 9, 12, 13)] := vx_table (x := yL_pullDown) B (hts _ List.mem_cons_self)
  have hown : s.vm.findClass RL = some m.cls := findClass_of_methodNamed B.named
  have hlocks := B.notSynchronized
  have hS : va_S (geA b) s.heap s.heap [] := va_S.rf
  have hl := lv_entry ([.ref (b + 0), .int p1, .ref (b + 202)]) (n := 4) (Nat.le_of_ble_eq_true rfl)
  rw [lg_entry_eq]
  generalize (lg_sl ([.ref (b + 0), .int p1, .ref (b + 202)]) ++ List.replicate (4 - (lg_sl ([.ref (b + 0), .int p1, .ref (b + 202)])).length) Slot.unset).toArray = ls at hl ⊢
  have hl : lv_has ls 4 [(0, .ref (b + 0)), (1, .int p1), (2, .ref (b + 202))] := hl
  unfold f_L_pullDown at hf
  refine lv_aload_n hx hb dL_pullDown_0 rfl (lv_at hl 2 rfl) ?_
  refine lv_iconst (v := 0) hx hb dL_pullDown_1 (by decide) ?_
  refine lv_aload_n hx hb dL_pullDown_2 rfl (lv_at hl 0 rfl) ?_
  refine lv_iload_n hx hb dL_pullDown_3 rfl (lv_at hl 1 rfl) ?_
  rcases bw_e hf with ⟨k2, u3, hf⟩ | ⟨y4, u3, hf⟩
  · skip
    by_cases h0 : k2 = 1
    · have hf := ifp h0 hf
      subst h0
      refine mVX (k := 0) (q := (0, 0)) (C := RX4) (T := TX4) (N := 8) (ci := 4) (n := 1) (As := [.int p1]) (rest := [.int 0, .ref (b + 202)]) (c_X4_pullDown l hfl D t b σ p1 (.inl 1) u3) sh_0 (by decide) rfl rfl hx hb hml hown hts hE hW hS q791 q792 q793 q91 q794 hy_X4_pullDown ⟨rfl, rfl⟩ ⟨Nat.le_of_ble_eq_true rfl, Nat.le_of_ble_eq_true rfl⟩ rfl rfl hl.1 (Nat.le_of_ble_eq_true rfl) ⟨Nat.le_of_ble_eq_true rfl, Nat.le_of_ble_eq_true rfl⟩ dL_pullDown_4 (fun k2 σ2 hk H locs ce q9 hW hS hce hcv hcl => ?_) (fun _ _ hz => by cases hz)
      cases hk
      refine vx_catch (name := exn 1) hown [] ⟨0, 9, 12, 13⟩ [] htab (fun z hz => by cases hz) (by decide) (by decide) (hta _ lk_1) (va_Nw.use (NG_tab _ ca_1) (hE.2.1 _ ca_1)) hce hcv hcl ?_
      refine lv_astore_n (lv' := [(3, .ref q9), (0, .ref (b + 0)), (1, .int p1), (2, .ref (b + 202))]) hx hb dL_pullDown_12 rfl hl (by decide) rfl (fun ls hl => ?_)
      refine lv_iconst (v := 1) hx hb dL_pullDown_13 (by decide) ?_
      cases hf
      refine W.widen (k := 1) (n := 6) (Nat.le_of_ble_eq_true rfl) (Nat.le_of_ble_eq_true rfl) ?_
      exact W.iret hx hb hr (fun u hu _ => ⟨⟨rfl, by rw [hu]; exact hW⟩, hS.F hu⟩) hS.2.2 dL_pullDown_14
    · have hf := ifn h0 hf
      cases hf
  · obtain ⟨y6, σ5⟩ := y4
    refine mVXn (k := 0) (q := (0, 0)) (C := RX4) (T := TX4) (N := 8) (ci := 4) (n := 1) (As := [.int p1]) (rest := [.int 0, .ref (b + 202)]) (c_X4_pullDown l hfl D t b σ p1 (.inr (y6, σ5)) u3) sh_0 (by decide) rfl rfl hx hb hml hown hts hE hW hS q791 q792 q793 q91 q794 hy_X4_pullDown ⟨rfl, rfl⟩ ⟨Nat.le_of_ble_eq_true rfl, Nat.le_of_ble_eq_true rfl⟩ rfl rfl hl.1 (Nat.le_of_ble_eq_true rfl) ⟨Nat.le_of_ble_eq_true rfl, Nat.le_of_ble_eq_true rfl⟩ dL_pullDown_4 (fun H locs hW hS => ?_)
    refine lv_i2l hx hb dL_pullDown_7 rfl ?_
    refine last (k := 202) (i := 0) (x := y6) rfl hx hb hE.1 hW hS sh_202 (vp_lit (by decide +kernel)) dL_pullDown_8 (fun H locs hW hS => ?_)
    obtain ⟨σ7, e8, hf⟩ := st_e hf
    rw [e8] at hW
    refine lv_goto (tgt := 15) hx hb dL_pullDown_9 (by decide) ?_
    refine lv_iconst (v := 0) hx hb dL_pullDown_15 (by decide) ?_
    cases hf
    refine W.widen (k := 1) (n := 6) (Nat.le_of_ble_eq_true rfl) (Nat.le_of_ble_eq_true rfl) ?_
    exact W.iret hx hb hr (fun u hu _ => ⟨⟨rfl, by rw [hu]; exact hW⟩, hS.F hu⟩) hS.2.2 dL_pullDown_16
def f_L_setPrice (σ : Sg) (p1 : Int32) (p2 : Int32) : Option (Int32 × Sg) := bw (f_X4_setPrice σ p1 p2) (fun k => if k = 1 then (some (1, σ)) else (if k = 2 then (some (2, σ)) else (none))) (fun y => st (u2 y.2 202 (0 : Int32).toNatClampNeg y.1) fun σ7 => some (0, σ7))
set_option maxHeartbeats 4000000 in
set_option maxRecDepth 100000 in
theorem c_L_setPrice (l : Launch) (hfl : l.stackTraces = false) (D : va_G) (t : Nat → ClassId) (b : Nat) (σ : Sg) (p1 : Int32) (p2 : Int32) (r : Int32) (σr : Sg) (hf : f_L_setPrice σ p1 p2 = some (r, σr)) : Met l yL_setPrice (Cond.codeWith yL_setPrice cL_setPrice 5 (some .int) [(0, 10, 13, 13), (0, 10, 17, 15)] :: ALL) ({ frames := 9, cells := 2, slots := 12, locals := 148 }) (PM D t b σ [.ref (b + 0), .int p1, .int p2, .ref (b + 202)]) (QG D t b σr (some (.int r))) 2 12 (geA b) := by
  refine MetH (cc := cL_setPrice) (maxL := 5) (ret := (some .int)) (hh := [(0, 10, 13, 13), (0, 10, 17, 15)]) (by decide) rfl ?_
  intro p e s m args below meth c s₁ B hml hv
  obtain ⟨rfl, hW, hE⟩ := hv
  have hx := B.exec
  have hb := B.bytes
  have hr := B.returns
  have hts := atoms_spec (ws := Cond.codeWith yL_setPrice cL_setPrice 5 (some .int) [(0, 10, 13, 13), (0, 10, 17, 15)] :: ALL) B.pre
  have hta := fun w h => hts w (List.mem_cons_of_mem _ h)
  have htab : c.exceptionTable.toList = tableOf [(0, 10, 13, 13), (0, 10, 17, 15)] := vx_table (x := yL_setPrice) B (hts _ List.mem_cons_self)
  have hown : s.vm.findClass RL = some m.cls := findClass_of_methodNamed B.named
  have hlocks := B.notSynchronized
  have hS : va_S (geA b) s.heap s.heap [] := va_S.rf
  have hl := lv_entry ([.ref (b + 0), .int p1, .int p2, .ref (b + 202)]) (n := 5) (Nat.le_of_ble_eq_true rfl)
  rw [lg_entry_eq]
  generalize (lg_sl ([.ref (b + 0), .int p1, .int p2, .ref (b + 202)]) ++ List.replicate (5 - (lg_sl ([.ref (b + 0), .int p1, .int p2, .ref (b + 202)])).length) Slot.unset).toArray = ls at hl ⊢
  have hl : lv_has ls 5 [(0, .ref (b + 0)), (1, .int p1), (2, .int p2), (3, .ref (b + 202))] := hl
  unfold f_L_setPrice at hf
  refine lv_aload_n hx hb dL_setPrice_0 rfl (lv_at hl 3 rfl) ?_
  refine lv_iconst (v := 0) hx hb dL_setPrice_1 (by decide) ?_
  refine lv_aload_n hx hb dL_setPrice_2 rfl (lv_at hl 0 rfl) ?_
  refine lv_iload_n hx hb dL_setPrice_3 rfl (lv_at hl 1 rfl) ?_
  refine lv_iload_n hx hb dL_setPrice_4 rfl (lv_at hl 2 rfl) ?_
  rcases bw_e hf with ⟨k2, u3, hf⟩ | ⟨y4, u3, hf⟩
  · skip
    by_cases h0 : k2 = 1
    · have hf := ifp h0 hf
      subst h0
      refine mVX (k := 0) (q := (0, 0)) (C := RX4) (T := TX4) (N := 8) (ci := 4) (n := 2) (As := [.int p1, .int p2]) (rest := [.int 0, .ref (b + 202)]) (c_X4_setPrice l hfl D t b σ p1 p2 (.inl 1) u3) sh_0 (by decide) rfl rfl hx hb hml hown hts hE hW hS q815 q816 q817 q91 q818 hy_X4_setPrice ⟨rfl, rfl⟩ ⟨Nat.le_of_ble_eq_true rfl, Nat.le_of_ble_eq_true rfl⟩ rfl rfl hl.1 (Nat.le_of_ble_eq_true rfl) ⟨Nat.le_of_ble_eq_true rfl, Nat.le_of_ble_eq_true rfl⟩ dL_setPrice_5 (fun k2 σ2 hk H locs ce q9 hW hS hce hcv hcl => ?_) (fun _ _ hz => by cases hz)
      cases hk
      refine vx_catch (name := exn 1) hown [] ⟨0, 10, 13, 13⟩ [⟨0, 10, 17, 15⟩] htab (fun z hz => by cases hz) (by decide) (by decide) (hta _ lk_1) (va_Nw.use (NG_tab _ ca_1) (hE.2.1 _ ca_1)) hce hcv hcl ?_
      refine lv_astore (lv' := [(4, .ref q9), (0, .ref (b + 0)), (1, .int p1), (2, .int p2), (3, .ref (b + 202))]) hx hb dL_setPrice_13 hl (by decide) rfl (fun ls hl => ?_)
      refine lv_iconst (v := 1) hx hb dL_setPrice_15 (by decide) ?_
      cases hf
      refine W.widen (k := 2) (n := 12) (Nat.le_of_ble_eq_true rfl) (Nat.le_of_ble_eq_true rfl) ?_
      exact W.iret hx hb hr (fun u hu _ => ⟨⟨rfl, by rw [hu]; exact hW⟩, hS.F hu⟩) hS.2.2 dL_setPrice_16
    · have hf := ifn h0 hf
      by_cases h1 : k2 = 2
      · have hf := ifp h1 hf
        subst h1
        refine mVX (k := 0) (q := (0, 0)) (C := RX4) (T := TX4) (N := 8) (ci := 4) (n := 2) (As := [.int p1, .int p2]) (rest := [.int 0, .ref (b + 202)]) (c_X4_setPrice l hfl D t b σ p1 p2 (.inl 2) u3) sh_0 (by decide) rfl rfl hx hb hml hown hts hE hW hS q815 q816 q817 q91 q818 hy_X4_setPrice ⟨rfl, rfl⟩ ⟨Nat.le_of_ble_eq_true rfl, Nat.le_of_ble_eq_true rfl⟩ rfl rfl hl.1 (Nat.le_of_ble_eq_true rfl) ⟨Nat.le_of_ble_eq_true rfl, Nat.le_of_ble_eq_true rfl⟩ dL_setPrice_5 (fun k2 σ2 hk H locs ce q9 hW hS hce hcv hcl => ?_) (fun _ _ hz => by cases hz)
        cases hk
        refine vx_catch (name := exn 2) hown [⟨0, 10, 13, 13⟩] ⟨0, 10, 17, 15⟩ [] htab (fun z hz => by rw [List.mem_singleton.mp hz]; exact Or.inr ⟨by decide, _, hta _ lk_1, nc_21 hE⟩) (by decide) (by decide) (hta _ lk_2) (va_Nw.use (NG_tab _ ca_2) (hE.2.1 _ ca_2)) hce hcv hcl ?_
        refine lv_astore (lv' := [(4, .ref q9), (0, .ref (b + 0)), (1, .int p1), (2, .int p2), (3, .ref (b + 202))]) hx hb dL_setPrice_17 hl (by decide) rfl (fun ls hl => ?_)
        refine lv_iconst (v := 2) hx hb dL_setPrice_19 (by decide) ?_
        cases hf
        refine W.widen (k := 2) (n := 12) (Nat.le_of_ble_eq_true rfl) (Nat.le_of_ble_eq_true rfl) ?_
        exact W.iret hx hb hr (fun u hu _ => ⟨⟨rfl, by rw [hu]; exact hW⟩, hS.F hu⟩) hS.2.2 dL_setPrice_20
      · have hf := ifn h1 hf
        cases hf
  · obtain ⟨y6, σ5⟩ := y4
    refine mVXn (k := 0) (q := (0, 0)) (C := RX4) (T := TX4) (N := 8) (ci := 4) (n := 2) (As := [.int p1, .int p2]) (rest := [.int 0, .ref (b + 202)]) (c_X4_setPrice l hfl D t b σ p1 p2 (.inr (y6, σ5)) u3) sh_0 (by decide) rfl rfl hx hb hml hown hts hE hW hS q815 q816 q817 q91 q818 hy_X4_setPrice ⟨rfl, rfl⟩ ⟨Nat.le_of_ble_eq_true rfl, Nat.le_of_ble_eq_true rfl⟩ rfl rfl hl.1 (Nat.le_of_ble_eq_true rfl) ⟨Nat.le_of_ble_eq_true rfl, Nat.le_of_ble_eq_true rfl⟩ dL_setPrice_5 (fun H locs hW hS => ?_)
    refine lv_i2l hx hb dL_setPrice_8 rfl ?_
    refine last (k := 202) (i := 0) (x := y6) rfl hx hb hE.1 hW hS sh_202 (vp_lit (by decide +kernel)) dL_setPrice_9 (fun H locs hW hS => ?_)
    obtain ⟨σ7, e8, hf⟩ := st_e hf
    rw [e8] at hW
    refine lv_goto (tgt := 21) hx hb dL_setPrice_10 (by decide) ?_
    refine lv_iconst (v := 0) hx hb dL_setPrice_21 (by decide) ?_
    cases hf
    refine W.widen (k := 2) (n := 12) (Nat.le_of_ble_eq_true rfl) (Nat.le_of_ble_eq_true rfl) ?_
    exact W.iret hx hb hr (fun u hu _ => ⟨⟨rfl, by rw [hu]; exact hW⟩, hS.F hu⟩) hS.2.2 dL_setPrice_22
def f_L_turnStall (σ : Sg) (p1 : Int32) : Option (Int32 × Sg) := bw (f_X4_turnStall σ p1) (fun k => if k = 1 then (some (1, σ)) else (none)) (fun y => if y.1 = 0 then (st (u2 y.2 202 (0 : Int32).toNatClampNeg 0) fun σ8 => some (0, σ8)) else (st (u2 y.2 202 (0 : Int32).toNatClampNeg 1) fun σ10 => some (0, σ10)))
set_option maxHeartbeats 4000000 in
set_option maxRecDepth 100000 in
theorem c_L_turnStall (l : Launch) (hfl : l.stackTraces = false) (D : va_G) (t : Nat → ClassId) (b : Nat) (σ : Sg) (p1 : Int32) (r : Int32) (σr : Sg) (hf : f_L_turnStall σ p1 = some (r, σr)) : Met l yL_turnStall (Cond.codeWith yL_turnStall cL_turnStall 4 (some .int) [(0, 16, 19, 13)] :: ALL) ({ frames := 9, cells := 1, slots := 6, locals := 146 }) (PM D t b σ [.ref (b + 0), .int p1, .ref (b + 202)]) (QG D t b σr (some (.int r))) 1 6 (geA b) := by
  refine MetH (cc := cL_turnStall) (maxL := 4) (ret := (some .int)) (hh := [(0, 16, 19, 13)]) (by decide) rfl ?_
  intro p e s m args below meth c s₁ B hml hv
  obtain ⟨rfl, hW, hE⟩ := hv
  have hx := B.exec
  have hb := B.bytes
  have hr := B.returns
  have hts := atoms_spec (ws := Cond.codeWith yL_turnStall cL_turnStall 4 (some .int) [(0, 16, 19, 13)] :: ALL) B.pre
  have hta := fun w h => hts w (List.mem_cons_of_mem _ h)
  have htab : c.exceptionTable.toList = tableOf [(0, 16, 19, 13)] := vx_table (x := yL_turnStall) B (hts _ List.mem_cons_self)
  have hown : s.vm.findClass RL = some m.cls := findClass_of_methodNamed B.named
  have hlocks := B.notSynchronized
  have hS : va_S (geA b) s.heap s.heap [] := va_S.rf
  have hl := lv_entry ([.ref (b + 0), .int p1, .ref (b + 202)]) (n := 4) (Nat.le_of_ble_eq_true rfl)
  rw [lg_entry_eq]
  generalize (lg_sl ([.ref (b + 0), .int p1, .ref (b + 202)]) ++ List.replicate (4 - (lg_sl ([.ref (b + 0), .int p1, .ref (b + 202)])).length) Slot.unset).toArray = ls at hl ⊢
  have hl : lv_has ls 4 [(0, .ref (b + 0)), (1, .int p1), (2, .ref (b + 202))] := hl
  unfold f_L_turnStall at hf
  refine lv_aload_n hx hb dL_turnStall_0 rfl (lv_at hl 2 rfl) ?_
  refine lv_iconst (v := 0) hx hb dL_turnStall_1 (by decide) ?_
  refine lv_aload_n hx hb dL_turnStall_2 rfl (lv_at hl 0 rfl) ?_
  refine lv_iload_n hx hb dL_turnStall_3 rfl (lv_at hl 1 rfl) ?_
  rcases bw_e hf with ⟨k2, u3, hf⟩ | ⟨y4, u3, hf⟩
  · skip
    by_cases h0 : k2 = 1
    · have hf := ifp h0 hf
      subst h0
      refine mVX (k := 0) (q := (0, 0)) (C := RX4) (T := TX4) (N := 8) (ci := 4) (n := 1) (As := [.int p1]) (rest := [.int 0, .ref (b + 202)]) (c_X4_turnStall l hfl D t b σ p1 (.inl 1) u3) sh_0 (by decide) rfl rfl hx hb hml hown hts hE hW hS q826 q827 q828 q91 q829 hy_X4_turnStall ⟨rfl, rfl⟩ ⟨Nat.le_of_ble_eq_true rfl, Nat.le_of_ble_eq_true rfl⟩ rfl rfl hl.1 (Nat.le_of_ble_eq_true rfl) ⟨Nat.le_of_ble_eq_true rfl, Nat.le_of_ble_eq_true rfl⟩ dL_turnStall_4 (fun k2 σ2 hk H locs ce q9 hW hS hce hcv hcl => ?_) (fun _ _ hz => by cases hz)
      cases hk
      refine vx_catch (name := exn 1) hown [] ⟨0, 16, 19, 13⟩ [] htab (fun z hz => by cases hz) (by decide) (by decide) (hta _ lk_1) (va_Nw.use (NG_tab _ ca_1) (hE.2.1 _ ca_1)) hce hcv hcl ?_
      refine lv_astore_n (lv' := [(3, .ref q9), (0, .ref (b + 0)), (1, .int p1), (2, .ref (b + 202))]) hx hb dL_turnStall_19 rfl hl (by decide) rfl (fun ls hl => ?_)
      refine lv_iconst (v := 1) hx hb dL_turnStall_20 (by decide) ?_
      cases hf
      refine W.widen (k := 1) (n := 6) (Nat.le_of_ble_eq_true rfl) (Nat.le_of_ble_eq_true rfl) ?_
      exact W.iret hx hb hr (fun u hu _ => ⟨⟨rfl, by rw [hu]; exact hW⟩, hS.F hu⟩) hS.2.2 dL_turnStall_21
    · have hf := ifn h0 hf
      cases hf
  · obtain ⟨y6, σ5⟩ := y4
    refine mVXn (k := 0) (q := (0, 0)) (C := RX4) (T := TX4) (N := 8) (ci := 4) (n := 1) (As := [.int p1]) (rest := [.int 0, .ref (b + 202)]) (c_X4_turnStall l hfl D t b σ p1 (.inr (y6, σ5)) u3) sh_0 (by decide) rfl rfl hx hb hml hown hts hE hW hS q826 q827 q828 q91 q829 hy_X4_turnStall ⟨rfl, rfl⟩ ⟨Nat.le_of_ble_eq_true rfl, Nat.le_of_ble_eq_true rfl⟩ rfl rfl hl.1 (Nat.le_of_ble_eq_true rfl) ⟨Nat.le_of_ble_eq_true rfl, Nat.le_of_ble_eq_true rfl⟩ dL_turnStall_4 (fun H locs hW hS => ?_)
    refine lv_if_eq (tgt := 14) hx hb dL_turnStall_7 (by decide) (fun h7 => ?_) (fun h7 => ?_)
    · have hf := ifp h7 hf
      refine lv_lconst (v := (0 : Int32).toInt64) hx hb dL_turnStall_14 (by decide) ?_
      refine last (k := 202) (i := 0) (x := 0) rfl hx hb hE.1 hW hS sh_202 (vp_lit (by decide +kernel)) dL_turnStall_15 (fun H locs hW hS => ?_)
      obtain ⟨σ8, e9, hf⟩ := st_e hf
      rw [e9] at hW
      refine lv_goto (tgt := 22) hx hb dL_turnStall_16 (by decide) ?_
      refine lv_iconst (v := 0) hx hb dL_turnStall_22 (by decide) ?_
      cases hf
      refine W.widen (k := 1) (n := 6) (Nat.le_of_ble_eq_true rfl) (Nat.le_of_ble_eq_true rfl) ?_
      exact W.iret hx hb hr (fun u hu _ => ⟨⟨rfl, by rw [hu]; exact hW⟩, hS.F hu⟩) hS.2.2 dL_turnStall_23
    · have hf := ifn h7 hf
      refine lv_lconst (v := (1 : Int32).toInt64) hx hb dL_turnStall_10 (by decide) ?_
      refine lv_goto (tgt := 15) hx hb dL_turnStall_11 (by decide) ?_
      refine last (k := 202) (i := 0) (x := 1) rfl hx hb hE.1 hW hS sh_202 (vp_lit (by decide +kernel)) dL_turnStall_15 (fun H locs hW hS => ?_)
      obtain ⟨σ10, e11, hf⟩ := st_e hf
      rw [e11] at hW
      refine lv_goto (tgt := 22) hx hb dL_turnStall_16 (by decide) ?_
      refine lv_iconst (v := 0) hx hb dL_turnStall_22 (by decide) ?_
      cases hf
      refine W.widen (k := 1) (n := 6) (Nat.le_of_ble_eq_true rfl) (Nat.le_of_ble_eq_true rfl) ?_
      exact W.iret hx hb hr (fun u hu _ => ⟨⟨rfl, by rw [hu]; exact hW⟩, hS.F hu⟩) hS.2.2 dL_turnStall_23
def f_L_restock (σ : Sg) (p1 : Int32) (p2 : Int32) (p3 : Int32) (p4 : Int32) : Option (Int32 × Sg) := bw (f_X4_restock σ p1 p2 p3 p4) (fun k => if k = 1 then (some (1, σ)) else (if k = 2 then (some (2, σ)) else (if k = 3 then (some (3, σ)) else (none)))) (fun y => st (u2 y.2 202 (0 : Int32).toNatClampNeg y.1) fun σ7 => some (0, σ7))
set_option maxHeartbeats 4000000 in
set_option maxRecDepth 100000 in
theorem c_L_restock (l : Launch) (hfl : l.stackTraces = false) (D : va_G) (t : Nat → ClassId) (b : Nat) (σ : Sg) (p1 : Int32) (p2 : Int32) (p3 : Int32) (p4 : Int32) (r : Int32) (σr : Sg) (hf : f_L_restock σ p1 p2 p3 p4 = some (r, σr)) : Met l yL_restock (Cond.codeWith yL_restock cL_restock 7 (some .int) [(0, 14, 17, 13), (0, 14, 21, 15), (0, 14, 25, 17)] :: ALL) ({ frames := 9, cells := 4, slots := 24, locals := 149 }) (PM D t b σ [.ref (b + 0), .int p1, .int p2, .int p3, .int p4, .ref (b + 202)]) (QG D t b σr (some (.int r))) 4 24 (geA b) := by
  refine MetH (cc := cL_restock) (maxL := 7) (ret := (some .int)) (hh := [(0, 14, 17, 13), (0, 14, 21, 15), (0, 14, 25, 17)]) (by decide) rfl ?_
  intro p e s m args below meth c s₁ B hml hv
  obtain ⟨rfl, hW, hE⟩ := hv
  have hx := B.exec
  have hb := B.bytes
  have hr := B.returns
  have hts := atoms_spec (ws := Cond.codeWith yL_restock cL_restock 7 (some .int) [(0, 14, 17, 13), (0, 14, 21, 15), (0, 14, 25, 17)] :: ALL) B.pre
  have hta := fun w h => hts w (List.mem_cons_of_mem _ h)
  have htab : c.exceptionTable.toList = tableOf [(0, 14, 17, 13), (0, 14, 21, 15), (0, 14, 25, 17)] := vx_table (x := yL_restock) B (hts _ List.mem_cons_self)
  have hown : s.vm.findClass RL = some m.cls := findClass_of_methodNamed B.named
  have hlocks := B.notSynchronized
  have hS : va_S (geA b) s.heap s.heap [] := va_S.rf
  have hl := lv_entry ([.ref (b + 0), .int p1, .int p2, .int p3, .int p4, .ref (b + 202)]) (n := 7) (Nat.le_of_ble_eq_true rfl)
  rw [lg_entry_eq]
  generalize (lg_sl ([.ref (b + 0), .int p1, .int p2, .int p3, .int p4, .ref (b + 202)]) ++ List.replicate (7 - (lg_sl ([.ref (b + 0), .int p1, .int p2, .int p3, .int p4, .ref (b + 202)])).length) Slot.unset).toArray = ls at hl ⊢
  have hl : lv_has ls 7 [(0, .ref (b + 0)), (1, .int p1), (2, .int p2), (3, .int p3), (4, .int p4), (5, .ref (b + 202))] := hl
  unfold f_L_restock at hf
  refine lv_aload hx hb dL_restock_0 (lv_at hl 5 rfl) ?_
  refine lv_iconst (v := 0) hx hb dL_restock_2 (by decide) ?_
  refine lv_aload_n hx hb dL_restock_3 rfl (lv_at hl 0 rfl) ?_
  refine lv_iload_n hx hb dL_restock_4 rfl (lv_at hl 1 rfl) ?_
  refine lv_iload_n hx hb dL_restock_5 rfl (lv_at hl 2 rfl) ?_
  refine lv_iload_n hx hb dL_restock_6 rfl (lv_at hl 3 rfl) ?_
  refine lv_iload hx hb dL_restock_7 (lv_at hl 4 rfl) ?_
  rcases bw_e hf with ⟨k2, u3, hf⟩ | ⟨y4, u3, hf⟩
  · skip
    by_cases h0 : k2 = 1
    · have hf := ifp h0 hf
      subst h0
      refine mVX (k := 0) (q := (0, 0)) (C := RX4) (T := TX4) (N := 8) (ci := 4) (n := 4) (As := [.int p1, .int p2, .int p3, .int p4]) (rest := [.int 0, .ref (b + 202)]) (c_X4_restock l hfl D t b σ p1 p2 p3 p4 (.inl 1) u3) sh_0 (by decide) rfl rfl hx hb hml hown hts hE hW hS q833 q834 q835 q91 q836 hy_X4_restock ⟨rfl, rfl⟩ ⟨Nat.le_of_ble_eq_true rfl, Nat.le_of_ble_eq_true rfl⟩ rfl rfl hl.1 (Nat.le_of_ble_eq_true rfl) ⟨Nat.le_of_ble_eq_true rfl, Nat.le_of_ble_eq_true rfl⟩ dL_restock_9 (fun k2 σ2 hk H locs ce q9 hW hS hce hcv hcl => ?_) (fun _ _ hz => by cases hz)
      cases hk
      refine vx_catch (name := exn 1) hown [] ⟨0, 14, 17, 13⟩ [⟨0, 14, 21, 15⟩, ⟨0, 14, 25, 17⟩] htab (fun z hz => by cases hz) (by decide) (by decide) (hta _ lk_1) (va_Nw.use (NG_tab _ ca_1) (hE.2.1 _ ca_1)) hce hcv hcl ?_
      refine lv_astore (lv' := [(6, .ref q9), (0, .ref (b + 0)), (1, .int p1), (2, .int p2), (3, .int p3), (4, .int p4), (5, .ref (b + 202))]) hx hb dL_restock_17 hl (by decide) rfl (fun ls hl => ?_)
      refine lv_iconst (v := 1) hx hb dL_restock_19 (by decide) ?_
      cases hf
      refine W.widen (k := 4) (n := 24) (Nat.le_of_ble_eq_true rfl) (Nat.le_of_ble_eq_true rfl) ?_
      exact W.iret hx hb hr (fun u hu _ => ⟨⟨rfl, by rw [hu]; exact hW⟩, hS.F hu⟩) hS.2.2 dL_restock_20
    · have hf := ifn h0 hf
      by_cases h1 : k2 = 2
      · have hf := ifp h1 hf
        subst h1
        refine mVX (k := 0) (q := (0, 0)) (C := RX4) (T := TX4) (N := 8) (ci := 4) (n := 4) (As := [.int p1, .int p2, .int p3, .int p4]) (rest := [.int 0, .ref (b + 202)]) (c_X4_restock l hfl D t b σ p1 p2 p3 p4 (.inl 2) u3) sh_0 (by decide) rfl rfl hx hb hml hown hts hE hW hS q833 q834 q835 q91 q836 hy_X4_restock ⟨rfl, rfl⟩ ⟨Nat.le_of_ble_eq_true rfl, Nat.le_of_ble_eq_true rfl⟩ rfl rfl hl.1 (Nat.le_of_ble_eq_true rfl) ⟨Nat.le_of_ble_eq_true rfl, Nat.le_of_ble_eq_true rfl⟩ dL_restock_9 (fun k2 σ2 hk H locs ce q9 hW hS hce hcv hcl => ?_) (fun _ _ hz => by cases hz)
        cases hk
        refine vx_catch (name := exn 2) hown [⟨0, 14, 17, 13⟩] ⟨0, 14, 21, 15⟩ [⟨0, 14, 25, 17⟩] htab (fun z hz => by rw [List.mem_singleton.mp hz]; exact Or.inr ⟨by decide, _, hta _ lk_1, nc_21 hE⟩) (by decide) (by decide) (hta _ lk_2) (va_Nw.use (NG_tab _ ca_2) (hE.2.1 _ ca_2)) hce hcv hcl ?_
        refine lv_astore (lv' := [(6, .ref q9), (0, .ref (b + 0)), (1, .int p1), (2, .int p2), (3, .int p3), (4, .int p4), (5, .ref (b + 202))]) hx hb dL_restock_21 hl (by decide) rfl (fun ls hl => ?_)
        refine lv_iconst (v := 2) hx hb dL_restock_23 (by decide) ?_
        cases hf
        refine W.widen (k := 4) (n := 24) (Nat.le_of_ble_eq_true rfl) (Nat.le_of_ble_eq_true rfl) ?_
        exact W.iret hx hb hr (fun u hu _ => ⟨⟨rfl, by rw [hu]; exact hW⟩, hS.F hu⟩) hS.2.2 dL_restock_24
      · have hf := ifn h1 hf
        by_cases h2 : k2 = 3
        · have hf := ifp h2 hf
          subst h2
          refine mVX (k := 0) (q := (0, 0)) (C := RX4) (T := TX4) (N := 8) (ci := 4) (n := 4) (As := [.int p1, .int p2, .int p3, .int p4]) (rest := [.int 0, .ref (b + 202)]) (c_X4_restock l hfl D t b σ p1 p2 p3 p4 (.inl 3) u3) sh_0 (by decide) rfl rfl hx hb hml hown hts hE hW hS q833 q834 q835 q91 q836 hy_X4_restock ⟨rfl, rfl⟩ ⟨Nat.le_of_ble_eq_true rfl, Nat.le_of_ble_eq_true rfl⟩ rfl rfl hl.1 (Nat.le_of_ble_eq_true rfl) ⟨Nat.le_of_ble_eq_true rfl, Nat.le_of_ble_eq_true rfl⟩ dL_restock_9 (fun k2 σ2 hk H locs ce q9 hW hS hce hcv hcl => ?_) (fun _ _ hz => by cases hz)
          cases hk
          refine vx_catch (name := exn 3) hown [⟨0, 14, 17, 13⟩, ⟨0, 14, 21, 15⟩] ⟨0, 14, 25, 17⟩ [] htab (fun z hz => (List.mem_cons.mp hz).elim (fun h => by rw [h]; exact Or.inr ⟨by decide, _, hta _ lk_1, nc_31 hE⟩) (fun h => by rw [List.mem_singleton.mp h]; exact Or.inr ⟨by decide, _, hta _ lk_2, nc_32 hE⟩)) (by decide) (by decide) (hta _ lk_3) (va_Nw.use (NG_tab _ ca_3) (hE.2.1 _ ca_3)) hce hcv hcl ?_
          refine lv_astore (lv' := [(6, .ref q9), (0, .ref (b + 0)), (1, .int p1), (2, .int p2), (3, .int p3), (4, .int p4), (5, .ref (b + 202))]) hx hb dL_restock_25 hl (by decide) rfl (fun ls hl => ?_)
          refine lv_iconst (v := 3) hx hb dL_restock_27 (by decide) ?_
          cases hf
          refine W.widen (k := 4) (n := 24) (Nat.le_of_ble_eq_true rfl) (Nat.le_of_ble_eq_true rfl) ?_
          exact W.iret hx hb hr (fun u hu _ => ⟨⟨rfl, by rw [hu]; exact hW⟩, hS.F hu⟩) hS.2.2 dL_restock_28
        · have hf := ifn h2 hf
          cases hf
  · obtain ⟨y6, σ5⟩ := y4
    refine mVXn (k := 0) (q := (0, 0)) (C := RX4) (T := TX4) (N := 8) (ci := 4) (n := 4) (As := [.int p1, .int p2, .int p3, .int p4]) (rest := [.int 0, .ref (b + 202)]) (c_X4_restock l hfl D t b σ p1 p2 p3 p4 (.inr (y6, σ5)) u3) sh_0 (by decide) rfl rfl hx hb hml hown hts hE hW hS q833 q834 q835 q91 q836 hy_X4_restock ⟨rfl, rfl⟩ ⟨Nat.le_of_ble_eq_true rfl, Nat.le_of_ble_eq_true rfl⟩ rfl rfl hl.1 (Nat.le_of_ble_eq_true rfl) ⟨Nat.le_of_ble_eq_true rfl, Nat.le_of_ble_eq_true rfl⟩ dL_restock_9 (fun H locs hW hS => ?_)
    refine lv_i2l hx hb dL_restock_12 rfl ?_
    refine last (k := 202) (i := 0) (x := y6) rfl hx hb hE.1 hW hS sh_202 (vp_lit (by decide +kernel)) dL_restock_13 (fun H locs hW hS => ?_)
    obtain ⟨σ7, e8, hf⟩ := st_e hf
    rw [e8] at hW
    refine lv_goto (tgt := 29) hx hb dL_restock_14 (by decide) ?_
    refine lv_iconst (v := 0) hx hb dL_restock_29 (by decide) ?_
    cases hf
    refine W.widen (k := 4) (n := 24) (Nat.le_of_ble_eq_true rfl) (Nat.le_of_ble_eq_true rfl) ?_
    exact W.iret hx hb hr (fun u hu _ => ⟨⟨rfl, by rw [hu]; exact hW⟩, hS.F hu⟩) hS.2.2 dL_restock_30
def f_L_fund (σ : Sg) (p1 : Int32) (p2 : Int32) : Option (Int32 × Sg) := bw (f_X4_fund σ p1 p2) (fun k => if k = 1 then (some (1, σ)) else (if k = 2 then (some (2, σ)) else (if k = 3 then (some (3, σ)) else (none)))) (fun y => st (u2 y.2 202 (0 : Int32).toNatClampNeg y.1) fun σ7 => some (0, σ7))
set_option maxHeartbeats 4000000 in
set_option maxRecDepth 100000 in
theorem c_L_fund (l : Launch) (hfl : l.stackTraces = false) (D : va_G) (t : Nat → ClassId) (b : Nat) (σ : Sg) (p1 : Int32) (p2 : Int32) (r : Int32) (σr : Sg) (hf : f_L_fund σ p1 p2 = some (r, σr)) : Met l yL_fund (Cond.codeWith yL_fund cL_fund 5 (some .int) [(0, 10, 13, 13), (0, 10, 17, 15), (0, 10, 21, 17)] :: ALL) ({ frames := 9, cells := 2, slots := 12, locals := 147 }) (PM D t b σ [.ref (b + 0), .int p1, .int p2, .ref (b + 202)]) (QG D t b σr (some (.int r))) 2 12 (geA b) := by
  refine MetH (cc := cL_fund) (maxL := 5) (ret := (some .int)) (hh := [(0, 10, 13, 13), (0, 10, 17, 15), (0, 10, 21, 17)]) (by decide) rfl ?_
  intro p e s m args below meth c s₁ B hml hv
  obtain ⟨rfl, hW, hE⟩ := hv
  have hx := B.exec
  have hb := B.bytes
  have hr := B.returns
  have hts := atoms_spec (ws := Cond.codeWith yL_fund cL_fund 5 (some .int) [(0, 10, 13, 13), (0, 10, 17, 15), (0, 10, 21, 17)] :: ALL) B.pre
  have hta := fun w h => hts w (List.mem_cons_of_mem _ h)
  have htab : c.exceptionTable.toList = tableOf [(0, 10, 13, 13), (0, 10, 17, 15), (0, 10, 21, 17)] := vx_table (x := yL_fund) B (hts _ List.mem_cons_self)
  have hown : s.vm.findClass RL = some m.cls := findClass_of_methodNamed B.named
  have hlocks := B.notSynchronized
  have hS : va_S (geA b) s.heap s.heap [] := va_S.rf
  have hl := lv_entry ([.ref (b + 0), .int p1, .int p2, .ref (b + 202)]) (n := 5) (Nat.le_of_ble_eq_true rfl)
  rw [lg_entry_eq]
  generalize (lg_sl ([.ref (b + 0), .int p1, .int p2, .ref (b + 202)]) ++ List.replicate (5 - (lg_sl ([.ref (b + 0), .int p1, .int p2, .ref (b + 202)])).length) Slot.unset).toArray = ls at hl ⊢
  have hl : lv_has ls 5 [(0, .ref (b + 0)), (1, .int p1), (2, .int p2), (3, .ref (b + 202))] := hl
  unfold f_L_fund at hf
  refine lv_aload_n hx hb dL_fund_0 rfl (lv_at hl 3 rfl) ?_
  refine lv_iconst (v := 0) hx hb dL_fund_1 (by decide) ?_
  refine lv_aload_n hx hb dL_fund_2 rfl (lv_at hl 0 rfl) ?_
  refine lv_iload_n hx hb dL_fund_3 rfl (lv_at hl 1 rfl) ?_
  refine lv_iload_n hx hb dL_fund_4 rfl (lv_at hl 2 rfl) ?_
  rcases bw_e hf with ⟨k2, u3, hf⟩ | ⟨y4, u3, hf⟩
  · skip
    by_cases h0 : k2 = 1
    · have hf := ifp h0 hf
      subst h0
      refine mVX (k := 0) (q := (0, 0)) (C := RX4) (T := TX4) (N := 8) (ci := 4) (n := 2) (As := [.int p1, .int p2]) (rest := [.int 0, .ref (b + 202)]) (c_X4_fund l hfl D t b σ p1 p2 (.inl 1) u3) sh_0 (by decide) rfl rfl hx hb hml hown hts hE hW hS q868 q869 q870 q91 q871 hy_X4_fund ⟨rfl, rfl⟩ ⟨Nat.le_of_ble_eq_true rfl, Nat.le_of_ble_eq_true rfl⟩ rfl rfl hl.1 (Nat.le_of_ble_eq_true rfl) ⟨Nat.le_of_ble_eq_true rfl, Nat.le_of_ble_eq_true rfl⟩ dL_fund_5 (fun k2 σ2 hk H locs ce q9 hW hS hce hcv hcl => ?_) (fun _ _ hz => by cases hz)
      cases hk
      refine vx_catch (name := exn 1) hown [] ⟨0, 10, 13, 13⟩ [⟨0, 10, 17, 15⟩, ⟨0, 10, 21, 17⟩] htab (fun z hz => by cases hz) (by decide) (by decide) (hta _ lk_1) (va_Nw.use (NG_tab _ ca_1) (hE.2.1 _ ca_1)) hce hcv hcl ?_
      refine lv_astore (lv' := [(4, .ref q9), (0, .ref (b + 0)), (1, .int p1), (2, .int p2), (3, .ref (b + 202))]) hx hb dL_fund_13 hl (by decide) rfl (fun ls hl => ?_)
      refine lv_iconst (v := 1) hx hb dL_fund_15 (by decide) ?_
      cases hf
      refine W.widen (k := 2) (n := 12) (Nat.le_of_ble_eq_true rfl) (Nat.le_of_ble_eq_true rfl) ?_
      exact W.iret hx hb hr (fun u hu _ => ⟨⟨rfl, by rw [hu]; exact hW⟩, hS.F hu⟩) hS.2.2 dL_fund_16
    · have hf := ifn h0 hf
      by_cases h1 : k2 = 2
      · have hf := ifp h1 hf
        subst h1
        refine mVX (k := 0) (q := (0, 0)) (C := RX4) (T := TX4) (N := 8) (ci := 4) (n := 2) (As := [.int p1, .int p2]) (rest := [.int 0, .ref (b + 202)]) (c_X4_fund l hfl D t b σ p1 p2 (.inl 2) u3) sh_0 (by decide) rfl rfl hx hb hml hown hts hE hW hS q868 q869 q870 q91 q871 hy_X4_fund ⟨rfl, rfl⟩ ⟨Nat.le_of_ble_eq_true rfl, Nat.le_of_ble_eq_true rfl⟩ rfl rfl hl.1 (Nat.le_of_ble_eq_true rfl) ⟨Nat.le_of_ble_eq_true rfl, Nat.le_of_ble_eq_true rfl⟩ dL_fund_5 (fun k2 σ2 hk H locs ce q9 hW hS hce hcv hcl => ?_) (fun _ _ hz => by cases hz)
        cases hk
        refine vx_catch (name := exn 2) hown [⟨0, 10, 13, 13⟩] ⟨0, 10, 17, 15⟩ [⟨0, 10, 21, 17⟩] htab (fun z hz => by rw [List.mem_singleton.mp hz]; exact Or.inr ⟨by decide, _, hta _ lk_1, nc_21 hE⟩) (by decide) (by decide) (hta _ lk_2) (va_Nw.use (NG_tab _ ca_2) (hE.2.1 _ ca_2)) hce hcv hcl ?_
        refine lv_astore (lv' := [(4, .ref q9), (0, .ref (b + 0)), (1, .int p1), (2, .int p2), (3, .ref (b + 202))]) hx hb dL_fund_17 hl (by decide) rfl (fun ls hl => ?_)
        refine lv_iconst (v := 2) hx hb dL_fund_19 (by decide) ?_
        cases hf
        refine W.widen (k := 2) (n := 12) (Nat.le_of_ble_eq_true rfl) (Nat.le_of_ble_eq_true rfl) ?_
        exact W.iret hx hb hr (fun u hu _ => ⟨⟨rfl, by rw [hu]; exact hW⟩, hS.F hu⟩) hS.2.2 dL_fund_20
      · have hf := ifn h1 hf
        by_cases h2 : k2 = 3
        · have hf := ifp h2 hf
          subst h2
          refine mVX (k := 0) (q := (0, 0)) (C := RX4) (T := TX4) (N := 8) (ci := 4) (n := 2) (As := [.int p1, .int p2]) (rest := [.int 0, .ref (b + 202)]) (c_X4_fund l hfl D t b σ p1 p2 (.inl 3) u3) sh_0 (by decide) rfl rfl hx hb hml hown hts hE hW hS q868 q869 q870 q91 q871 hy_X4_fund ⟨rfl, rfl⟩ ⟨Nat.le_of_ble_eq_true rfl, Nat.le_of_ble_eq_true rfl⟩ rfl rfl hl.1 (Nat.le_of_ble_eq_true rfl) ⟨Nat.le_of_ble_eq_true rfl, Nat.le_of_ble_eq_true rfl⟩ dL_fund_5 (fun k2 σ2 hk H locs ce q9 hW hS hce hcv hcl => ?_) (fun _ _ hz => by cases hz)
          cases hk
          refine vx_catch (name := exn 3) hown [⟨0, 10, 13, 13⟩, ⟨0, 10, 17, 15⟩] ⟨0, 10, 21, 17⟩ [] htab (fun z hz => (List.mem_cons.mp hz).elim (fun h => by rw [h]; exact Or.inr ⟨by decide, _, hta _ lk_1, nc_31 hE⟩) (fun h => by rw [List.mem_singleton.mp h]; exact Or.inr ⟨by decide, _, hta _ lk_2, nc_32 hE⟩)) (by decide) (by decide) (hta _ lk_3) (va_Nw.use (NG_tab _ ca_3) (hE.2.1 _ ca_3)) hce hcv hcl ?_
          refine lv_astore (lv' := [(4, .ref q9), (0, .ref (b + 0)), (1, .int p1), (2, .int p2), (3, .ref (b + 202))]) hx hb dL_fund_21 hl (by decide) rfl (fun ls hl => ?_)
          refine lv_iconst (v := 3) hx hb dL_fund_23 (by decide) ?_
          cases hf
          refine W.widen (k := 2) (n := 12) (Nat.le_of_ble_eq_true rfl) (Nat.le_of_ble_eq_true rfl) ?_
          exact W.iret hx hb hr (fun u hu _ => ⟨⟨rfl, by rw [hu]; exact hW⟩, hS.F hu⟩) hS.2.2 dL_fund_24
        · have hf := ifn h2 hf
          cases hf
  · obtain ⟨y6, σ5⟩ := y4
    refine mVXn (k := 0) (q := (0, 0)) (C := RX4) (T := TX4) (N := 8) (ci := 4) (n := 2) (As := [.int p1, .int p2]) (rest := [.int 0, .ref (b + 202)]) (c_X4_fund l hfl D t b σ p1 p2 (.inr (y6, σ5)) u3) sh_0 (by decide) rfl rfl hx hb hml hown hts hE hW hS q868 q869 q870 q91 q871 hy_X4_fund ⟨rfl, rfl⟩ ⟨Nat.le_of_ble_eq_true rfl, Nat.le_of_ble_eq_true rfl⟩ rfl rfl hl.1 (Nat.le_of_ble_eq_true rfl) ⟨Nat.le_of_ble_eq_true rfl, Nat.le_of_ble_eq_true rfl⟩ dL_fund_5 (fun H locs hW hS => ?_)
    refine lv_i2l hx hb dL_fund_8 rfl ?_
    refine last (k := 202) (i := 0) (x := y6) rfl hx hb hE.1 hW hS sh_202 (vp_lit (by decide +kernel)) dL_fund_9 (fun H locs hW hS => ?_)
    obtain ⟨σ7, e8, hf⟩ := st_e hf
    rw [e8] at hW
    refine lv_goto (tgt := 25) hx hb dL_fund_10 (by decide) ?_
    refine lv_iconst (v := 0) hx hb dL_fund_25 (by decide) ?_
    cases hf
    refine W.widen (k := 2) (n := 12) (Nat.le_of_ble_eq_true rfl) (Nat.le_of_ble_eq_true rfl) ?_
    exact W.iret hx hb hr (fun u hu _ => ⟨⟨rfl, by rw [hu]; exact hW⟩, hS.F hu⟩) hS.2.2 dL_fund_26
def f_L_collect (σ : Sg) (p1 : Int32) : Option (Int32 × Sg) := bw (f_X4_collect σ p1) (fun k => if k = 1 then (some (1, σ)) else (none)) (fun y => st (u2 y.2 202 (0 : Int32).toNatClampNeg y.1) fun σ7 => some (0, σ7))
set_option maxHeartbeats 4000000 in
set_option maxRecDepth 100000 in
theorem c_L_collect (l : Launch) (hfl : l.stackTraces = false) (D : va_G) (t : Nat → ClassId) (b : Nat) (σ : Sg) (p1 : Int32) (r : Int32) (σr : Sg) (hf : f_L_collect σ p1 = some (r, σr)) : Met l yL_collect (Cond.codeWith yL_collect cL_collect 4 (some .int) [(0, 9, 12, 13)] :: ALL) ({ frames := 8, cells := 1, slots := 6, locals := 144 }) (PM D t b σ [.ref (b + 0), .int p1, .ref (b + 202)]) (QG D t b σr (some (.int r))) 1 6 (geA b) := by
  refine MetH (cc := cL_collect) (maxL := 4) (ret := (some .int)) (hh := [(0, 9, 12, 13)]) (by decide) rfl ?_
  intro p e s m args below meth c s₁ B hml hv
  obtain ⟨rfl, hW, hE⟩ := hv
  have hx := B.exec
  have hb := B.bytes
  have hr := B.returns
  have hts := atoms_spec (ws := Cond.codeWith yL_collect cL_collect 4 (some .int) [(0, 9, 12, 13)] :: ALL) B.pre
  have hta := fun w h => hts w (List.mem_cons_of_mem _ h)
  have htab : c.exceptionTable.toList = tableOf [(0, 9, 12, 13)] := vx_table (x := yL_collect) B (hts _ List.mem_cons_self)
  have hown : s.vm.findClass RL = some m.cls := findClass_of_methodNamed B.named
  have hlocks := B.notSynchronized
  have hS : va_S (geA b) s.heap s.heap [] := va_S.rf
  have hl := lv_entry ([.ref (b + 0), .int p1, .ref (b + 202)]) (n := 4) (Nat.le_of_ble_eq_true rfl)
  rw [lg_entry_eq]
  generalize (lg_sl ([.ref (b + 0), .int p1, .ref (b + 202)]) ++ List.replicate (4 - (lg_sl ([.ref (b + 0), .int p1, .ref (b + 202)])).length) Slot.unset).toArray = ls at hl ⊢
  have hl : lv_has ls 4 [(0, .ref (b + 0)), (1, .int p1), (2, .ref (b + 202))] := hl
  unfold f_L_collect at hf
  refine lv_aload_n hx hb dL_collect_0 rfl (lv_at hl 2 rfl) ?_
  refine lv_iconst (v := 0) hx hb dL_collect_1 (by decide) ?_
  refine lv_aload_n hx hb dL_collect_2 rfl (lv_at hl 0 rfl) ?_
  refine lv_iload_n hx hb dL_collect_3 rfl (lv_at hl 1 rfl) ?_
  rcases bw_e hf with ⟨k2, u3, hf⟩ | ⟨y4, u3, hf⟩
  · skip
    by_cases h0 : k2 = 1
    · have hf := ifp h0 hf
      subst h0
      refine mVX (k := 0) (q := (0, 0)) (C := RX4) (T := TX4) (N := 8) (ci := 4) (n := 1) (As := [.int p1]) (rest := [.int 0, .ref (b + 202)]) (c_X4_collect l hfl D t b σ p1 (.inl 1) u3) sh_0 (by decide) rfl rfl hx hb hml hown hts hE hW hS q885 q886 q887 q91 q888 hy_X4_collect ⟨rfl, rfl⟩ ⟨Nat.le_of_ble_eq_true rfl, Nat.le_of_ble_eq_true rfl⟩ rfl rfl hl.1 (Nat.le_of_ble_eq_true rfl) ⟨Nat.le_of_ble_eq_true rfl, Nat.le_of_ble_eq_true rfl⟩ dL_collect_4 (fun k2 σ2 hk H locs ce q9 hW hS hce hcv hcl => ?_) (fun _ _ hz => by cases hz)
      cases hk
      refine vx_catch (name := exn 1) hown [] ⟨0, 9, 12, 13⟩ [] htab (fun z hz => by cases hz) (by decide) (by decide) (hta _ lk_1) (va_Nw.use (NG_tab _ ca_1) (hE.2.1 _ ca_1)) hce hcv hcl ?_
      refine lv_astore_n (lv' := [(3, .ref q9), (0, .ref (b + 0)), (1, .int p1), (2, .ref (b + 202))]) hx hb dL_collect_12 rfl hl (by decide) rfl (fun ls hl => ?_)
      refine lv_iconst (v := 1) hx hb dL_collect_13 (by decide) ?_
      cases hf
      refine W.widen (k := 1) (n := 6) (Nat.le_of_ble_eq_true rfl) (Nat.le_of_ble_eq_true rfl) ?_
      exact W.iret hx hb hr (fun u hu _ => ⟨⟨rfl, by rw [hu]; exact hW⟩, hS.F hu⟩) hS.2.2 dL_collect_14
    · have hf := ifn h0 hf
      cases hf
  · obtain ⟨y6, σ5⟩ := y4
    refine mVXn (k := 0) (q := (0, 0)) (C := RX4) (T := TX4) (N := 8) (ci := 4) (n := 1) (As := [.int p1]) (rest := [.int 0, .ref (b + 202)]) (c_X4_collect l hfl D t b σ p1 (.inr (y6, σ5)) u3) sh_0 (by decide) rfl rfl hx hb hml hown hts hE hW hS q885 q886 q887 q91 q888 hy_X4_collect ⟨rfl, rfl⟩ ⟨Nat.le_of_ble_eq_true rfl, Nat.le_of_ble_eq_true rfl⟩ rfl rfl hl.1 (Nat.le_of_ble_eq_true rfl) ⟨Nat.le_of_ble_eq_true rfl, Nat.le_of_ble_eq_true rfl⟩ dL_collect_4 (fun H locs hW hS => ?_)
    refine lv_i2l hx hb dL_collect_7 rfl ?_
    refine last (k := 202) (i := 0) (x := y6) rfl hx hb hE.1 hW hS sh_202 (vp_lit (by decide +kernel)) dL_collect_8 (fun H locs hW hS => ?_)
    obtain ⟨σ7, e8, hf⟩ := st_e hf
    rw [e8] at hW
    refine lv_goto (tgt := 15) hx hb dL_collect_9 (by decide) ?_
    refine lv_iconst (v := 0) hx hb dL_collect_15 (by decide) ?_
    cases hf
    refine W.widen (k := 1) (n := 6) (Nat.le_of_ble_eq_true rfl) (Nat.le_of_ble_eq_true rfl) ?_
    exact W.iret hx hb hr (fun u hu _ => ⟨⟨rfl, by rw [hu]; exact hW⟩, hS.F hu⟩) hS.2.2 dL_collect_16
def f_L_come (σ : Sg) (p1 : Int32) (p2 : Int32) (p3 : Int32) : Option (Int32 × Sg) := bw (f_X4_come σ p1 p2 p3) (fun k => if k = 1 then (some (1, σ)) else (if k = 2 then (some (2, σ)) else (if k = 3 then (some (3, σ)) else (none)))) (fun y => st (u2 y.2 202 (0 : Int32).toNatClampNeg y.1) fun σ7 => some (0, σ7))
set_option maxHeartbeats 4000000 in
set_option maxRecDepth 100000 in
theorem c_L_come (l : Launch) (hfl : l.stackTraces = false) (D : va_G) (t : Nat → ClassId) (b : Nat) (σ : Sg) (p1 : Int32) (p2 : Int32) (p3 : Int32) (r : Int32) (σr : Sg) (hf : f_L_come σ p1 p2 p3 = some (r, σr)) : Met l yL_come (Cond.codeWith yL_come cL_come 6 (some .int) [(0, 12, 15, 13), (0, 12, 19, 15), (0, 12, 23, 17)] :: ALL) ({ frames := 8, cells := 3, slots := 18, locals := 146 }) (PM D t b σ [.ref (b + 0), .int p1, .int p2, .int p3, .ref (b + 202)]) (QG D t b σr (some (.int r))) 3 18 (geA b) := by
  refine MetH (cc := cL_come) (maxL := 6) (ret := (some .int)) (hh := [(0, 12, 15, 13), (0, 12, 19, 15), (0, 12, 23, 17)]) (by decide) rfl ?_
  intro p e s m args below meth c s₁ B hml hv
  obtain ⟨rfl, hW, hE⟩ := hv
  have hx := B.exec
  have hb := B.bytes
  have hr := B.returns
  have hts := atoms_spec (ws := Cond.codeWith yL_come cL_come 6 (some .int) [(0, 12, 15, 13), (0, 12, 19, 15), (0, 12, 23, 17)] :: ALL) B.pre
  have hta := fun w h => hts w (List.mem_cons_of_mem _ h)
  have htab : c.exceptionTable.toList = tableOf [(0, 12, 15, 13), (0, 12, 19, 15), (0, 12, 23, 17)] := vx_table (x := yL_come) B (hts _ List.mem_cons_self)
  have hown : s.vm.findClass RL = some m.cls := findClass_of_methodNamed B.named
  have hlocks := B.notSynchronized
  have hS : va_S (geA b) s.heap s.heap [] := va_S.rf
  have hl := lv_entry ([.ref (b + 0), .int p1, .int p2, .int p3, .ref (b + 202)]) (n := 6) (Nat.le_of_ble_eq_true rfl)
  rw [lg_entry_eq]
  generalize (lg_sl ([.ref (b + 0), .int p1, .int p2, .int p3, .ref (b + 202)]) ++ List.replicate (6 - (lg_sl ([.ref (b + 0), .int p1, .int p2, .int p3, .ref (b + 202)])).length) Slot.unset).toArray = ls at hl ⊢
  have hl : lv_has ls 6 [(0, .ref (b + 0)), (1, .int p1), (2, .int p2), (3, .int p3), (4, .ref (b + 202))] := hl
  unfold f_L_come at hf
  refine lv_aload hx hb dL_come_0 (lv_at hl 4 rfl) ?_
  refine lv_iconst (v := 0) hx hb dL_come_2 (by decide) ?_
  refine lv_aload_n hx hb dL_come_3 rfl (lv_at hl 0 rfl) ?_
  refine lv_iload_n hx hb dL_come_4 rfl (lv_at hl 1 rfl) ?_
  refine lv_iload_n hx hb dL_come_5 rfl (lv_at hl 2 rfl) ?_
  refine lv_iload_n hx hb dL_come_6 rfl (lv_at hl 3 rfl) ?_
  rcases bw_e hf with ⟨k2, u3, hf⟩ | ⟨y4, u3, hf⟩
  · skip
    by_cases h0 : k2 = 1
    · have hf := ifp h0 hf
      subst h0
      refine mVX (k := 0) (q := (0, 0)) (C := RX4) (T := TX4) (N := 8) (ci := 4) (n := 3) (As := [.int p1, .int p2, .int p3]) (rest := [.int 0, .ref (b + 202)]) (c_X4_come l hfl D t b σ p1 p2 p3 (.inl 1) u3) sh_0 (by decide) rfl rfl hx hb hml hown hts hE hW hS q892 q893 q894 q91 q895 hy_X4_come ⟨rfl, rfl⟩ ⟨Nat.le_of_ble_eq_true rfl, Nat.le_of_ble_eq_true rfl⟩ rfl rfl hl.1 (Nat.le_of_ble_eq_true rfl) ⟨Nat.le_of_ble_eq_true rfl, Nat.le_of_ble_eq_true rfl⟩ dL_come_7 (fun k2 σ2 hk H locs ce q9 hW hS hce hcv hcl => ?_) (fun _ _ hz => by cases hz)
      cases hk
      refine vx_catch (name := exn 1) hown [] ⟨0, 12, 15, 13⟩ [⟨0, 12, 19, 15⟩, ⟨0, 12, 23, 17⟩] htab (fun z hz => by cases hz) (by decide) (by decide) (hta _ lk_1) (va_Nw.use (NG_tab _ ca_1) (hE.2.1 _ ca_1)) hce hcv hcl ?_
      refine lv_astore (lv' := [(5, .ref q9), (0, .ref (b + 0)), (1, .int p1), (2, .int p2), (3, .int p3), (4, .ref (b + 202))]) hx hb dL_come_15 hl (by decide) rfl (fun ls hl => ?_)
      refine lv_iconst (v := 1) hx hb dL_come_17 (by decide) ?_
      cases hf
      refine W.widen (k := 3) (n := 18) (Nat.le_of_ble_eq_true rfl) (Nat.le_of_ble_eq_true rfl) ?_
      exact W.iret hx hb hr (fun u hu _ => ⟨⟨rfl, by rw [hu]; exact hW⟩, hS.F hu⟩) hS.2.2 dL_come_18
    · have hf := ifn h0 hf
      by_cases h1 : k2 = 2
      · have hf := ifp h1 hf
        subst h1
        refine mVX (k := 0) (q := (0, 0)) (C := RX4) (T := TX4) (N := 8) (ci := 4) (n := 3) (As := [.int p1, .int p2, .int p3]) (rest := [.int 0, .ref (b + 202)]) (c_X4_come l hfl D t b σ p1 p2 p3 (.inl 2) u3) sh_0 (by decide) rfl rfl hx hb hml hown hts hE hW hS q892 q893 q894 q91 q895 hy_X4_come ⟨rfl, rfl⟩ ⟨Nat.le_of_ble_eq_true rfl, Nat.le_of_ble_eq_true rfl⟩ rfl rfl hl.1 (Nat.le_of_ble_eq_true rfl) ⟨Nat.le_of_ble_eq_true rfl, Nat.le_of_ble_eq_true rfl⟩ dL_come_7 (fun k2 σ2 hk H locs ce q9 hW hS hce hcv hcl => ?_) (fun _ _ hz => by cases hz)
        cases hk
        refine vx_catch (name := exn 2) hown [⟨0, 12, 15, 13⟩] ⟨0, 12, 19, 15⟩ [⟨0, 12, 23, 17⟩] htab (fun z hz => by rw [List.mem_singleton.mp hz]; exact Or.inr ⟨by decide, _, hta _ lk_1, nc_21 hE⟩) (by decide) (by decide) (hta _ lk_2) (va_Nw.use (NG_tab _ ca_2) (hE.2.1 _ ca_2)) hce hcv hcl ?_
        refine lv_astore (lv' := [(5, .ref q9), (0, .ref (b + 0)), (1, .int p1), (2, .int p2), (3, .int p3), (4, .ref (b + 202))]) hx hb dL_come_19 hl (by decide) rfl (fun ls hl => ?_)
        refine lv_iconst (v := 2) hx hb dL_come_21 (by decide) ?_
        cases hf
        refine W.widen (k := 3) (n := 18) (Nat.le_of_ble_eq_true rfl) (Nat.le_of_ble_eq_true rfl) ?_
        exact W.iret hx hb hr (fun u hu _ => ⟨⟨rfl, by rw [hu]; exact hW⟩, hS.F hu⟩) hS.2.2 dL_come_22
      · have hf := ifn h1 hf
        by_cases h2 : k2 = 3
        · have hf := ifp h2 hf
          subst h2
          refine mVX (k := 0) (q := (0, 0)) (C := RX4) (T := TX4) (N := 8) (ci := 4) (n := 3) (As := [.int p1, .int p2, .int p3]) (rest := [.int 0, .ref (b + 202)]) (c_X4_come l hfl D t b σ p1 p2 p3 (.inl 3) u3) sh_0 (by decide) rfl rfl hx hb hml hown hts hE hW hS q892 q893 q894 q91 q895 hy_X4_come ⟨rfl, rfl⟩ ⟨Nat.le_of_ble_eq_true rfl, Nat.le_of_ble_eq_true rfl⟩ rfl rfl hl.1 (Nat.le_of_ble_eq_true rfl) ⟨Nat.le_of_ble_eq_true rfl, Nat.le_of_ble_eq_true rfl⟩ dL_come_7 (fun k2 σ2 hk H locs ce q9 hW hS hce hcv hcl => ?_) (fun _ _ hz => by cases hz)
          cases hk
          refine vx_catch (name := exn 3) hown [⟨0, 12, 15, 13⟩, ⟨0, 12, 19, 15⟩] ⟨0, 12, 23, 17⟩ [] htab (fun z hz => (List.mem_cons.mp hz).elim (fun h => by rw [h]; exact Or.inr ⟨by decide, _, hta _ lk_1, nc_31 hE⟩) (fun h => by rw [List.mem_singleton.mp h]; exact Or.inr ⟨by decide, _, hta _ lk_2, nc_32 hE⟩)) (by decide) (by decide) (hta _ lk_3) (va_Nw.use (NG_tab _ ca_3) (hE.2.1 _ ca_3)) hce hcv hcl ?_
          refine lv_astore (lv' := [(5, .ref q9), (0, .ref (b + 0)), (1, .int p1), (2, .int p2), (3, .int p3), (4, .ref (b + 202))]) hx hb dL_come_23 hl (by decide) rfl (fun ls hl => ?_)
          refine lv_iconst (v := 3) hx hb dL_come_25 (by decide) ?_
          cases hf
          refine W.widen (k := 3) (n := 18) (Nat.le_of_ble_eq_true rfl) (Nat.le_of_ble_eq_true rfl) ?_
          exact W.iret hx hb hr (fun u hu _ => ⟨⟨rfl, by rw [hu]; exact hW⟩, hS.F hu⟩) hS.2.2 dL_come_26
        · have hf := ifn h2 hf
          cases hf
  · obtain ⟨y6, σ5⟩ := y4
    refine mVXn (k := 0) (q := (0, 0)) (C := RX4) (T := TX4) (N := 8) (ci := 4) (n := 3) (As := [.int p1, .int p2, .int p3]) (rest := [.int 0, .ref (b + 202)]) (c_X4_come l hfl D t b σ p1 p2 p3 (.inr (y6, σ5)) u3) sh_0 (by decide) rfl rfl hx hb hml hown hts hE hW hS q892 q893 q894 q91 q895 hy_X4_come ⟨rfl, rfl⟩ ⟨Nat.le_of_ble_eq_true rfl, Nat.le_of_ble_eq_true rfl⟩ rfl rfl hl.1 (Nat.le_of_ble_eq_true rfl) ⟨Nat.le_of_ble_eq_true rfl, Nat.le_of_ble_eq_true rfl⟩ dL_come_7 (fun H locs hW hS => ?_)
    refine lv_i2l hx hb dL_come_10 rfl ?_
    refine last (k := 202) (i := 0) (x := y6) rfl hx hb hE.1 hW hS sh_202 (vp_lit (by decide +kernel)) dL_come_11 (fun H locs hW hS => ?_)
    obtain ⟨σ7, e8, hf⟩ := st_e hf
    rw [e8] at hW
    refine lv_goto (tgt := 27) hx hb dL_come_12 (by decide) ?_
    refine lv_iconst (v := 0) hx hb dL_come_27 (by decide) ?_
    cases hf
    refine W.widen (k := 3) (n := 18) (Nat.le_of_ble_eq_true rfl) (Nat.le_of_ble_eq_true rfl) ?_
    exact W.iret hx hb hr (fun u hu _ => ⟨⟨rfl, by rw [hu]; exact hW⟩, hS.F hu⟩) hS.2.2 dL_come_28
def f_L_setRain (σ : Sg) (p1 : Int32) (p2 : Int32) : Option (Int32 × Sg) := bw (f_X4_setRain σ p1 p2) (fun k => if k = 1 then (some (1, σ)) else (if k = 2 then (some (2, σ)) else (none))) (fun y => st (u2 y.2 202 (0 : Int32).toNatClampNeg y.1) fun σ7 => some (0, σ7))
set_option maxHeartbeats 4000000 in
set_option maxRecDepth 100000 in
theorem c_L_setRain (l : Launch) (hfl : l.stackTraces = false) (D : va_G) (t : Nat → ClassId) (b : Nat) (σ : Sg) (p1 : Int32) (p2 : Int32) (r : Int32) (σr : Sg) (hf : f_L_setRain σ p1 p2 = some (r, σr)) : Met l yL_setRain (Cond.codeWith yL_setRain cL_setRain 5 (some .int) [(0, 10, 13, 13), (0, 10, 17, 15)] :: ALL) ({ frames := 8, cells := 2, slots := 12, locals := 146 }) (PM D t b σ [.ref (b + 0), .int p1, .int p2, .ref (b + 202)]) (QG D t b σr (some (.int r))) 2 12 (geA b) := by
  refine MetH (cc := cL_setRain) (maxL := 5) (ret := (some .int)) (hh := [(0, 10, 13, 13), (0, 10, 17, 15)]) (by decide) rfl ?_
  intro p e s m args below meth c s₁ B hml hv
  obtain ⟨rfl, hW, hE⟩ := hv
  have hx := B.exec
  have hb := B.bytes
  have hr := B.returns
  have hts := atoms_spec (ws := Cond.codeWith yL_setRain cL_setRain 5 (some .int) [(0, 10, 13, 13), (0, 10, 17, 15)] :: ALL) B.pre
  have hta := fun w h => hts w (List.mem_cons_of_mem _ h)
  have htab : c.exceptionTable.toList = tableOf [(0, 10, 13, 13), (0, 10, 17, 15)] := vx_table (x := yL_setRain) B (hts _ List.mem_cons_self)
  have hown : s.vm.findClass RL = some m.cls := findClass_of_methodNamed B.named
  have hlocks := B.notSynchronized
  have hS : va_S (geA b) s.heap s.heap [] := va_S.rf
  have hl := lv_entry ([.ref (b + 0), .int p1, .int p2, .ref (b + 202)]) (n := 5) (Nat.le_of_ble_eq_true rfl)
  rw [lg_entry_eq]
  generalize (lg_sl ([.ref (b + 0), .int p1, .int p2, .ref (b + 202)]) ++ List.replicate (5 - (lg_sl ([.ref (b + 0), .int p1, .int p2, .ref (b + 202)])).length) Slot.unset).toArray = ls at hl ⊢
  have hl : lv_has ls 5 [(0, .ref (b + 0)), (1, .int p1), (2, .int p2), (3, .ref (b + 202))] := hl
  unfold f_L_setRain at hf
  refine lv_aload_n hx hb dL_setRain_0 rfl (lv_at hl 3 rfl) ?_
  refine lv_iconst (v := 0) hx hb dL_setRain_1 (by decide) ?_
  refine lv_aload_n hx hb dL_setRain_2 rfl (lv_at hl 0 rfl) ?_
  refine lv_iload_n hx hb dL_setRain_3 rfl (lv_at hl 1 rfl) ?_
  refine lv_iload_n hx hb dL_setRain_4 rfl (lv_at hl 2 rfl) ?_
  rcases bw_e hf with ⟨k2, u3, hf⟩ | ⟨y4, u3, hf⟩
  · skip
    by_cases h0 : k2 = 1
    · have hf := ifp h0 hf
      subst h0
      refine mVX (k := 0) (q := (0, 0)) (C := RX4) (T := TX4) (N := 8) (ci := 4) (n := 2) (As := [.int p1, .int p2]) (rest := [.int 0, .ref (b + 202)]) (c_X4_setRain l hfl D t b σ p1 p2 (.inl 1) u3) sh_0 (by decide) rfl rfl hx hb hml hown hts hE hW hS q903 q904 q905 q91 q906 hy_X4_setRain ⟨rfl, rfl⟩ ⟨Nat.le_of_ble_eq_true rfl, Nat.le_of_ble_eq_true rfl⟩ rfl rfl hl.1 (Nat.le_of_ble_eq_true rfl) ⟨Nat.le_of_ble_eq_true rfl, Nat.le_of_ble_eq_true rfl⟩ dL_setRain_5 (fun k2 σ2 hk H locs ce q9 hW hS hce hcv hcl => ?_) (fun _ _ hz => by cases hz)
      cases hk
      refine vx_catch (name := exn 1) hown [] ⟨0, 10, 13, 13⟩ [⟨0, 10, 17, 15⟩] htab (fun z hz => by cases hz) (by decide) (by decide) (hta _ lk_1) (va_Nw.use (NG_tab _ ca_1) (hE.2.1 _ ca_1)) hce hcv hcl ?_
      refine lv_astore (lv' := [(4, .ref q9), (0, .ref (b + 0)), (1, .int p1), (2, .int p2), (3, .ref (b + 202))]) hx hb dL_setRain_13 hl (by decide) rfl (fun ls hl => ?_)
      refine lv_iconst (v := 1) hx hb dL_setRain_15 (by decide) ?_
      cases hf
      refine W.widen (k := 2) (n := 12) (Nat.le_of_ble_eq_true rfl) (Nat.le_of_ble_eq_true rfl) ?_
      exact W.iret hx hb hr (fun u hu _ => ⟨⟨rfl, by rw [hu]; exact hW⟩, hS.F hu⟩) hS.2.2 dL_setRain_16
    · have hf := ifn h0 hf
      by_cases h1 : k2 = 2
      · have hf := ifp h1 hf
        subst h1
        refine mVX (k := 0) (q := (0, 0)) (C := RX4) (T := TX4) (N := 8) (ci := 4) (n := 2) (As := [.int p1, .int p2]) (rest := [.int 0, .ref (b + 202)]) (c_X4_setRain l hfl D t b σ p1 p2 (.inl 2) u3) sh_0 (by decide) rfl rfl hx hb hml hown hts hE hW hS q903 q904 q905 q91 q906 hy_X4_setRain ⟨rfl, rfl⟩ ⟨Nat.le_of_ble_eq_true rfl, Nat.le_of_ble_eq_true rfl⟩ rfl rfl hl.1 (Nat.le_of_ble_eq_true rfl) ⟨Nat.le_of_ble_eq_true rfl, Nat.le_of_ble_eq_true rfl⟩ dL_setRain_5 (fun k2 σ2 hk H locs ce q9 hW hS hce hcv hcl => ?_) (fun _ _ hz => by cases hz)
        cases hk
        refine vx_catch (name := exn 2) hown [⟨0, 10, 13, 13⟩] ⟨0, 10, 17, 15⟩ [] htab (fun z hz => by rw [List.mem_singleton.mp hz]; exact Or.inr ⟨by decide, _, hta _ lk_1, nc_21 hE⟩) (by decide) (by decide) (hta _ lk_2) (va_Nw.use (NG_tab _ ca_2) (hE.2.1 _ ca_2)) hce hcv hcl ?_
        refine lv_astore (lv' := [(4, .ref q9), (0, .ref (b + 0)), (1, .int p1), (2, .int p2), (3, .ref (b + 202))]) hx hb dL_setRain_17 hl (by decide) rfl (fun ls hl => ?_)
        refine lv_iconst (v := 2) hx hb dL_setRain_19 (by decide) ?_
        cases hf
        refine W.widen (k := 2) (n := 12) (Nat.le_of_ble_eq_true rfl) (Nat.le_of_ble_eq_true rfl) ?_
        exact W.iret hx hb hr (fun u hu _ => ⟨⟨rfl, by rw [hu]; exact hW⟩, hS.F hu⟩) hS.2.2 dL_setRain_20
      · have hf := ifn h1 hf
        cases hf
  · obtain ⟨y6, σ5⟩ := y4
    refine mVXn (k := 0) (q := (0, 0)) (C := RX4) (T := TX4) (N := 8) (ci := 4) (n := 2) (As := [.int p1, .int p2]) (rest := [.int 0, .ref (b + 202)]) (c_X4_setRain l hfl D t b σ p1 p2 (.inr (y6, σ5)) u3) sh_0 (by decide) rfl rfl hx hb hml hown hts hE hW hS q903 q904 q905 q91 q906 hy_X4_setRain ⟨rfl, rfl⟩ ⟨Nat.le_of_ble_eq_true rfl, Nat.le_of_ble_eq_true rfl⟩ rfl rfl hl.1 (Nat.le_of_ble_eq_true rfl) ⟨Nat.le_of_ble_eq_true rfl, Nat.le_of_ble_eq_true rfl⟩ dL_setRain_5 (fun H locs hW hS => ?_)
    refine lv_i2l hx hb dL_setRain_8 rfl ?_
    refine last (k := 202) (i := 0) (x := y6) rfl hx hb hE.1 hW hS sh_202 (vp_lit (by decide +kernel)) dL_setRain_9 (fun H locs hW hS => ?_)
    obtain ⟨σ7, e8, hf⟩ := st_e hf
    rw [e8] at hW
    refine lv_goto (tgt := 21) hx hb dL_setRain_10 (by decide) ?_
    refine lv_iconst (v := 0) hx hb dL_setRain_21 (by decide) ?_
    cases hf
    refine W.widen (k := 2) (n := 12) (Nat.le_of_ble_eq_true rfl) (Nat.le_of_ble_eq_true rfl) ?_
    exact W.iret hx hb hr (fun u hu _ => ⟨⟨rfl, by rw [hu]; exact hW⟩, hS.F hu⟩) hS.2.2 dL_setRain_22
def f_L_pass (σ : Sg) (p1 : Int32) : Option (Int32 × Sg) := bw (f_X4_pass σ p1) (fun k => if k = 2 then (some (1, σ)) else (if k = 3 then (some (2, σ)) else (none))) (fun y => st (u2 y.2 202 (0 : Int32).toNatClampNeg y.1) fun σ7 => some (0, σ7))
set_option maxHeartbeats 4000000 in
set_option maxRecDepth 100000 in
theorem c_L_pass (l : Launch) (hfl : l.stackTraces = false) (D : va_G) (t : Nat → ClassId) (b : Nat) (σ : Sg) (p1 : Int32) (r : Int32) (σr : Sg) (hf : f_L_pass σ p1 = some (r, σr)) : Met l yL_pass (Cond.codeWith yL_pass cL_pass 4 (some .int) [(0, 9, 12, 15), (0, 9, 15, 17)] :: ALL) ({ frames := 7, cells := 1, slots := 6, locals := 145 }) (PM D t b σ [.ref (b + 0), .int p1, .ref (b + 202)]) (QG D t b σr (some (.int r))) 1 6 (geA b) := by
  refine MetH (cc := cL_pass) (maxL := 4) (ret := (some .int)) (hh := [(0, 9, 12, 15), (0, 9, 15, 17)]) (by decide) rfl ?_
  intro p e s m args below meth c s₁ B hml hv
  obtain ⟨rfl, hW, hE⟩ := hv
  have hx := B.exec
  have hb := B.bytes
  have hr := B.returns
  have hts := atoms_spec (ws := Cond.codeWith yL_pass cL_pass 4 (some .int) [(0, 9, 12, 15), (0, 9, 15, 17)] :: ALL) B.pre
  have hta := fun w h => hts w (List.mem_cons_of_mem _ h)
  have htab : c.exceptionTable.toList = tableOf [(0, 9, 12, 15), (0, 9, 15, 17)] := vx_table (x := yL_pass) B (hts _ List.mem_cons_self)
  have hown : s.vm.findClass RL = some m.cls := findClass_of_methodNamed B.named
  have hlocks := B.notSynchronized
  have hS : va_S (geA b) s.heap s.heap [] := va_S.rf
  have hl := lv_entry ([.ref (b + 0), .int p1, .ref (b + 202)]) (n := 4) (Nat.le_of_ble_eq_true rfl)
  rw [lg_entry_eq]
  generalize (lg_sl ([.ref (b + 0), .int p1, .ref (b + 202)]) ++ List.replicate (4 - (lg_sl ([.ref (b + 0), .int p1, .ref (b + 202)])).length) Slot.unset).toArray = ls at hl ⊢
  have hl : lv_has ls 4 [(0, .ref (b + 0)), (1, .int p1), (2, .ref (b + 202))] := hl
  unfold f_L_pass at hf
  refine lv_aload_n hx hb dL_pass_0 rfl (lv_at hl 2 rfl) ?_
  refine lv_iconst (v := 0) hx hb dL_pass_1 (by decide) ?_
  refine lv_aload_n hx hb dL_pass_2 rfl (lv_at hl 0 rfl) ?_
  refine lv_iload_n hx hb dL_pass_3 rfl (lv_at hl 1 rfl) ?_
  rcases bw_e hf with ⟨k2, u3, hf⟩ | ⟨y4, u3, hf⟩
  · skip
    by_cases h0 : k2 = 2
    · have hf := ifp h0 hf
      subst h0
      refine mVX (k := 0) (q := (0, 0)) (C := RX4) (T := TX4) (N := 8) (ci := 4) (n := 1) (As := [.int p1]) (rest := [.int 0, .ref (b + 202)]) (c_X4_pass l hfl D t b σ p1 (.inl 2) u3) sh_0 (by decide) rfl rfl hx hb hml hown hts hE hW hS q916 q917 q918 q91 q919 hy_X4_pass ⟨rfl, rfl⟩ ⟨Nat.le_of_ble_eq_true rfl, Nat.le_of_ble_eq_true rfl⟩ rfl rfl hl.1 (Nat.le_of_ble_eq_true rfl) ⟨Nat.le_of_ble_eq_true rfl, Nat.le_of_ble_eq_true rfl⟩ dL_pass_4 (fun k2 σ2 hk H locs ce q9 hW hS hce hcv hcl => ?_) (fun _ _ hz => by cases hz)
      cases hk
      refine vx_catch (name := exn 2) hown [] ⟨0, 9, 12, 15⟩ [⟨0, 9, 15, 17⟩] htab (fun z hz => by cases hz) (by decide) (by decide) (hta _ lk_2) (va_Nw.use (NG_tab _ ca_2) (hE.2.1 _ ca_2)) hce hcv hcl ?_
      refine lv_astore_n (lv' := [(3, .ref q9), (0, .ref (b + 0)), (1, .int p1), (2, .ref (b + 202))]) hx hb dL_pass_12 rfl hl (by decide) rfl (fun ls hl => ?_)
      refine lv_iconst (v := 1) hx hb dL_pass_13 (by decide) ?_
      cases hf
      refine W.widen (k := 1) (n := 6) (Nat.le_of_ble_eq_true rfl) (Nat.le_of_ble_eq_true rfl) ?_
      exact W.iret hx hb hr (fun u hu _ => ⟨⟨rfl, by rw [hu]; exact hW⟩, hS.F hu⟩) hS.2.2 dL_pass_14
    · have hf := ifn h0 hf
      by_cases h1 : k2 = 3
      · have hf := ifp h1 hf
        subst h1
        refine mVX (k := 0) (q := (0, 0)) (C := RX4) (T := TX4) (N := 8) (ci := 4) (n := 1) (As := [.int p1]) (rest := [.int 0, .ref (b + 202)]) (c_X4_pass l hfl D t b σ p1 (.inl 3) u3) sh_0 (by decide) rfl rfl hx hb hml hown hts hE hW hS q916 q917 q918 q91 q919 hy_X4_pass ⟨rfl, rfl⟩ ⟨Nat.le_of_ble_eq_true rfl, Nat.le_of_ble_eq_true rfl⟩ rfl rfl hl.1 (Nat.le_of_ble_eq_true rfl) ⟨Nat.le_of_ble_eq_true rfl, Nat.le_of_ble_eq_true rfl⟩ dL_pass_4 (fun k2 σ2 hk H locs ce q9 hW hS hce hcv hcl => ?_) (fun _ _ hz => by cases hz)
        cases hk
        refine vx_catch (name := exn 3) hown [⟨0, 9, 12, 15⟩] ⟨0, 9, 15, 17⟩ [] htab (fun z hz => by rw [List.mem_singleton.mp hz]; exact Or.inr ⟨by decide, _, hta _ lk_2, nc_32 hE⟩) (by decide) (by decide) (hta _ lk_3) (va_Nw.use (NG_tab _ ca_3) (hE.2.1 _ ca_3)) hce hcv hcl ?_
        refine lv_astore_n (lv' := [(3, .ref q9), (0, .ref (b + 0)), (1, .int p1), (2, .ref (b + 202))]) hx hb dL_pass_15 rfl hl (by decide) rfl (fun ls hl => ?_)
        refine lv_iconst (v := 2) hx hb dL_pass_16 (by decide) ?_
        cases hf
        refine W.widen (k := 1) (n := 6) (Nat.le_of_ble_eq_true rfl) (Nat.le_of_ble_eq_true rfl) ?_
        exact W.iret hx hb hr (fun u hu _ => ⟨⟨rfl, by rw [hu]; exact hW⟩, hS.F hu⟩) hS.2.2 dL_pass_17
      · have hf := ifn h1 hf
        cases hf
  · obtain ⟨y6, σ5⟩ := y4
    refine mVXn (k := 0) (q := (0, 0)) (C := RX4) (T := TX4) (N := 8) (ci := 4) (n := 1) (As := [.int p1]) (rest := [.int 0, .ref (b + 202)]) (c_X4_pass l hfl D t b σ p1 (.inr (y6, σ5)) u3) sh_0 (by decide) rfl rfl hx hb hml hown hts hE hW hS q916 q917 q918 q91 q919 hy_X4_pass ⟨rfl, rfl⟩ ⟨Nat.le_of_ble_eq_true rfl, Nat.le_of_ble_eq_true rfl⟩ rfl rfl hl.1 (Nat.le_of_ble_eq_true rfl) ⟨Nat.le_of_ble_eq_true rfl, Nat.le_of_ble_eq_true rfl⟩ dL_pass_4 (fun H locs hW hS => ?_)
    refine lv_i2l hx hb dL_pass_7 rfl ?_
    refine last (k := 202) (i := 0) (x := y6) rfl hx hb hE.1 hW hS sh_202 (vp_lit (by decide +kernel)) dL_pass_8 (fun H locs hW hS => ?_)
    obtain ⟨σ7, e8, hf⟩ := st_e hf
    rw [e8] at hW
    refine lv_goto (tgt := 18) hx hb dL_pass_9 (by decide) ?_
    refine lv_iconst (v := 0) hx hb dL_pass_18 (by decide) ?_
    cases hf
    refine W.widen (k := 1) (n := 6) (Nat.le_of_ble_eq_true rfl) (Nat.le_of_ble_eq_true rfl) ?_
    exact W.iret hx hb hr (fun u hu _ => ⟨⟨rfl, by rw [hu]; exact hW⟩, hS.F hu⟩) hS.2.2 dL_pass_19
def f_L_type (σ : Sg) (p1 : Int32) : Option (Int32 × Sg) := bws (f_X4_type σ p1) (fun k τ => if k = 3 then (some (1, τ)) else (none)) (fun y => st (u2 y.2 202 (0 : Int32).toNatClampNeg y.1) fun σ7 => some (0, σ7))
set_option maxHeartbeats 4000000 in
set_option maxRecDepth 100000 in
theorem c_L_type (l : Launch) (hfl : l.stackTraces = false) (D : va_G) (t : Nat → ClassId) (b : Nat) (σ : Sg) (p1 : Int32) (r : Int32) (σr : Sg) (hf : f_L_type σ p1 = some (r, σr)) : Met l yL_type (Cond.codeWith yL_type cL_type 4 (some .int) [(0, 9, 12, 17)] :: ALL) ({ frames := 7, cells := 1, slots := 6, locals := 103 }) (PM D t b σ [.ref (b + 0), .int p1, .ref (b + 202)]) (QG D t b σr (some (.int r))) 1 6 (geA b) := by
  refine MetH (cc := cL_type) (maxL := 4) (ret := (some .int)) (hh := [(0, 9, 12, 17)]) (by decide) rfl ?_
  intro p e s m args below meth c s₁ B hml hv
  obtain ⟨rfl, hW, hE⟩ := hv
  have hx := B.exec
  have hb := B.bytes
  have hr := B.returns
  have hts := atoms_spec (ws := Cond.codeWith yL_type cL_type 4 (some .int) [(0, 9, 12, 17)] :: ALL) B.pre
  have hta := fun w h => hts w (List.mem_cons_of_mem _ h)
  have htab : c.exceptionTable.toList = tableOf [(0, 9, 12, 17)] := vx_table (x := yL_type) B (hts _ List.mem_cons_self)
  have hown : s.vm.findClass RL = some m.cls := findClass_of_methodNamed B.named
  have hlocks := B.notSynchronized
  have hS : va_S (geA b) s.heap s.heap [] := va_S.rf
  have hl := lv_entry ([.ref (b + 0), .int p1, .ref (b + 202)]) (n := 4) (Nat.le_of_ble_eq_true rfl)
  rw [lg_entry_eq]
  generalize (lg_sl ([.ref (b + 0), .int p1, .ref (b + 202)]) ++ List.replicate (4 - (lg_sl ([.ref (b + 0), .int p1, .ref (b + 202)])).length) Slot.unset).toArray = ls at hl ⊢
  have hl : lv_has ls 4 [(0, .ref (b + 0)), (1, .int p1), (2, .ref (b + 202))] := hl
  unfold f_L_type at hf
  refine lv_aload_n hx hb dL_type_0 rfl (lv_at hl 2 rfl) ?_
  refine lv_iconst (v := 0) hx hb dL_type_1 (by decide) ?_
  refine lv_aload_n hx hb dL_type_2 rfl (lv_at hl 0 rfl) ?_
  refine lv_iload_n hx hb dL_type_3 rfl (lv_at hl 1 rfl) ?_
  rcases bws_e hf with ⟨k2, τ, u3, hf⟩ | ⟨y4, u3, hf⟩
  · skip
    by_cases h0 : k2 = 3
    · have hf := ifp h0 hf
      subst h0
      refine mVX (k := 0) (q := (0, 0)) (C := RX4) (T := TX4) (N := 8) (ci := 4) (n := 1) (As := [.int p1]) (rest := [.int 0, .ref (b + 202)]) (c_X4_type l hfl D t b σ p1 (.inl (3, τ)) u3) sh_0 (by decide) rfl rfl hx hb hml hown hts hE hW hS q929 q930 q931 q91 q932 hy_X4_type ⟨rfl, rfl⟩ ⟨Nat.le_of_ble_eq_true rfl, Nat.le_of_ble_eq_true rfl⟩ rfl rfl hl.1 (Nat.le_of_ble_eq_true rfl) ⟨Nat.le_of_ble_eq_true rfl, Nat.le_of_ble_eq_true rfl⟩ dL_type_4 (fun k2 σ2 hk H locs ce q9 hW hS hce hcv hcl => ?_) (fun _ _ hz => by cases hz)
      cases hk
      refine vx_catch (name := exn 3) hown [] ⟨0, 9, 12, 17⟩ [] htab (fun z hz => by cases hz) (by decide) (by decide) (hta _ lk_3) (va_Nw.use (NG_tab _ ca_3) (hE.2.1 _ ca_3)) hce hcv hcl ?_
      refine lv_astore_n (lv' := [(3, .ref q9), (0, .ref (b + 0)), (1, .int p1), (2, .ref (b + 202))]) hx hb dL_type_12 rfl hl (by decide) rfl (fun ls hl => ?_)
      refine lv_iconst (v := 1) hx hb dL_type_13 (by decide) ?_
      cases hf
      refine W.widen (k := 1) (n := 6) (Nat.le_of_ble_eq_true rfl) (Nat.le_of_ble_eq_true rfl) ?_
      exact W.iret hx hb hr (fun u hu _ => ⟨⟨rfl, by rw [hu]; exact hW⟩, hS.F hu⟩) hS.2.2 dL_type_14
    · have hf := ifn h0 hf
      cases hf
  · obtain ⟨y6, σ5⟩ := y4
    refine mVXn (k := 0) (q := (0, 0)) (C := RX4) (T := TX4) (N := 8) (ci := 4) (n := 1) (As := [.int p1]) (rest := [.int 0, .ref (b + 202)]) (c_X4_type l hfl D t b σ p1 (.inr (y6, σ5)) u3) sh_0 (by decide) rfl rfl hx hb hml hown hts hE hW hS q929 q930 q931 q91 q932 hy_X4_type ⟨rfl, rfl⟩ ⟨Nat.le_of_ble_eq_true rfl, Nat.le_of_ble_eq_true rfl⟩ rfl rfl hl.1 (Nat.le_of_ble_eq_true rfl) ⟨Nat.le_of_ble_eq_true rfl, Nat.le_of_ble_eq_true rfl⟩ dL_type_4 (fun H locs hW hS => ?_)
    refine lv_i2l hx hb dL_type_7 rfl ?_
    refine last (k := 202) (i := 0) (x := y6) rfl hx hb hE.1 hW hS sh_202 (vp_lit (by decide +kernel)) dL_type_8 (fun H locs hW hS => ?_)
    obtain ⟨σ7, e8, hf⟩ := st_e hf
    rw [e8] at hW
    refine lv_goto (tgt := 15) hx hb dL_type_9 (by decide) ?_
    refine lv_iconst (v := 0) hx hb dL_type_15 (by decide) ?_
    cases hf
    refine W.widen (k := 1) (n := 6) (Nat.le_of_ble_eq_true rfl) (Nat.le_of_ble_eq_true rfl) ?_
    exact W.iret hx hb hr (fun u hu _ => ⟨⟨rfl, by rw [hu]; exact hW⟩, hS.F hu⟩) hS.2.2 dL_type_16
def f_L_impossibleOrder (σ : Sg) : Option (Int32 × Sg) := bws (f_X4_impossibleOrder σ) (fun k τ => if k = 3 then (some (1, τ)) else (none)) (fun y => st (u2 y.2 202 (0 : Int32).toNatClampNeg y.1) fun σ7 => some (0, σ7))
set_option maxHeartbeats 4000000 in
set_option maxRecDepth 100000 in
theorem c_L_impossibleOrder (l : Launch) (hfl : l.stackTraces = false) (D : va_G) (t : Nat → ClassId) (b : Nat) (σ : Sg) (r : Int32) (σr : Sg) (hf : f_L_impossibleOrder σ = some (r, σr)) : Met l yL_impossibleOrder (Cond.codeWith yL_impossibleOrder cL_impossibleOrder 3 (some .int) [(0, 8, 11, 17)] :: ALL) ({ frames := 7, cells := 1, slots := 6, locals := 159 }) (PM D t b σ [.ref (b + 0), .ref (b + 202)]) (QG D t b σr (some (.int r))) 1 6 (geA b) := by
  refine MetH (cc := cL_impossibleOrder) (maxL := 3) (ret := (some .int)) (hh := [(0, 8, 11, 17)]) (by decide) rfl ?_
  intro p e s m args below meth c s₁ B hml hv
  obtain ⟨rfl, hW, hE⟩ := hv
  have hx := B.exec
  have hb := B.bytes
  have hr := B.returns
  have hts := atoms_spec (ws := Cond.codeWith yL_impossibleOrder cL_impossibleOrder 3 (some .int) [(0, 8, 11, 17)] :: ALL) B.pre
  have hta := fun w h => hts w (List.mem_cons_of_mem _ h)
  have htab : c.exceptionTable.toList = tableOf [(0, 8, 11, 17)] := vx_table (x := yL_impossibleOrder) B (hts _ List.mem_cons_self)
  have hown : s.vm.findClass RL = some m.cls := findClass_of_methodNamed B.named
  have hlocks := B.notSynchronized
  have hS : va_S (geA b) s.heap s.heap [] := va_S.rf
  have hl := lv_entry ([.ref (b + 0), .ref (b + 202)]) (n := 3) (Nat.le_of_ble_eq_true rfl)
  rw [lg_entry_eq]
  generalize (lg_sl ([.ref (b + 0), .ref (b + 202)]) ++ List.replicate (3 - (lg_sl ([.ref (b + 0), .ref (b + 202)])).length) Slot.unset).toArray = ls at hl ⊢
  have hl : lv_has ls 3 [(0, .ref (b + 0)), (1, .ref (b + 202))] := hl
  unfold f_L_impossibleOrder at hf
  refine lv_aload_n hx hb dL_impossibleOrder_0 rfl (lv_at hl 1 rfl) ?_
  refine lv_iconst (v := 0) hx hb dL_impossibleOrder_1 (by decide) ?_
  refine lv_aload_n hx hb dL_impossibleOrder_2 rfl (lv_at hl 0 rfl) ?_
  rcases bws_e hf with ⟨k2, τ, u3, hf⟩ | ⟨y4, u3, hf⟩
  · skip
    by_cases h0 : k2 = 3
    · have hf := ifp h0 hf
      subst h0
      refine mVX (k := 0) (q := (0, 0)) (C := RX4) (T := TX4) (N := 8) (ci := 4) (n := 0) (As := []) (rest := [.int 0, .ref (b + 202)]) (c_X4_impossibleOrder l hfl D t b σ (.inl (3, τ)) u3) sh_0 (by decide) rfl rfl hx hb hml hown hts hE hW hS q941 q942 q943 q91 q944 hy_X4_impossibleOrder ⟨rfl, rfl⟩ ⟨Nat.le_of_ble_eq_true rfl, Nat.le_of_ble_eq_true rfl⟩ rfl rfl hl.1 (Nat.le_of_ble_eq_true rfl) ⟨Nat.le_of_ble_eq_true rfl, Nat.le_of_ble_eq_true rfl⟩ dL_impossibleOrder_3 (fun k2 σ2 hk H locs ce q9 hW hS hce hcv hcl => ?_) (fun _ _ hz => by cases hz)
      cases hk
      refine vx_catch (name := exn 3) hown [] ⟨0, 8, 11, 17⟩ [] htab (fun z hz => by cases hz) (by decide) (by decide) (hta _ lk_3) (va_Nw.use (NG_tab _ ca_3) (hE.2.1 _ ca_3)) hce hcv hcl ?_
      refine lv_astore_n (lv' := [(2, .ref q9), (0, .ref (b + 0)), (1, .ref (b + 202))]) hx hb dL_impossibleOrder_11 rfl hl (by decide) rfl (fun ls hl => ?_)
      refine lv_iconst (v := 1) hx hb dL_impossibleOrder_12 (by decide) ?_
      cases hf
      refine W.widen (k := 1) (n := 6) (Nat.le_of_ble_eq_true rfl) (Nat.le_of_ble_eq_true rfl) ?_
      exact W.iret hx hb hr (fun u hu _ => ⟨⟨rfl, by rw [hu]; exact hW⟩, hS.F hu⟩) hS.2.2 dL_impossibleOrder_13
    · have hf := ifn h0 hf
      cases hf
  · obtain ⟨y6, σ5⟩ := y4
    refine mVXn (k := 0) (q := (0, 0)) (C := RX4) (T := TX4) (N := 8) (ci := 4) (n := 0) (As := []) (rest := [.int 0, .ref (b + 202)]) (c_X4_impossibleOrder l hfl D t b σ (.inr (y6, σ5)) u3) sh_0 (by decide) rfl rfl hx hb hml hown hts hE hW hS q941 q942 q943 q91 q944 hy_X4_impossibleOrder ⟨rfl, rfl⟩ ⟨Nat.le_of_ble_eq_true rfl, Nat.le_of_ble_eq_true rfl⟩ rfl rfl hl.1 (Nat.le_of_ble_eq_true rfl) ⟨Nat.le_of_ble_eq_true rfl, Nat.le_of_ble_eq_true rfl⟩ dL_impossibleOrder_3 (fun H locs hW hS => ?_)
    refine lv_i2l hx hb dL_impossibleOrder_6 rfl ?_
    refine last (k := 202) (i := 0) (x := y6) rfl hx hb hE.1 hW hS sh_202 (vp_lit (by decide +kernel)) dL_impossibleOrder_7 (fun H locs hW hS => ?_)
    obtain ⟨σ7, e8, hf⟩ := st_e hf
    rw [e8] at hW
    refine lv_goto (tgt := 14) hx hb dL_impossibleOrder_8 (by decide) ?_
    refine lv_iconst (v := 0) hx hb dL_impossibleOrder_14 (by decide) ?_
    cases hf
    refine W.widen (k := 1) (n := 6) (Nat.le_of_ble_eq_true rfl) (Nat.le_of_ble_eq_true rfl) ?_
    exact W.iret hx hb hr (fun u hu _ => ⟨⟨rfl, by rw [hu]; exact hW⟩, hS.F hu⟩) hS.2.2 dL_impossibleOrder_15
def f_L_carryOut (σ : Sg) : Option (Int32 × Sg) := bws (f_X4_carryOut σ) (fun k τ => if k = 3 then (some (1, τ)) else (none)) (fun y => st (u2 y.2 202 (0 : Int32).toNatClampNeg y.1) fun σ7 => some (0, σ7))
set_option maxHeartbeats 4000000 in
set_option maxRecDepth 100000 in
theorem c_L_carryOut (l : Launch) (hfl : l.stackTraces = false) (D : va_G) (t : Nat → ClassId) (b : Nat) (σ : Sg) (r : Int32) (σr : Sg) (hf : f_L_carryOut σ = some (r, σr)) : Met l yL_carryOut (Cond.codeWith yL_carryOut cL_carryOut 3 (some .int) [(0, 8, 11, 17)] :: ALL) ({ frames := 7, cells := 1, slots := 6, locals := 159 }) (PM D t b σ [.ref (b + 0), .ref (b + 202)]) (QG D t b σr (some (.int r))) 1 6 (geA b) := by
  refine MetH (cc := cL_carryOut) (maxL := 3) (ret := (some .int)) (hh := [(0, 8, 11, 17)]) (by decide) rfl ?_
  intro p e s m args below meth c s₁ B hml hv
  obtain ⟨rfl, hW, hE⟩ := hv
  have hx := B.exec
  have hb := B.bytes
  have hr := B.returns
  have hts := atoms_spec (ws := Cond.codeWith yL_carryOut cL_carryOut 3 (some .int) [(0, 8, 11, 17)] :: ALL) B.pre
  have hta := fun w h => hts w (List.mem_cons_of_mem _ h)
  have htab : c.exceptionTable.toList = tableOf [(0, 8, 11, 17)] := vx_table (x := yL_carryOut) B (hts _ List.mem_cons_self)
  have hown : s.vm.findClass RL = some m.cls := findClass_of_methodNamed B.named
  have hlocks := B.notSynchronized
  have hS : va_S (geA b) s.heap s.heap [] := va_S.rf
  have hl := lv_entry ([.ref (b + 0), .ref (b + 202)]) (n := 3) (Nat.le_of_ble_eq_true rfl)
  rw [lg_entry_eq]
  generalize (lg_sl ([.ref (b + 0), .ref (b + 202)]) ++ List.replicate (3 - (lg_sl ([.ref (b + 0), .ref (b + 202)])).length) Slot.unset).toArray = ls at hl ⊢
  have hl : lv_has ls 3 [(0, .ref (b + 0)), (1, .ref (b + 202))] := hl
  unfold f_L_carryOut at hf
  refine lv_aload_n hx hb dL_carryOut_0 rfl (lv_at hl 1 rfl) ?_
  refine lv_iconst (v := 0) hx hb dL_carryOut_1 (by decide) ?_
  refine lv_aload_n hx hb dL_carryOut_2 rfl (lv_at hl 0 rfl) ?_
  rcases bws_e hf with ⟨k2, τ, u3, hf⟩ | ⟨y4, u3, hf⟩
  · skip
    by_cases h0 : k2 = 3
    · have hf := ifp h0 hf
      subst h0
      refine mVX (k := 0) (q := (0, 0)) (C := RX4) (T := TX4) (N := 8) (ci := 4) (n := 0) (As := []) (rest := [.int 0, .ref (b + 202)]) (c_X4_carryOut l hfl D t b σ (.inl (3, τ)) u3) sh_0 (by decide) rfl rfl hx hb hml hown hts hE hW hS q971 q972 q973 q91 q974 hy_X4_carryOut ⟨rfl, rfl⟩ ⟨Nat.le_of_ble_eq_true rfl, Nat.le_of_ble_eq_true rfl⟩ rfl rfl hl.1 (Nat.le_of_ble_eq_true rfl) ⟨Nat.le_of_ble_eq_true rfl, Nat.le_of_ble_eq_true rfl⟩ dL_carryOut_3 (fun k2 σ2 hk H locs ce q9 hW hS hce hcv hcl => ?_) (fun _ _ hz => by cases hz)
      cases hk
      refine vx_catch (name := exn 3) hown [] ⟨0, 8, 11, 17⟩ [] htab (fun z hz => by cases hz) (by decide) (by decide) (hta _ lk_3) (va_Nw.use (NG_tab _ ca_3) (hE.2.1 _ ca_3)) hce hcv hcl ?_
      refine lv_astore_n (lv' := [(2, .ref q9), (0, .ref (b + 0)), (1, .ref (b + 202))]) hx hb dL_carryOut_11 rfl hl (by decide) rfl (fun ls hl => ?_)
      refine lv_iconst (v := 1) hx hb dL_carryOut_12 (by decide) ?_
      cases hf
      refine W.widen (k := 1) (n := 6) (Nat.le_of_ble_eq_true rfl) (Nat.le_of_ble_eq_true rfl) ?_
      exact W.iret hx hb hr (fun u hu _ => ⟨⟨rfl, by rw [hu]; exact hW⟩, hS.F hu⟩) hS.2.2 dL_carryOut_13
    · have hf := ifn h0 hf
      cases hf
  · obtain ⟨y6, σ5⟩ := y4
    refine mVXn (k := 0) (q := (0, 0)) (C := RX4) (T := TX4) (N := 8) (ci := 4) (n := 0) (As := []) (rest := [.int 0, .ref (b + 202)]) (c_X4_carryOut l hfl D t b σ (.inr (y6, σ5)) u3) sh_0 (by decide) rfl rfl hx hb hml hown hts hE hW hS q971 q972 q973 q91 q974 hy_X4_carryOut ⟨rfl, rfl⟩ ⟨Nat.le_of_ble_eq_true rfl, Nat.le_of_ble_eq_true rfl⟩ rfl rfl hl.1 (Nat.le_of_ble_eq_true rfl) ⟨Nat.le_of_ble_eq_true rfl, Nat.le_of_ble_eq_true rfl⟩ dL_carryOut_3 (fun H locs hW hS => ?_)
    refine lv_i2l hx hb dL_carryOut_6 rfl ?_
    refine last (k := 202) (i := 0) (x := y6) rfl hx hb hE.1 hW hS sh_202 (vp_lit (by decide +kernel)) dL_carryOut_7 (fun H locs hW hS => ?_)
    obtain ⟨σ7, e8, hf⟩ := st_e hf
    rw [e8] at hW
    refine lv_goto (tgt := 14) hx hb dL_carryOut_8 (by decide) ?_
    refine lv_iconst (v := 0) hx hb dL_carryOut_14 (by decide) ?_
    cases hf
    refine W.widen (k := 1) (n := 6) (Nat.le_of_ble_eq_true rfl) (Nat.le_of_ble_eq_true rfl) ?_
    exact W.iret hx hb hr (fun u hu _ => ⟨⟨rfl, by rw [hu]; exact hW⟩, hS.F hu⟩) hS.2.2 dL_carryOut_15
def f_L_undo (σ : Sg) : Option (Int32 × Sg) := bw (f_X4_undo σ) (fun k => if k = 3 then (some (1, σ)) else (none)) (fun y => st (u2 y.2 202 (0 : Int32).toNatClampNeg y.1) fun σ7 => some (0, σ7))
set_option maxHeartbeats 4000000 in
set_option maxRecDepth 100000 in
theorem c_L_undo (l : Launch) (hfl : l.stackTraces = false) (D : va_G) (t : Nat → ClassId) (b : Nat) (σ : Sg) (r : Int32) (σr : Sg) (hf : f_L_undo σ = some (r, σr)) : Met l yL_undo (Cond.codeWith yL_undo cL_undo 3 (some .int) [(0, 8, 11, 17)] :: ALL) ({ frames := 7, cells := 1, slots := 6, locals := 123 }) (PM D t b σ [.ref (b + 0), .ref (b + 202)]) (QG D t b σr (some (.int r))) 1 6 (geA b) := by
  refine MetH (cc := cL_undo) (maxL := 3) (ret := (some .int)) (hh := [(0, 8, 11, 17)]) (by decide) rfl ?_
  intro p e s m args below meth c s₁ B hml hv
  obtain ⟨rfl, hW, hE⟩ := hv
  have hx := B.exec
  have hb := B.bytes
  have hr := B.returns
  have hts := atoms_spec (ws := Cond.codeWith yL_undo cL_undo 3 (some .int) [(0, 8, 11, 17)] :: ALL) B.pre
  have hta := fun w h => hts w (List.mem_cons_of_mem _ h)
  have htab : c.exceptionTable.toList = tableOf [(0, 8, 11, 17)] := vx_table (x := yL_undo) B (hts _ List.mem_cons_self)
  have hown : s.vm.findClass RL = some m.cls := findClass_of_methodNamed B.named
  have hlocks := B.notSynchronized
  have hS : va_S (geA b) s.heap s.heap [] := va_S.rf
  have hl := lv_entry ([.ref (b + 0), .ref (b + 202)]) (n := 3) (Nat.le_of_ble_eq_true rfl)
  rw [lg_entry_eq]
  generalize (lg_sl ([.ref (b + 0), .ref (b + 202)]) ++ List.replicate (3 - (lg_sl ([.ref (b + 0), .ref (b + 202)])).length) Slot.unset).toArray = ls at hl ⊢
  have hl : lv_has ls 3 [(0, .ref (b + 0)), (1, .ref (b + 202))] := hl
  unfold f_L_undo at hf
  refine lv_aload_n hx hb dL_undo_0 rfl (lv_at hl 1 rfl) ?_
  refine lv_iconst (v := 0) hx hb dL_undo_1 (by decide) ?_
  refine lv_aload_n hx hb dL_undo_2 rfl (lv_at hl 0 rfl) ?_
  rcases bw_e hf with ⟨k2, u3, hf⟩ | ⟨y4, u3, hf⟩
  · skip
    by_cases h0 : k2 = 3
    · have hf := ifp h0 hf
      subst h0
      refine mVX (k := 0) (q := (0, 0)) (C := RX4) (T := TX4) (N := 8) (ci := 4) (n := 0) (As := []) (rest := [.int 0, .ref (b + 202)]) (c_X4_undo l hfl D t b σ (.inl 3) u3) sh_0 (by decide) rfl rfl hx hb hml hown hts hE hW hS q979 q980 q981 q91 q982 hy_X4_undo ⟨rfl, rfl⟩ ⟨Nat.le_of_ble_eq_true rfl, Nat.le_of_ble_eq_true rfl⟩ rfl rfl hl.1 (Nat.le_of_ble_eq_true rfl) ⟨Nat.le_of_ble_eq_true rfl, Nat.le_of_ble_eq_true rfl⟩ dL_undo_3 (fun k2 σ2 hk H locs ce q9 hW hS hce hcv hcl => ?_) (fun _ _ hz => by cases hz)
      cases hk
      refine vx_catch (name := exn 3) hown [] ⟨0, 8, 11, 17⟩ [] htab (fun z hz => by cases hz) (by decide) (by decide) (hta _ lk_3) (va_Nw.use (NG_tab _ ca_3) (hE.2.1 _ ca_3)) hce hcv hcl ?_
      refine lv_astore_n (lv' := [(2, .ref q9), (0, .ref (b + 0)), (1, .ref (b + 202))]) hx hb dL_undo_11 rfl hl (by decide) rfl (fun ls hl => ?_)
      refine lv_iconst (v := 1) hx hb dL_undo_12 (by decide) ?_
      cases hf
      refine W.widen (k := 1) (n := 6) (Nat.le_of_ble_eq_true rfl) (Nat.le_of_ble_eq_true rfl) ?_
      exact W.iret hx hb hr (fun u hu _ => ⟨⟨rfl, by rw [hu]; exact hW⟩, hS.F hu⟩) hS.2.2 dL_undo_13
    · have hf := ifn h0 hf
      cases hf
  · obtain ⟨y6, σ5⟩ := y4
    refine mVXn (k := 0) (q := (0, 0)) (C := RX4) (T := TX4) (N := 8) (ci := 4) (n := 0) (As := []) (rest := [.int 0, .ref (b + 202)]) (c_X4_undo l hfl D t b σ (.inr (y6, σ5)) u3) sh_0 (by decide) rfl rfl hx hb hml hown hts hE hW hS q979 q980 q981 q91 q982 hy_X4_undo ⟨rfl, rfl⟩ ⟨Nat.le_of_ble_eq_true rfl, Nat.le_of_ble_eq_true rfl⟩ rfl rfl hl.1 (Nat.le_of_ble_eq_true rfl) ⟨Nat.le_of_ble_eq_true rfl, Nat.le_of_ble_eq_true rfl⟩ dL_undo_3 (fun H locs hW hS => ?_)
    refine lv_i2l hx hb dL_undo_6 rfl ?_
    refine last (k := 202) (i := 0) (x := y6) rfl hx hb hE.1 hW hS sh_202 (vp_lit (by decide +kernel)) dL_undo_7 (fun H locs hW hS => ?_)
    obtain ⟨σ7, e8, hf⟩ := st_e hf
    rw [e8] at hW
    refine lv_goto (tgt := 14) hx hb dL_undo_8 (by decide) ?_
    refine lv_iconst (v := 0) hx hb dL_undo_14 (by decide) ?_
    cases hf
    refine W.widen (k := 1) (n := 6) (Nat.le_of_ble_eq_true rfl) (Nat.le_of_ble_eq_true rfl) ?_
    exact W.iret hx hb hr (fun u hu _ => ⟨⟨rfl, by rw [hu]; exact hW⟩, hS.F hu⟩) hS.2.2 dL_undo_15
def f_L_restoreSnapshot (σ : Sg) : Option (Int32 × Sg) := bw (f_X4_restoreSnapshot σ) (fun k => if k = 3 then (some (1, σ)) else (none)) (fun y => st (u2 y.2 202 (0 : Int32).toNatClampNeg y.1) fun σ7 => some (0, σ7))
set_option maxHeartbeats 4000000 in
set_option maxRecDepth 100000 in
theorem c_L_restoreSnapshot (l : Launch) (hfl : l.stackTraces = false) (D : va_G) (t : Nat → ClassId) (b : Nat) (σ : Sg) (r : Int32) (σr : Sg) (hf : f_L_restoreSnapshot σ = some (r, σr)) : Met l yL_restoreSnapshot (Cond.codeWith yL_restoreSnapshot cL_restoreSnapshot 3 (some .int) [(0, 8, 11, 17)] :: ALL) ({ frames := 7, cells := 1, slots := 6, locals := 143 }) (PM D t b σ [.ref (b + 0), .ref (b + 202)]) (QG D t b σr (some (.int r))) 1 6 (geA b) := by
  refine MetH (cc := cL_restoreSnapshot) (maxL := 3) (ret := (some .int)) (hh := [(0, 8, 11, 17)]) (by decide) rfl ?_
  intro p e s m args below meth c s₁ B hml hv
  obtain ⟨rfl, hW, hE⟩ := hv
  have hx := B.exec
  have hb := B.bytes
  have hr := B.returns
  have hts := atoms_spec (ws := Cond.codeWith yL_restoreSnapshot cL_restoreSnapshot 3 (some .int) [(0, 8, 11, 17)] :: ALL) B.pre
  have hta := fun w h => hts w (List.mem_cons_of_mem _ h)
  have htab : c.exceptionTable.toList = tableOf [(0, 8, 11, 17)] := vx_table (x := yL_restoreSnapshot) B (hts _ List.mem_cons_self)
  have hown : s.vm.findClass RL = some m.cls := findClass_of_methodNamed B.named
  have hlocks := B.notSynchronized
  have hS : va_S (geA b) s.heap s.heap [] := va_S.rf
  have hl := lv_entry ([.ref (b + 0), .ref (b + 202)]) (n := 3) (Nat.le_of_ble_eq_true rfl)
  rw [lg_entry_eq]
  generalize (lg_sl ([.ref (b + 0), .ref (b + 202)]) ++ List.replicate (3 - (lg_sl ([.ref (b + 0), .ref (b + 202)])).length) Slot.unset).toArray = ls at hl ⊢
  have hl : lv_has ls 3 [(0, .ref (b + 0)), (1, .ref (b + 202))] := hl
  unfold f_L_restoreSnapshot at hf
  refine lv_aload_n hx hb dL_restoreSnapshot_0 rfl (lv_at hl 1 rfl) ?_
  refine lv_iconst (v := 0) hx hb dL_restoreSnapshot_1 (by decide) ?_
  refine lv_aload_n hx hb dL_restoreSnapshot_2 rfl (lv_at hl 0 rfl) ?_
  rcases bw_e hf with ⟨k2, u3, hf⟩ | ⟨y4, u3, hf⟩
  · skip
    by_cases h0 : k2 = 3
    · have hf := ifp h0 hf
      subst h0
      refine mVX (k := 0) (q := (0, 0)) (C := RX4) (T := TX4) (N := 8) (ci := 4) (n := 0) (As := []) (rest := [.int 0, .ref (b + 202)]) (c_X4_restoreSnapshot l hfl D t b σ (.inl 3) u3) sh_0 (by decide) rfl rfl hx hb hml hown hts hE hW hS q987 q988 q989 q91 q990 hy_X4_restoreSnapshot ⟨rfl, rfl⟩ ⟨Nat.le_of_ble_eq_true rfl, Nat.le_of_ble_eq_true rfl⟩ rfl rfl hl.1 (Nat.le_of_ble_eq_true rfl) ⟨Nat.le_of_ble_eq_true rfl, Nat.le_of_ble_eq_true rfl⟩ dL_restoreSnapshot_3 (fun k2 σ2 hk H locs ce q9 hW hS hce hcv hcl => ?_) (fun _ _ hz => by cases hz)
      cases hk
      refine vx_catch (name := exn 3) hown [] ⟨0, 8, 11, 17⟩ [] htab (fun z hz => by cases hz) (by decide) (by decide) (hta _ lk_3) (va_Nw.use (NG_tab _ ca_3) (hE.2.1 _ ca_3)) hce hcv hcl ?_
      refine lv_astore_n (lv' := [(2, .ref q9), (0, .ref (b + 0)), (1, .ref (b + 202))]) hx hb dL_restoreSnapshot_11 rfl hl (by decide) rfl (fun ls hl => ?_)
      refine lv_iconst (v := 1) hx hb dL_restoreSnapshot_12 (by decide) ?_
      cases hf
      refine W.widen (k := 1) (n := 6) (Nat.le_of_ble_eq_true rfl) (Nat.le_of_ble_eq_true rfl) ?_
      exact W.iret hx hb hr (fun u hu _ => ⟨⟨rfl, by rw [hu]; exact hW⟩, hS.F hu⟩) hS.2.2 dL_restoreSnapshot_13
    · have hf := ifn h0 hf
      cases hf
  · obtain ⟨y6, σ5⟩ := y4
    refine mVXn (k := 0) (q := (0, 0)) (C := RX4) (T := TX4) (N := 8) (ci := 4) (n := 0) (As := []) (rest := [.int 0, .ref (b + 202)]) (c_X4_restoreSnapshot l hfl D t b σ (.inr (y6, σ5)) u3) sh_0 (by decide) rfl rfl hx hb hml hown hts hE hW hS q987 q988 q989 q91 q990 hy_X4_restoreSnapshot ⟨rfl, rfl⟩ ⟨Nat.le_of_ble_eq_true rfl, Nat.le_of_ble_eq_true rfl⟩ rfl rfl hl.1 (Nat.le_of_ble_eq_true rfl) ⟨Nat.le_of_ble_eq_true rfl, Nat.le_of_ble_eq_true rfl⟩ dL_restoreSnapshot_3 (fun H locs hW hS => ?_)
    refine lv_i2l hx hb dL_restoreSnapshot_6 rfl ?_
    refine last (k := 202) (i := 0) (x := y6) rfl hx hb hE.1 hW hS sh_202 (vp_lit (by decide +kernel)) dL_restoreSnapshot_7 (fun H locs hW hS => ?_)
    obtain ⟨σ7, e8, hf⟩ := st_e hf
    rw [e8] at hW
    refine lv_goto (tgt := 14) hx hb dL_restoreSnapshot_8 (by decide) ?_
    refine lv_iconst (v := 0) hx hb dL_restoreSnapshot_14 (by decide) ?_
    cases hf
    refine W.widen (k := 1) (n := 6) (Nat.le_of_ble_eq_true rfl) (Nat.le_of_ble_eq_true rfl) ?_
    exact W.iret hx hb hr (fun u hu _ => ⟨⟨rfl, by rw [hu]; exact hW⟩, hS.F hu⟩) hS.2.2 dL_restoreSnapshot_15
def f_L_pitchOf (σ : Sg) (p1 : Int32) : Option (Int32 × Sg) := bw (f_X4_pitchOf σ p1) (fun k => if k = 1 then (some (1, σ)) else (none)) (fun y4 => st (u2 σ 202 (0 : Int32).toNatClampNeg y4) fun σ5 => some (0, σ5))
set_option maxHeartbeats 4000000 in
set_option maxRecDepth 100000 in
theorem c_L_pitchOf (l : Launch) (hfl : l.stackTraces = false) (D : va_G) (t : Nat → ClassId) (b : Nat) (σ : Sg) (p1 : Int32) (r : Int32) (σr : Sg) (hf : f_L_pitchOf σ p1 = some (r, σr)) : Met l yL_pitchOf (Cond.codeWith yL_pitchOf cL_pitchOf 4 (some .int) [(0, 9, 12, 13)] :: ALL) ({ frames := 9, cells := 1, slots := 6, locals := 145 }) (PM D t b σ [.ref (b + 0), .int p1, .ref (b + 202)]) (QG D t b σr (some (.int r))) 1 6 (geA b) := by
  refine MetH (cc := cL_pitchOf) (maxL := 4) (ret := (some .int)) (hh := [(0, 9, 12, 13)]) (by decide) rfl ?_
  intro p e s m args below meth c s₁ B hml hv
  obtain ⟨rfl, hW, hE⟩ := hv
  have hx := B.exec
  have hb := B.bytes
  have hr := B.returns
  have hts := atoms_spec (ws := Cond.codeWith yL_pitchOf cL_pitchOf 4 (some .int) [(0, 9, 12, 13)] :: ALL) B.pre
  have hta := fun w h => hts w (List.mem_cons_of_mem _ h)
  have htab : c.exceptionTable.toList = tableOf [(0, 9, 12, 13)] := vx_table (x := yL_pitchOf) B (hts _ List.mem_cons_self)
  have hown : s.vm.findClass RL = some m.cls := findClass_of_methodNamed B.named
  have hlocks := B.notSynchronized
  have hS : va_S (geA b) s.heap s.heap [] := va_S.rf
  have hl := lv_entry ([.ref (b + 0), .int p1, .ref (b + 202)]) (n := 4) (Nat.le_of_ble_eq_true rfl)
  rw [lg_entry_eq]
  generalize (lg_sl ([.ref (b + 0), .int p1, .ref (b + 202)]) ++ List.replicate (4 - (lg_sl ([.ref (b + 0), .int p1, .ref (b + 202)])).length) Slot.unset).toArray = ls at hl ⊢
  have hl : lv_has ls 4 [(0, .ref (b + 0)), (1, .int p1), (2, .ref (b + 202))] := hl
  unfold f_L_pitchOf at hf
  refine lv_aload_n hx hb dL_pitchOf_0 rfl (lv_at hl 2 rfl) ?_
  refine lv_iconst (v := 0) hx hb dL_pitchOf_1 (by decide) ?_
  refine lv_aload_n hx hb dL_pitchOf_2 rfl (lv_at hl 0 rfl) ?_
  refine lv_iload_n hx hb dL_pitchOf_3 rfl (lv_at hl 1 rfl) ?_
  rcases bw_e hf with ⟨k2, u3, hf⟩ | ⟨y4, u3, hf⟩
  · skip
    by_cases h0 : k2 = 1
    · have hf := ifp h0 hf
      subst h0
      refine mVX (k := 0) (q := (0, 0)) (C := RX4) (T := TX4) (N := 8) (ci := 4) (n := 1) (As := [.int p1]) (rest := [.int 0, .ref (b + 202)]) (c_X4_pitchOf l hfl D t b σ p1 (.inl 1) u3) sh_0 (by decide) rfl rfl hx hb hml hown hts hE hW hS q995 q996 q997 q91 q998 hy_X4_pitchOf ⟨rfl, rfl⟩ ⟨Nat.le_of_ble_eq_true rfl, Nat.le_of_ble_eq_true rfl⟩ rfl rfl hl.1 (Nat.le_of_ble_eq_true rfl) ⟨Nat.le_of_ble_eq_true rfl, Nat.le_of_ble_eq_true rfl⟩ dL_pitchOf_4 (fun k2 σ2 hk H locs ce q9 hW hS hce hcv hcl => ?_) (fun _ _ hz => by cases hz)
      cases hk
      refine vx_catch (name := exn 1) hown [] ⟨0, 9, 12, 13⟩ [] htab (fun z hz => by cases hz) (by decide) (by decide) (hta _ lk_1) (va_Nw.use (NG_tab _ ca_1) (hE.2.1 _ ca_1)) hce hcv hcl ?_
      refine lv_astore_n (lv' := [(3, .ref q9), (0, .ref (b + 0)), (1, .int p1), (2, .ref (b + 202))]) hx hb dL_pitchOf_12 rfl hl (by decide) rfl (fun ls hl => ?_)
      refine lv_iconst (v := 1) hx hb dL_pitchOf_13 (by decide) ?_
      cases hf
      refine W.widen (k := 1) (n := 6) (Nat.le_of_ble_eq_true rfl) (Nat.le_of_ble_eq_true rfl) ?_
      exact W.iret hx hb hr (fun u hu _ => ⟨⟨rfl, by rw [hu]; exact hW⟩, hS.F hu⟩) hS.2.2 dL_pitchOf_14
    · have hf := ifn h0 hf
      cases hf
  · refine mVXn (k := 0) (q := (0, 0)) (C := RX4) (T := TX4) (N := 8) (ci := 4) (n := 1) (As := [.int p1]) (rest := [.int 0, .ref (b + 202)]) (c_X4_pitchOf l hfl D t b σ p1 (.inr y4) u3) sh_0 (by decide) rfl rfl hx hb hml hown hts hE hW hS q995 q996 q997 q91 q998 hy_X4_pitchOf ⟨rfl, rfl⟩ ⟨Nat.le_of_ble_eq_true rfl, Nat.le_of_ble_eq_true rfl⟩ rfl rfl hl.1 (Nat.le_of_ble_eq_true rfl) ⟨Nat.le_of_ble_eq_true rfl, Nat.le_of_ble_eq_true rfl⟩ dL_pitchOf_4 (fun H locs hW hS => ?_)
    refine lv_i2l hx hb dL_pitchOf_7 rfl ?_
    refine last (k := 202) (i := 0) (x := y4) rfl hx hb hE.1 hW hS sh_202 (vp_lit (by decide +kernel)) dL_pitchOf_8 (fun H locs hW hS => ?_)
    obtain ⟨σ5, e6, hf⟩ := st_e hf
    rw [e6] at hW
    refine lv_goto (tgt := 15) hx hb dL_pitchOf_9 (by decide) ?_
    refine lv_iconst (v := 0) hx hb dL_pitchOf_15 (by decide) ?_
    cases hf
    refine W.widen (k := 1) (n := 6) (Nat.le_of_ble_eq_true rfl) (Nat.le_of_ble_eq_true rfl) ?_
    exact W.iret hx hb hr (fun u hu _ => ⟨⟨rfl, by rw [hu]; exact hW⟩, hS.F hu⟩) hS.2.2 dL_pitchOf_16
def f_L_stallOn (σ : Sg) (p1 : Int32) : Option (Int32 × Sg) := bw (f_X4_stallOn σ p1) (fun k => if k = 1 then (some (1, σ)) else (none)) (fun y4 => st (u2 σ 202 (0 : Int32).toNatClampNeg y4) fun σ5 => some (0, σ5))
set_option maxHeartbeats 4000000 in
set_option maxRecDepth 100000 in
theorem c_L_stallOn (l : Launch) (hfl : l.stackTraces = false) (D : va_G) (t : Nat → ClassId) (b : Nat) (σ : Sg) (p1 : Int32) (r : Int32) (σr : Sg) (hf : f_L_stallOn σ p1 = some (r, σr)) : Met l yL_stallOn (Cond.codeWith yL_stallOn cL_stallOn 4 (some .int) [(0, 9, 12, 13)] :: ALL) ({ frames := 8, cells := 1, slots := 6, locals := 124 }) (PM D t b σ [.ref (b + 0), .int p1, .ref (b + 202)]) (QG D t b σr (some (.int r))) 1 6 (geA b) := by
  refine MetH (cc := cL_stallOn) (maxL := 4) (ret := (some .int)) (hh := [(0, 9, 12, 13)]) (by decide) rfl ?_
  intro p e s m args below meth c s₁ B hml hv
  obtain ⟨rfl, hW, hE⟩ := hv
  have hx := B.exec
  have hb := B.bytes
  have hr := B.returns
  have hts := atoms_spec (ws := Cond.codeWith yL_stallOn cL_stallOn 4 (some .int) [(0, 9, 12, 13)] :: ALL) B.pre
  have hta := fun w h => hts w (List.mem_cons_of_mem _ h)
  have htab : c.exceptionTable.toList = tableOf [(0, 9, 12, 13)] := vx_table (x := yL_stallOn) B (hts _ List.mem_cons_self)
  have hown : s.vm.findClass RL = some m.cls := findClass_of_methodNamed B.named
  have hlocks := B.notSynchronized
  have hS : va_S (geA b) s.heap s.heap [] := va_S.rf
  have hl := lv_entry ([.ref (b + 0), .int p1, .ref (b + 202)]) (n := 4) (Nat.le_of_ble_eq_true rfl)
  rw [lg_entry_eq]
  generalize (lg_sl ([.ref (b + 0), .int p1, .ref (b + 202)]) ++ List.replicate (4 - (lg_sl ([.ref (b + 0), .int p1, .ref (b + 202)])).length) Slot.unset).toArray = ls at hl ⊢
  have hl : lv_has ls 4 [(0, .ref (b + 0)), (1, .int p1), (2, .ref (b + 202))] := hl
  unfold f_L_stallOn at hf
  refine lv_aload_n hx hb dL_stallOn_0 rfl (lv_at hl 2 rfl) ?_
  refine lv_iconst (v := 0) hx hb dL_stallOn_1 (by decide) ?_
  refine lv_aload_n hx hb dL_stallOn_2 rfl (lv_at hl 0 rfl) ?_
  refine lv_iload_n hx hb dL_stallOn_3 rfl (lv_at hl 1 rfl) ?_
  rcases bw_e hf with ⟨k2, u3, hf⟩ | ⟨y4, u3, hf⟩
  · skip
    by_cases h0 : k2 = 1
    · have hf := ifp h0 hf
      subst h0
      refine mVX (k := 0) (q := (0, 0)) (C := RX4) (T := TX4) (N := 8) (ci := 4) (n := 1) (As := [.int p1]) (rest := [.int 0, .ref (b + 202)]) (c_X4_stallOn l hfl D t b σ p1 (.inl 1) u3) sh_0 (by decide) rfl rfl hx hb hml hown hts hE hW hS q1002 q1003 q1004 q91 q1005 hy_X4_stallOn ⟨rfl, rfl⟩ ⟨Nat.le_of_ble_eq_true rfl, Nat.le_of_ble_eq_true rfl⟩ rfl rfl hl.1 (Nat.le_of_ble_eq_true rfl) ⟨Nat.le_of_ble_eq_true rfl, Nat.le_of_ble_eq_true rfl⟩ dL_stallOn_4 (fun k2 σ2 hk H locs ce q9 hW hS hce hcv hcl => ?_) (fun _ _ hz => by cases hz)
      cases hk
      refine vx_catch (name := exn 1) hown [] ⟨0, 9, 12, 13⟩ [] htab (fun z hz => by cases hz) (by decide) (by decide) (hta _ lk_1) (va_Nw.use (NG_tab _ ca_1) (hE.2.1 _ ca_1)) hce hcv hcl ?_
      refine lv_astore_n (lv' := [(3, .ref q9), (0, .ref (b + 0)), (1, .int p1), (2, .ref (b + 202))]) hx hb dL_stallOn_12 rfl hl (by decide) rfl (fun ls hl => ?_)
      refine lv_iconst (v := 1) hx hb dL_stallOn_13 (by decide) ?_
      cases hf
      refine W.widen (k := 1) (n := 6) (Nat.le_of_ble_eq_true rfl) (Nat.le_of_ble_eq_true rfl) ?_
      exact W.iret hx hb hr (fun u hu _ => ⟨⟨rfl, by rw [hu]; exact hW⟩, hS.F hu⟩) hS.2.2 dL_stallOn_14
    · have hf := ifn h0 hf
      cases hf
  · refine mVXn (k := 0) (q := (0, 0)) (C := RX4) (T := TX4) (N := 8) (ci := 4) (n := 1) (As := [.int p1]) (rest := [.int 0, .ref (b + 202)]) (c_X4_stallOn l hfl D t b σ p1 (.inr y4) u3) sh_0 (by decide) rfl rfl hx hb hml hown hts hE hW hS q1002 q1003 q1004 q91 q1005 hy_X4_stallOn ⟨rfl, rfl⟩ ⟨Nat.le_of_ble_eq_true rfl, Nat.le_of_ble_eq_true rfl⟩ rfl rfl hl.1 (Nat.le_of_ble_eq_true rfl) ⟨Nat.le_of_ble_eq_true rfl, Nat.le_of_ble_eq_true rfl⟩ dL_stallOn_4 (fun H locs hW hS => ?_)
    refine lv_i2l hx hb dL_stallOn_7 rfl ?_
    refine last (k := 202) (i := 0) (x := y4) rfl hx hb hE.1 hW hS sh_202 (vp_lit (by decide +kernel)) dL_stallOn_8 (fun H locs hW hS => ?_)
    obtain ⟨σ5, e6, hf⟩ := st_e hf
    rw [e6] at hW
    refine lv_goto (tgt := 15) hx hb dL_stallOn_9 (by decide) ?_
    refine lv_iconst (v := 0) hx hb dL_stallOn_15 (by decide) ?_
    cases hf
    refine W.widen (k := 1) (n := 6) (Nat.le_of_ble_eq_true rfl) (Nat.le_of_ble_eq_true rfl) ?_
    exact W.iret hx hb hr (fun u hu _ => ⟨⟨rfl, by rw [hu]; exact hW⟩, hS.F hu⟩) hS.2.2 dL_stallOn_16
def f_L_priceOf (σ : Sg) (p1 : Int32) : Option (Int32 × Sg) := bw (f_X4_priceOf σ p1) (fun k => if k = 1 then (some (1, σ)) else (none)) (fun y4 => st (u2 σ 202 (0 : Int32).toNatClampNeg y4) fun σ5 => some (0, σ5))
set_option maxHeartbeats 4000000 in
set_option maxRecDepth 100000 in
theorem c_L_priceOf (l : Launch) (hfl : l.stackTraces = false) (D : va_G) (t : Nat → ClassId) (b : Nat) (σ : Sg) (p1 : Int32) (r : Int32) (σr : Sg) (hf : f_L_priceOf σ p1 = some (r, σr)) : Met l yL_priceOf (Cond.codeWith yL_priceOf cL_priceOf 4 (some .int) [(0, 9, 12, 13)] :: ALL) ({ frames := 9, cells := 1, slots := 6, locals := 145 }) (PM D t b σ [.ref (b + 0), .int p1, .ref (b + 202)]) (QG D t b σr (some (.int r))) 1 6 (geA b) := by
  refine MetH (cc := cL_priceOf) (maxL := 4) (ret := (some .int)) (hh := [(0, 9, 12, 13)]) (by decide) rfl ?_
  intro p e s m args below meth c s₁ B hml hv
  obtain ⟨rfl, hW, hE⟩ := hv
  have hx := B.exec
  have hb := B.bytes
  have hr := B.returns
  have hts := atoms_spec (ws := Cond.codeWith yL_priceOf cL_priceOf 4 (some .int) [(0, 9, 12, 13)] :: ALL) B.pre
  have hta := fun w h => hts w (List.mem_cons_of_mem _ h)
  have htab : c.exceptionTable.toList = tableOf [(0, 9, 12, 13)] := vx_table (x := yL_priceOf) B (hts _ List.mem_cons_self)
  have hown : s.vm.findClass RL = some m.cls := findClass_of_methodNamed B.named
  have hlocks := B.notSynchronized
  have hS : va_S (geA b) s.heap s.heap [] := va_S.rf
  have hl := lv_entry ([.ref (b + 0), .int p1, .ref (b + 202)]) (n := 4) (Nat.le_of_ble_eq_true rfl)
  rw [lg_entry_eq]
  generalize (lg_sl ([.ref (b + 0), .int p1, .ref (b + 202)]) ++ List.replicate (4 - (lg_sl ([.ref (b + 0), .int p1, .ref (b + 202)])).length) Slot.unset).toArray = ls at hl ⊢
  have hl : lv_has ls 4 [(0, .ref (b + 0)), (1, .int p1), (2, .ref (b + 202))] := hl
  unfold f_L_priceOf at hf
  refine lv_aload_n hx hb dL_priceOf_0 rfl (lv_at hl 2 rfl) ?_
  refine lv_iconst (v := 0) hx hb dL_priceOf_1 (by decide) ?_
  refine lv_aload_n hx hb dL_priceOf_2 rfl (lv_at hl 0 rfl) ?_
  refine lv_iload_n hx hb dL_priceOf_3 rfl (lv_at hl 1 rfl) ?_
  rcases bw_e hf with ⟨k2, u3, hf⟩ | ⟨y4, u3, hf⟩
  · skip
    by_cases h0 : k2 = 1
    · have hf := ifp h0 hf
      subst h0
      refine mVX (k := 0) (q := (0, 0)) (C := RX4) (T := TX4) (N := 8) (ci := 4) (n := 1) (As := [.int p1]) (rest := [.int 0, .ref (b + 202)]) (c_X4_priceOf l hfl D t b σ p1 (.inl 1) u3) sh_0 (by decide) rfl rfl hx hb hml hown hts hE hW hS q1010 q1011 q1012 q91 q1013 hy_X4_priceOf ⟨rfl, rfl⟩ ⟨Nat.le_of_ble_eq_true rfl, Nat.le_of_ble_eq_true rfl⟩ rfl rfl hl.1 (Nat.le_of_ble_eq_true rfl) ⟨Nat.le_of_ble_eq_true rfl, Nat.le_of_ble_eq_true rfl⟩ dL_priceOf_4 (fun k2 σ2 hk H locs ce q9 hW hS hce hcv hcl => ?_) (fun _ _ hz => by cases hz)
      cases hk
      refine vx_catch (name := exn 1) hown [] ⟨0, 9, 12, 13⟩ [] htab (fun z hz => by cases hz) (by decide) (by decide) (hta _ lk_1) (va_Nw.use (NG_tab _ ca_1) (hE.2.1 _ ca_1)) hce hcv hcl ?_
      refine lv_astore_n (lv' := [(3, .ref q9), (0, .ref (b + 0)), (1, .int p1), (2, .ref (b + 202))]) hx hb dL_priceOf_12 rfl hl (by decide) rfl (fun ls hl => ?_)
      refine lv_iconst (v := 1) hx hb dL_priceOf_13 (by decide) ?_
      cases hf
      refine W.widen (k := 1) (n := 6) (Nat.le_of_ble_eq_true rfl) (Nat.le_of_ble_eq_true rfl) ?_
      exact W.iret hx hb hr (fun u hu _ => ⟨⟨rfl, by rw [hu]; exact hW⟩, hS.F hu⟩) hS.2.2 dL_priceOf_14
    · have hf := ifn h0 hf
      cases hf
  · refine mVXn (k := 0) (q := (0, 0)) (C := RX4) (T := TX4) (N := 8) (ci := 4) (n := 1) (As := [.int p1]) (rest := [.int 0, .ref (b + 202)]) (c_X4_priceOf l hfl D t b σ p1 (.inr y4) u3) sh_0 (by decide) rfl rfl hx hb hml hown hts hE hW hS q1010 q1011 q1012 q91 q1013 hy_X4_priceOf ⟨rfl, rfl⟩ ⟨Nat.le_of_ble_eq_true rfl, Nat.le_of_ble_eq_true rfl⟩ rfl rfl hl.1 (Nat.le_of_ble_eq_true rfl) ⟨Nat.le_of_ble_eq_true rfl, Nat.le_of_ble_eq_true rfl⟩ dL_priceOf_4 (fun H locs hW hS => ?_)
    refine lv_i2l hx hb dL_priceOf_7 rfl ?_
    refine last (k := 202) (i := 0) (x := y4) rfl hx hb hE.1 hW hS sh_202 (vp_lit (by decide +kernel)) dL_priceOf_8 (fun H locs hW hS => ?_)
    obtain ⟨σ5, e6, hf⟩ := st_e hf
    rw [e6] at hW
    refine lv_goto (tgt := 15) hx hb dL_priceOf_9 (by decide) ?_
    refine lv_iconst (v := 0) hx hb dL_priceOf_15 (by decide) ?_
    cases hf
    refine W.widen (k := 1) (n := 6) (Nat.le_of_ble_eq_true rfl) (Nat.le_of_ble_eq_true rfl) ?_
    exact W.iret hx hb hr (fun u hu _ => ⟨⟨rfl, by rw [hu]; exact hW⟩, hS.F hu⟩) hS.2.2 dL_priceOf_16
def f_L_isOpen (σ : Sg) (p1 : Int32) : Option (Int32 × Sg) := bw (f_X4_isOpen σ p1) (fun k => if k = 1 then (some (1, σ)) else (none)) (fun y4 => if y4 = 0 then (st (u2 σ 202 (0 : Int32).toNatClampNeg 0) fun σ6 => some (0, σ6)) else (st (u2 σ 202 (0 : Int32).toNatClampNeg 1) fun σ8 => some (0, σ8)))
set_option maxHeartbeats 4000000 in
set_option maxRecDepth 100000 in
theorem c_L_isOpen (l : Launch) (hfl : l.stackTraces = false) (D : va_G) (t : Nat → ClassId) (b : Nat) (σ : Sg) (p1 : Int32) (r : Int32) (σr : Sg) (hf : f_L_isOpen σ p1 = some (r, σr)) : Met l yL_isOpen (Cond.codeWith yL_isOpen cL_isOpen 4 (some .int) [(0, 16, 19, 13)] :: ALL) ({ frames := 9, cells := 1, slots := 6, locals := 145 }) (PM D t b σ [.ref (b + 0), .int p1, .ref (b + 202)]) (QG D t b σr (some (.int r))) 1 6 (geA b) := by
  refine MetH (cc := cL_isOpen) (maxL := 4) (ret := (some .int)) (hh := [(0, 16, 19, 13)]) (by decide) rfl ?_
  intro p e s m args below meth c s₁ B hml hv
  obtain ⟨rfl, hW, hE⟩ := hv
  have hx := B.exec
  have hb := B.bytes
  have hr := B.returns
  have hts := atoms_spec (ws := Cond.codeWith yL_isOpen cL_isOpen 4 (some .int) [(0, 16, 19, 13)] :: ALL) B.pre
  have hta := fun w h => hts w (List.mem_cons_of_mem _ h)
  have htab : c.exceptionTable.toList = tableOf [(0, 16, 19, 13)] := vx_table (x := yL_isOpen) B (hts _ List.mem_cons_self)
  have hown : s.vm.findClass RL = some m.cls := findClass_of_methodNamed B.named
  have hlocks := B.notSynchronized
  have hS : va_S (geA b) s.heap s.heap [] := va_S.rf
  have hl := lv_entry ([.ref (b + 0), .int p1, .ref (b + 202)]) (n := 4) (Nat.le_of_ble_eq_true rfl)
  rw [lg_entry_eq]
  generalize (lg_sl ([.ref (b + 0), .int p1, .ref (b + 202)]) ++ List.replicate (4 - (lg_sl ([.ref (b + 0), .int p1, .ref (b + 202)])).length) Slot.unset).toArray = ls at hl ⊢
  have hl : lv_has ls 4 [(0, .ref (b + 0)), (1, .int p1), (2, .ref (b + 202))] := hl
  unfold f_L_isOpen at hf
  refine lv_aload_n hx hb dL_isOpen_0 rfl (lv_at hl 2 rfl) ?_
  refine lv_iconst (v := 0) hx hb dL_isOpen_1 (by decide) ?_
  refine lv_aload_n hx hb dL_isOpen_2 rfl (lv_at hl 0 rfl) ?_
  refine lv_iload_n hx hb dL_isOpen_3 rfl (lv_at hl 1 rfl) ?_
  rcases bw_e hf with ⟨k2, u3, hf⟩ | ⟨y4, u3, hf⟩
  · skip
    by_cases h0 : k2 = 1
    · have hf := ifp h0 hf
      subst h0
      refine mVX (k := 0) (q := (0, 0)) (C := RX4) (T := TX4) (N := 8) (ci := 4) (n := 1) (As := [.int p1]) (rest := [.int 0, .ref (b + 202)]) (c_X4_isOpen l hfl D t b σ p1 (.inl 1) u3) sh_0 (by decide) rfl rfl hx hb hml hown hts hE hW hS q1017 q1018 q1019 q91 q1020 hy_X4_isOpen ⟨rfl, rfl⟩ ⟨Nat.le_of_ble_eq_true rfl, Nat.le_of_ble_eq_true rfl⟩ rfl rfl hl.1 (Nat.le_of_ble_eq_true rfl) ⟨Nat.le_of_ble_eq_true rfl, Nat.le_of_ble_eq_true rfl⟩ dL_isOpen_4 (fun k2 σ2 hk H locs ce q9 hW hS hce hcv hcl => ?_) (fun _ _ hz => by cases hz)
      cases hk
      refine vx_catch (name := exn 1) hown [] ⟨0, 16, 19, 13⟩ [] htab (fun z hz => by cases hz) (by decide) (by decide) (hta _ lk_1) (va_Nw.use (NG_tab _ ca_1) (hE.2.1 _ ca_1)) hce hcv hcl ?_
      refine lv_astore_n (lv' := [(3, .ref q9), (0, .ref (b + 0)), (1, .int p1), (2, .ref (b + 202))]) hx hb dL_isOpen_19 rfl hl (by decide) rfl (fun ls hl => ?_)
      refine lv_iconst (v := 1) hx hb dL_isOpen_20 (by decide) ?_
      cases hf
      refine W.widen (k := 1) (n := 6) (Nat.le_of_ble_eq_true rfl) (Nat.le_of_ble_eq_true rfl) ?_
      exact W.iret hx hb hr (fun u hu _ => ⟨⟨rfl, by rw [hu]; exact hW⟩, hS.F hu⟩) hS.2.2 dL_isOpen_21
    · have hf := ifn h0 hf
      cases hf
  · refine mVXn (k := 0) (q := (0, 0)) (C := RX4) (T := TX4) (N := 8) (ci := 4) (n := 1) (As := [.int p1]) (rest := [.int 0, .ref (b + 202)]) (c_X4_isOpen l hfl D t b σ p1 (.inr y4) u3) sh_0 (by decide) rfl rfl hx hb hml hown hts hE hW hS q1017 q1018 q1019 q91 q1020 hy_X4_isOpen ⟨rfl, rfl⟩ ⟨Nat.le_of_ble_eq_true rfl, Nat.le_of_ble_eq_true rfl⟩ rfl rfl hl.1 (Nat.le_of_ble_eq_true rfl) ⟨Nat.le_of_ble_eq_true rfl, Nat.le_of_ble_eq_true rfl⟩ dL_isOpen_4 (fun H locs hW hS => ?_)
    refine lv_if_eq (tgt := 14) hx hb dL_isOpen_7 (by decide) (fun h5 => ?_) (fun h5 => ?_)
    · have hf := ifp h5 hf
      refine lv_lconst (v := (0 : Int32).toInt64) hx hb dL_isOpen_14 (by decide) ?_
      refine last (k := 202) (i := 0) (x := 0) rfl hx hb hE.1 hW hS sh_202 (vp_lit (by decide +kernel)) dL_isOpen_15 (fun H locs hW hS => ?_)
      obtain ⟨σ6, e7, hf⟩ := st_e hf
      rw [e7] at hW
      refine lv_goto (tgt := 22) hx hb dL_isOpen_16 (by decide) ?_
      refine lv_iconst (v := 0) hx hb dL_isOpen_22 (by decide) ?_
      cases hf
      refine W.widen (k := 1) (n := 6) (Nat.le_of_ble_eq_true rfl) (Nat.le_of_ble_eq_true rfl) ?_
      exact W.iret hx hb hr (fun u hu _ => ⟨⟨rfl, by rw [hu]; exact hW⟩, hS.F hu⟩) hS.2.2 dL_isOpen_23
    · have hf := ifn h5 hf
      refine lv_lconst (v := (1 : Int32).toInt64) hx hb dL_isOpen_10 (by decide) ?_
      refine lv_goto (tgt := 15) hx hb dL_isOpen_11 (by decide) ?_
      refine last (k := 202) (i := 0) (x := 1) rfl hx hb hE.1 hW hS sh_202 (vp_lit (by decide +kernel)) dL_isOpen_15 (fun H locs hW hS => ?_)
      obtain ⟨σ8, e9, hf⟩ := st_e hf
      rw [e9] at hW
      refine lv_goto (tgt := 22) hx hb dL_isOpen_16 (by decide) ?_
      refine lv_iconst (v := 0) hx hb dL_isOpen_22 (by decide) ?_
      cases hf
      refine W.widen (k := 1) (n := 6) (Nat.le_of_ble_eq_true rfl) (Nat.le_of_ble_eq_true rfl) ?_
      exact W.iret hx hb hr (fun u hu _ => ⟨⟨rfl, by rw [hu]; exact hW⟩, hS.F hu⟩) hS.2.2 dL_isOpen_23
def f_L_purseOfStall (σ : Sg) (p1 : Int32) : Option (Int32 × Sg) := bw (f_X4_purseOfStall σ p1) (fun k => if k = 1 then (some (1, σ)) else (none)) (fun y4 => st (u2 σ 202 (0 : Int32).toNatClampNeg y4) fun σ5 => some (0, σ5))
set_option maxHeartbeats 4000000 in
set_option maxRecDepth 100000 in
theorem c_L_purseOfStall (l : Launch) (hfl : l.stackTraces = false) (D : va_G) (t : Nat → ClassId) (b : Nat) (σ : Sg) (p1 : Int32) (r : Int32) (σr : Sg) (hf : f_L_purseOfStall σ p1 = some (r, σr)) : Met l yL_purseOfStall (Cond.codeWith yL_purseOfStall cL_purseOfStall 4 (some .int) [(0, 9, 12, 13)] :: ALL) ({ frames := 9, cells := 1, slots := 6, locals := 145 }) (PM D t b σ [.ref (b + 0), .int p1, .ref (b + 202)]) (QG D t b σr (some (.int r))) 1 6 (geA b) := by
  refine MetH (cc := cL_purseOfStall) (maxL := 4) (ret := (some .int)) (hh := [(0, 9, 12, 13)]) (by decide) rfl ?_
  intro p e s m args below meth c s₁ B hml hv
  obtain ⟨rfl, hW, hE⟩ := hv
  have hx := B.exec
  have hb := B.bytes
  have hr := B.returns
  have hts := atoms_spec (ws := Cond.codeWith yL_purseOfStall cL_purseOfStall 4 (some .int) [(0, 9, 12, 13)] :: ALL) B.pre
  have hta := fun w h => hts w (List.mem_cons_of_mem _ h)
  have htab : c.exceptionTable.toList = tableOf [(0, 9, 12, 13)] := vx_table (x := yL_purseOfStall) B (hts _ List.mem_cons_self)
  have hown : s.vm.findClass RL = some m.cls := findClass_of_methodNamed B.named
  have hlocks := B.notSynchronized
  have hS : va_S (geA b) s.heap s.heap [] := va_S.rf
  have hl := lv_entry ([.ref (b + 0), .int p1, .ref (b + 202)]) (n := 4) (Nat.le_of_ble_eq_true rfl)
  rw [lg_entry_eq]
  generalize (lg_sl ([.ref (b + 0), .int p1, .ref (b + 202)]) ++ List.replicate (4 - (lg_sl ([.ref (b + 0), .int p1, .ref (b + 202)])).length) Slot.unset).toArray = ls at hl ⊢
  have hl : lv_has ls 4 [(0, .ref (b + 0)), (1, .int p1), (2, .ref (b + 202))] := hl
  unfold f_L_purseOfStall at hf
  refine lv_aload_n hx hb dL_purseOfStall_0 rfl (lv_at hl 2 rfl) ?_
  refine lv_iconst (v := 0) hx hb dL_purseOfStall_1 (by decide) ?_
  refine lv_aload_n hx hb dL_purseOfStall_2 rfl (lv_at hl 0 rfl) ?_
  refine lv_iload_n hx hb dL_purseOfStall_3 rfl (lv_at hl 1 rfl) ?_
  rcases bw_e hf with ⟨k2, u3, hf⟩ | ⟨y4, u3, hf⟩
  · skip
    by_cases h0 : k2 = 1
    · have hf := ifp h0 hf
      subst h0
      refine mVX (k := 0) (q := (0, 0)) (C := RX4) (T := TX4) (N := 8) (ci := 4) (n := 1) (As := [.int p1]) (rest := [.int 0, .ref (b + 202)]) (c_X4_purseOfStall l hfl D t b σ p1 (.inl 1) u3) sh_0 (by decide) rfl rfl hx hb hml hown hts hE hW hS q1024 q1025 q1026 q91 q1027 hy_X4_purseOfStall ⟨rfl, rfl⟩ ⟨Nat.le_of_ble_eq_true rfl, Nat.le_of_ble_eq_true rfl⟩ rfl rfl hl.1 (Nat.le_of_ble_eq_true rfl) ⟨Nat.le_of_ble_eq_true rfl, Nat.le_of_ble_eq_true rfl⟩ dL_purseOfStall_4 (fun k2 σ2 hk H locs ce q9 hW hS hce hcv hcl => ?_) (fun _ _ hz => by cases hz)
      cases hk
      refine vx_catch (name := exn 1) hown [] ⟨0, 9, 12, 13⟩ [] htab (fun z hz => by cases hz) (by decide) (by decide) (hta _ lk_1) (va_Nw.use (NG_tab _ ca_1) (hE.2.1 _ ca_1)) hce hcv hcl ?_
      refine lv_astore_n (lv' := [(3, .ref q9), (0, .ref (b + 0)), (1, .int p1), (2, .ref (b + 202))]) hx hb dL_purseOfStall_12 rfl hl (by decide) rfl (fun ls hl => ?_)
      refine lv_iconst (v := 1) hx hb dL_purseOfStall_13 (by decide) ?_
      cases hf
      refine W.widen (k := 1) (n := 6) (Nat.le_of_ble_eq_true rfl) (Nat.le_of_ble_eq_true rfl) ?_
      exact W.iret hx hb hr (fun u hu _ => ⟨⟨rfl, by rw [hu]; exact hW⟩, hS.F hu⟩) hS.2.2 dL_purseOfStall_14
    · have hf := ifn h0 hf
      cases hf
  · refine mVXn (k := 0) (q := (0, 0)) (C := RX4) (T := TX4) (N := 8) (ci := 4) (n := 1) (As := [.int p1]) (rest := [.int 0, .ref (b + 202)]) (c_X4_purseOfStall l hfl D t b σ p1 (.inr y4) u3) sh_0 (by decide) rfl rfl hx hb hml hown hts hE hW hS q1024 q1025 q1026 q91 q1027 hy_X4_purseOfStall ⟨rfl, rfl⟩ ⟨Nat.le_of_ble_eq_true rfl, Nat.le_of_ble_eq_true rfl⟩ rfl rfl hl.1 (Nat.le_of_ble_eq_true rfl) ⟨Nat.le_of_ble_eq_true rfl, Nat.le_of_ble_eq_true rfl⟩ dL_purseOfStall_4 (fun H locs hW hS => ?_)
    refine lv_i2l hx hb dL_purseOfStall_7 rfl ?_
    refine last (k := 202) (i := 0) (x := y4) rfl hx hb hE.1 hW hS sh_202 (vp_lit (by decide +kernel)) dL_purseOfStall_8 (fun H locs hW hS => ?_)
    obtain ⟨σ5, e6, hf⟩ := st_e hf
    rw [e6] at hW
    refine lv_goto (tgt := 15) hx hb dL_purseOfStall_9 (by decide) ?_
    refine lv_iconst (v := 0) hx hb dL_purseOfStall_15 (by decide) ?_
    cases hf
    refine W.widen (k := 1) (n := 6) (Nat.le_of_ble_eq_true rfl) (Nat.le_of_ble_eq_true rfl) ?_
    exact W.iret hx hb hr (fun u hu _ => ⟨⟨rfl, by rw [hu]; exact hW⟩, hS.F hu⟩) hS.2.2 dL_purseOfStall_16
def f_L_playsOf (σ : Sg) (p1 : Int32) : Option (Int32 × Sg) := bw (f_X4_playsOf σ p1) (fun k => if k = 1 then (some (1, σ)) else (none)) (fun y4 => st (u2 σ 202 (0 : Int32).toNatClampNeg y4) fun σ5 => some (0, σ5))
set_option maxHeartbeats 4000000 in
set_option maxRecDepth 100000 in
theorem c_L_playsOf (l : Launch) (hfl : l.stackTraces = false) (D : va_G) (t : Nat → ClassId) (b : Nat) (σ : Sg) (p1 : Int32) (r : Int32) (σr : Sg) (hf : f_L_playsOf σ p1 = some (r, σr)) : Met l yL_playsOf (Cond.codeWith yL_playsOf cL_playsOf 4 (some .int) [(0, 9, 12, 13)] :: ALL) ({ frames := 9, cells := 1, slots := 6, locals := 145 }) (PM D t b σ [.ref (b + 0), .int p1, .ref (b + 202)]) (QG D t b σr (some (.int r))) 1 6 (geA b) := by
  refine MetH (cc := cL_playsOf) (maxL := 4) (ret := (some .int)) (hh := [(0, 9, 12, 13)]) (by decide) rfl ?_
  intro p e s m args below meth c s₁ B hml hv
  obtain ⟨rfl, hW, hE⟩ := hv
  have hx := B.exec
  have hb := B.bytes
  have hr := B.returns
  have hts := atoms_spec (ws := Cond.codeWith yL_playsOf cL_playsOf 4 (some .int) [(0, 9, 12, 13)] :: ALL) B.pre
  have hta := fun w h => hts w (List.mem_cons_of_mem _ h)
  have htab : c.exceptionTable.toList = tableOf [(0, 9, 12, 13)] := vx_table (x := yL_playsOf) B (hts _ List.mem_cons_self)
  have hown : s.vm.findClass RL = some m.cls := findClass_of_methodNamed B.named
  have hlocks := B.notSynchronized
  have hS : va_S (geA b) s.heap s.heap [] := va_S.rf
  have hl := lv_entry ([.ref (b + 0), .int p1, .ref (b + 202)]) (n := 4) (Nat.le_of_ble_eq_true rfl)
  rw [lg_entry_eq]
  generalize (lg_sl ([.ref (b + 0), .int p1, .ref (b + 202)]) ++ List.replicate (4 - (lg_sl ([.ref (b + 0), .int p1, .ref (b + 202)])).length) Slot.unset).toArray = ls at hl ⊢
  have hl : lv_has ls 4 [(0, .ref (b + 0)), (1, .int p1), (2, .ref (b + 202))] := hl
  unfold f_L_playsOf at hf
  refine lv_aload_n hx hb dL_playsOf_0 rfl (lv_at hl 2 rfl) ?_
  refine lv_iconst (v := 0) hx hb dL_playsOf_1 (by decide) ?_
  refine lv_aload_n hx hb dL_playsOf_2 rfl (lv_at hl 0 rfl) ?_
  refine lv_iload_n hx hb dL_playsOf_3 rfl (lv_at hl 1 rfl) ?_
  rcases bw_e hf with ⟨k2, u3, hf⟩ | ⟨y4, u3, hf⟩
  · skip
    by_cases h0 : k2 = 1
    · have hf := ifp h0 hf
      subst h0
      refine mVX (k := 0) (q := (0, 0)) (C := RX4) (T := TX4) (N := 8) (ci := 4) (n := 1) (As := [.int p1]) (rest := [.int 0, .ref (b + 202)]) (c_X4_playsOf l hfl D t b σ p1 (.inl 1) u3) sh_0 (by decide) rfl rfl hx hb hml hown hts hE hW hS q1031 q1032 q1033 q91 q1034 hy_X4_playsOf ⟨rfl, rfl⟩ ⟨Nat.le_of_ble_eq_true rfl, Nat.le_of_ble_eq_true rfl⟩ rfl rfl hl.1 (Nat.le_of_ble_eq_true rfl) ⟨Nat.le_of_ble_eq_true rfl, Nat.le_of_ble_eq_true rfl⟩ dL_playsOf_4 (fun k2 σ2 hk H locs ce q9 hW hS hce hcv hcl => ?_) (fun _ _ hz => by cases hz)
      cases hk
      refine vx_catch (name := exn 1) hown [] ⟨0, 9, 12, 13⟩ [] htab (fun z hz => by cases hz) (by decide) (by decide) (hta _ lk_1) (va_Nw.use (NG_tab _ ca_1) (hE.2.1 _ ca_1)) hce hcv hcl ?_
      refine lv_astore_n (lv' := [(3, .ref q9), (0, .ref (b + 0)), (1, .int p1), (2, .ref (b + 202))]) hx hb dL_playsOf_12 rfl hl (by decide) rfl (fun ls hl => ?_)
      refine lv_iconst (v := 1) hx hb dL_playsOf_13 (by decide) ?_
      cases hf
      refine W.widen (k := 1) (n := 6) (Nat.le_of_ble_eq_true rfl) (Nat.le_of_ble_eq_true rfl) ?_
      exact W.iret hx hb hr (fun u hu _ => ⟨⟨rfl, by rw [hu]; exact hW⟩, hS.F hu⟩) hS.2.2 dL_playsOf_14
    · have hf := ifn h0 hf
      cases hf
  · refine mVXn (k := 0) (q := (0, 0)) (C := RX4) (T := TX4) (N := 8) (ci := 4) (n := 1) (As := [.int p1]) (rest := [.int 0, .ref (b + 202)]) (c_X4_playsOf l hfl D t b σ p1 (.inr y4) u3) sh_0 (by decide) rfl rfl hx hb hml hown hts hE hW hS q1031 q1032 q1033 q91 q1034 hy_X4_playsOf ⟨rfl, rfl⟩ ⟨Nat.le_of_ble_eq_true rfl, Nat.le_of_ble_eq_true rfl⟩ rfl rfl hl.1 (Nat.le_of_ble_eq_true rfl) ⟨Nat.le_of_ble_eq_true rfl, Nat.le_of_ble_eq_true rfl⟩ dL_playsOf_4 (fun H locs hW hS => ?_)
    refine lv_i2l hx hb dL_playsOf_7 rfl ?_
    refine last (k := 202) (i := 0) (x := y4) rfl hx hb hE.1 hW hS sh_202 (vp_lit (by decide +kernel)) dL_playsOf_8 (fun H locs hW hS => ?_)
    obtain ⟨σ5, e6, hf⟩ := st_e hf
    rw [e6] at hW
    refine lv_goto (tgt := 15) hx hb dL_playsOf_9 (by decide) ?_
    refine lv_iconst (v := 0) hx hb dL_playsOf_15 (by decide) ?_
    cases hf
    refine W.widen (k := 1) (n := 6) (Nat.le_of_ble_eq_true rfl) (Nat.le_of_ble_eq_true rfl) ?_
    exact W.iret hx hb hr (fun u hu _ => ⟨⟨rfl, by rw [hu]; exact hW⟩, hS.F hu⟩) hS.2.2 dL_playsOf_16
def f_L_rentOf (σ : Sg) (p1 : Int32) : Option (Int32 × Sg) := bw (f_X4_rentOf σ p1) (fun k => if k = 1 then (some (1, σ)) else (none)) (fun y4 => st (u2 σ 202 (0 : Int32).toNatClampNeg y4) fun σ5 => some (0, σ5))
set_option maxHeartbeats 4000000 in
set_option maxRecDepth 100000 in
theorem c_L_rentOf (l : Launch) (hfl : l.stackTraces = false) (D : va_G) (t : Nat → ClassId) (b : Nat) (σ : Sg) (p1 : Int32) (r : Int32) (σr : Sg) (hf : f_L_rentOf σ p1 = some (r, σr)) : Met l yL_rentOf (Cond.codeWith yL_rentOf cL_rentOf 4 (some .int) [(0, 9, 12, 13)] :: ALL) ({ frames := 9, cells := 1, slots := 6, locals := 145 }) (PM D t b σ [.ref (b + 0), .int p1, .ref (b + 202)]) (QG D t b σr (some (.int r))) 1 6 (geA b) := by
  refine MetH (cc := cL_rentOf) (maxL := 4) (ret := (some .int)) (hh := [(0, 9, 12, 13)]) (by decide) rfl ?_
  intro p e s m args below meth c s₁ B hml hv
  obtain ⟨rfl, hW, hE⟩ := hv
  have hx := B.exec
  have hb := B.bytes
  have hr := B.returns
  have hts := atoms_spec (ws := Cond.codeWith yL_rentOf cL_rentOf 4 (some .int) [(0, 9, 12, 13)] :: ALL) B.pre
  have hta := fun w h => hts w (List.mem_cons_of_mem _ h)
  have htab : c.exceptionTable.toList = tableOf [(0, 9, 12, 13)] := vx_table (x := yL_rentOf) B (hts _ List.mem_cons_self)
  have hown : s.vm.findClass RL = some m.cls := findClass_of_methodNamed B.named
  have hlocks := B.notSynchronized
  have hS : va_S (geA b) s.heap s.heap [] := va_S.rf
  have hl := lv_entry ([.ref (b + 0), .int p1, .ref (b + 202)]) (n := 4) (Nat.le_of_ble_eq_true rfl)
  rw [lg_entry_eq]
  generalize (lg_sl ([.ref (b + 0), .int p1, .ref (b + 202)]) ++ List.replicate (4 - (lg_sl ([.ref (b + 0), .int p1, .ref (b + 202)])).length) Slot.unset).toArray = ls at hl ⊢
  have hl : lv_has ls 4 [(0, .ref (b + 0)), (1, .int p1), (2, .ref (b + 202))] := hl
  unfold f_L_rentOf at hf
  refine lv_aload_n hx hb dL_rentOf_0 rfl (lv_at hl 2 rfl) ?_
  refine lv_iconst (v := 0) hx hb dL_rentOf_1 (by decide) ?_
  refine lv_aload_n hx hb dL_rentOf_2 rfl (lv_at hl 0 rfl) ?_
  refine lv_iload_n hx hb dL_rentOf_3 rfl (lv_at hl 1 rfl) ?_
  rcases bw_e hf with ⟨k2, u3, hf⟩ | ⟨y4, u3, hf⟩
  · skip
    by_cases h0 : k2 = 1
    · have hf := ifp h0 hf
      subst h0
      refine mVX (k := 0) (q := (0, 0)) (C := RX4) (T := TX4) (N := 8) (ci := 4) (n := 1) (As := [.int p1]) (rest := [.int 0, .ref (b + 202)]) (c_X4_rentOf l hfl D t b σ p1 (.inl 1) u3) sh_0 (by decide) rfl rfl hx hb hml hown hts hE hW hS q1038 q1039 q1040 q91 q1041 hy_X4_rentOf ⟨rfl, rfl⟩ ⟨Nat.le_of_ble_eq_true rfl, Nat.le_of_ble_eq_true rfl⟩ rfl rfl hl.1 (Nat.le_of_ble_eq_true rfl) ⟨Nat.le_of_ble_eq_true rfl, Nat.le_of_ble_eq_true rfl⟩ dL_rentOf_4 (fun k2 σ2 hk H locs ce q9 hW hS hce hcv hcl => ?_) (fun _ _ hz => by cases hz)
      cases hk
      refine vx_catch (name := exn 1) hown [] ⟨0, 9, 12, 13⟩ [] htab (fun z hz => by cases hz) (by decide) (by decide) (hta _ lk_1) (va_Nw.use (NG_tab _ ca_1) (hE.2.1 _ ca_1)) hce hcv hcl ?_
      refine lv_astore_n (lv' := [(3, .ref q9), (0, .ref (b + 0)), (1, .int p1), (2, .ref (b + 202))]) hx hb dL_rentOf_12 rfl hl (by decide) rfl (fun ls hl => ?_)
      refine lv_iconst (v := 1) hx hb dL_rentOf_13 (by decide) ?_
      cases hf
      refine W.widen (k := 1) (n := 6) (Nat.le_of_ble_eq_true rfl) (Nat.le_of_ble_eq_true rfl) ?_
      exact W.iret hx hb hr (fun u hu _ => ⟨⟨rfl, by rw [hu]; exact hW⟩, hS.F hu⟩) hS.2.2 dL_rentOf_14
    · have hf := ifn h0 hf
      cases hf
  · refine mVXn (k := 0) (q := (0, 0)) (C := RX4) (T := TX4) (N := 8) (ci := 4) (n := 1) (As := [.int p1]) (rest := [.int 0, .ref (b + 202)]) (c_X4_rentOf l hfl D t b σ p1 (.inr y4) u3) sh_0 (by decide) rfl rfl hx hb hml hown hts hE hW hS q1038 q1039 q1040 q91 q1041 hy_X4_rentOf ⟨rfl, rfl⟩ ⟨Nat.le_of_ble_eq_true rfl, Nat.le_of_ble_eq_true rfl⟩ rfl rfl hl.1 (Nat.le_of_ble_eq_true rfl) ⟨Nat.le_of_ble_eq_true rfl, Nat.le_of_ble_eq_true rfl⟩ dL_rentOf_4 (fun H locs hW hS => ?_)
    refine lv_i2l hx hb dL_rentOf_7 rfl ?_
    refine last (k := 202) (i := 0) (x := y4) rfl hx hb hE.1 hW hS sh_202 (vp_lit (by decide +kernel)) dL_rentOf_8 (fun H locs hW hS => ?_)
    obtain ⟨σ5, e6, hf⟩ := st_e hf
    rw [e6] at hW
    refine lv_goto (tgt := 15) hx hb dL_rentOf_9 (by decide) ?_
    refine lv_iconst (v := 0) hx hb dL_rentOf_15 (by decide) ?_
    cases hf
    refine W.widen (k := 1) (n := 6) (Nat.le_of_ble_eq_true rfl) (Nat.le_of_ble_eq_true rfl) ?_
    exact W.iret hx hb hr (fun u hu _ => ⟨⟨rfl, by rw [hu]; exact hW⟩, hS.F hu⟩) hS.2.2 dL_rentOf_16
def f_L_playsToWin (σ : Sg) (p1 : Int32) : Option (Int32 × Sg) := bw (f_X4_playsToWin σ p1) (fun k => if k = 1 then (some (1, σ)) else (none)) (fun y4 => st (u2 σ 202 (0 : Int32).toNatClampNeg y4) fun σ5 => some (0, σ5))
set_option maxHeartbeats 4000000 in
set_option maxRecDepth 100000 in
theorem c_L_playsToWin (l : Launch) (hfl : l.stackTraces = false) (D : va_G) (t : Nat → ClassId) (b : Nat) (σ : Sg) (p1 : Int32) (r : Int32) (σr : Sg) (hf : f_L_playsToWin σ p1 = some (r, σr)) : Met l yL_playsToWin (Cond.codeWith yL_playsToWin cL_playsToWin 4 (some .int) [(0, 9, 12, 13)] :: ALL) ({ frames := 9, cells := 1, slots := 6, locals := 145 }) (PM D t b σ [.ref (b + 0), .int p1, .ref (b + 202)]) (QG D t b σr (some (.int r))) 1 6 (geA b) := by
  refine MetH (cc := cL_playsToWin) (maxL := 4) (ret := (some .int)) (hh := [(0, 9, 12, 13)]) (by decide) rfl ?_
  intro p e s m args below meth c s₁ B hml hv
  obtain ⟨rfl, hW, hE⟩ := hv
  have hx := B.exec
  have hb := B.bytes
  have hr := B.returns
  have hts := atoms_spec (ws := Cond.codeWith yL_playsToWin cL_playsToWin 4 (some .int) [(0, 9, 12, 13)] :: ALL) B.pre
  have hta := fun w h => hts w (List.mem_cons_of_mem _ h)
  have htab : c.exceptionTable.toList = tableOf [(0, 9, 12, 13)] := vx_table (x := yL_playsToWin) B (hts _ List.mem_cons_self)
  have hown : s.vm.findClass RL = some m.cls := findClass_of_methodNamed B.named
  have hlocks := B.notSynchronized
  have hS : va_S (geA b) s.heap s.heap [] := va_S.rf
  have hl := lv_entry ([.ref (b + 0), .int p1, .ref (b + 202)]) (n := 4) (Nat.le_of_ble_eq_true rfl)
  rw [lg_entry_eq]
  generalize (lg_sl ([.ref (b + 0), .int p1, .ref (b + 202)]) ++ List.replicate (4 - (lg_sl ([.ref (b + 0), .int p1, .ref (b + 202)])).length) Slot.unset).toArray = ls at hl ⊢
  have hl : lv_has ls 4 [(0, .ref (b + 0)), (1, .int p1), (2, .ref (b + 202))] := hl
  unfold f_L_playsToWin at hf
  refine lv_aload_n hx hb dL_playsToWin_0 rfl (lv_at hl 2 rfl) ?_
  refine lv_iconst (v := 0) hx hb dL_playsToWin_1 (by decide) ?_
  refine lv_aload_n hx hb dL_playsToWin_2 rfl (lv_at hl 0 rfl) ?_
  refine lv_iload_n hx hb dL_playsToWin_3 rfl (lv_at hl 1 rfl) ?_
  rcases bw_e hf with ⟨k2, u3, hf⟩ | ⟨y4, u3, hf⟩
  · skip
    by_cases h0 : k2 = 1
    · have hf := ifp h0 hf
      subst h0
      refine mVX (k := 0) (q := (0, 0)) (C := RX4) (T := TX4) (N := 8) (ci := 4) (n := 1) (As := [.int p1]) (rest := [.int 0, .ref (b + 202)]) (c_X4_playsToWin l hfl D t b σ p1 (.inl 1) u3) sh_0 (by decide) rfl rfl hx hb hml hown hts hE hW hS q1046 q1047 q1048 q91 q1049 hy_X4_playsToWin ⟨rfl, rfl⟩ ⟨Nat.le_of_ble_eq_true rfl, Nat.le_of_ble_eq_true rfl⟩ rfl rfl hl.1 (Nat.le_of_ble_eq_true rfl) ⟨Nat.le_of_ble_eq_true rfl, Nat.le_of_ble_eq_true rfl⟩ dL_playsToWin_4 (fun k2 σ2 hk H locs ce q9 hW hS hce hcv hcl => ?_) (fun _ _ hz => by cases hz)
      cases hk
      refine vx_catch (name := exn 1) hown [] ⟨0, 9, 12, 13⟩ [] htab (fun z hz => by cases hz) (by decide) (by decide) (hta _ lk_1) (va_Nw.use (NG_tab _ ca_1) (hE.2.1 _ ca_1)) hce hcv hcl ?_
      refine lv_astore_n (lv' := [(3, .ref q9), (0, .ref (b + 0)), (1, .int p1), (2, .ref (b + 202))]) hx hb dL_playsToWin_12 rfl hl (by decide) rfl (fun ls hl => ?_)
      refine lv_iconst (v := 1) hx hb dL_playsToWin_13 (by decide) ?_
      cases hf
      refine W.widen (k := 1) (n := 6) (Nat.le_of_ble_eq_true rfl) (Nat.le_of_ble_eq_true rfl) ?_
      exact W.iret hx hb hr (fun u hu _ => ⟨⟨rfl, by rw [hu]; exact hW⟩, hS.F hu⟩) hS.2.2 dL_playsToWin_14
    · have hf := ifn h0 hf
      cases hf
  · refine mVXn (k := 0) (q := (0, 0)) (C := RX4) (T := TX4) (N := 8) (ci := 4) (n := 1) (As := [.int p1]) (rest := [.int 0, .ref (b + 202)]) (c_X4_playsToWin l hfl D t b σ p1 (.inr y4) u3) sh_0 (by decide) rfl rfl hx hb hml hown hts hE hW hS q1046 q1047 q1048 q91 q1049 hy_X4_playsToWin ⟨rfl, rfl⟩ ⟨Nat.le_of_ble_eq_true rfl, Nat.le_of_ble_eq_true rfl⟩ rfl rfl hl.1 (Nat.le_of_ble_eq_true rfl) ⟨Nat.le_of_ble_eq_true rfl, Nat.le_of_ble_eq_true rfl⟩ dL_playsToWin_4 (fun H locs hW hS => ?_)
    refine lv_i2l hx hb dL_playsToWin_7 rfl ?_
    refine last (k := 202) (i := 0) (x := y4) rfl hx hb hE.1 hW hS sh_202 (vp_lit (by decide +kernel)) dL_playsToWin_8 (fun H locs hW hS => ?_)
    obtain ⟨σ5, e6, hf⟩ := st_e hf
    rw [e6] at hW
    refine lv_goto (tgt := 15) hx hb dL_playsToWin_9 (by decide) ?_
    refine lv_iconst (v := 0) hx hb dL_playsToWin_15 (by decide) ?_
    cases hf
    refine W.widen (k := 1) (n := 6) (Nat.le_of_ble_eq_true rfl) (Nat.le_of_ble_eq_true rfl) ?_
    exact W.iret hx hb hr (fun u hu _ => ⟨⟨rfl, by rw [hu]; exact hW⟩, hS.F hu⟩) hS.2.2 dL_playsToWin_16
def f_L_prizesOn (σ : Sg) (p1 : Int32) (p2 : Int32) (p3 : Int32) : Option (Int32 × Sg) := bw (f_X4_prizesOn σ p1 p2 p3) (fun k => if k = 1 then (some (1, σ)) else (none)) (fun y4 => st (u2 σ 202 (0 : Int32).toNatClampNeg y4) fun σ5 => some (0, σ5))
set_option maxHeartbeats 4000000 in
set_option maxRecDepth 100000 in
theorem c_L_prizesOn (l : Launch) (hfl : l.stackTraces = false) (D : va_G) (t : Nat → ClassId) (b : Nat) (σ : Sg) (p1 : Int32) (p2 : Int32) (p3 : Int32) (r : Int32) (σr : Sg) (hf : f_L_prizesOn σ p1 p2 p3 = some (r, σr)) : Met l yL_prizesOn (Cond.codeWith yL_prizesOn cL_prizesOn 6 (some .int) [(0, 12, 15, 13)] :: ALL) ({ frames := 9, cells := 3, slots := 18, locals := 148 }) (PM D t b σ [.ref (b + 0), .int p1, .int p2, .int p3, .ref (b + 202)]) (QG D t b σr (some (.int r))) 3 18 (geA b) := by
  refine MetH (cc := cL_prizesOn) (maxL := 6) (ret := (some .int)) (hh := [(0, 12, 15, 13)]) (by decide) rfl ?_
  intro p e s m args below meth c s₁ B hml hv
  obtain ⟨rfl, hW, hE⟩ := hv
  have hx := B.exec
  have hb := B.bytes
  have hr := B.returns
  have hts := atoms_spec (ws := Cond.codeWith yL_prizesOn cL_prizesOn 6 (some .int) [(0, 12, 15, 13)] :: ALL) B.pre
  have hta := fun w h => hts w (List.mem_cons_of_mem _ h)
  have htab : c.exceptionTable.toList = tableOf [(0, 12, 15, 13)] := vx_table (x := yL_prizesOn) B (hts _ List.mem_cons_self)
  have hown : s.vm.findClass RL = some m.cls := findClass_of_methodNamed B.named
  have hlocks := B.notSynchronized
  have hS : va_S (geA b) s.heap s.heap [] := va_S.rf
  have hl := lv_entry ([.ref (b + 0), .int p1, .int p2, .int p3, .ref (b + 202)]) (n := 6) (Nat.le_of_ble_eq_true rfl)
  rw [lg_entry_eq]
  generalize (lg_sl ([.ref (b + 0), .int p1, .int p2, .int p3, .ref (b + 202)]) ++ List.replicate (6 - (lg_sl ([.ref (b + 0), .int p1, .int p2, .int p3, .ref (b + 202)])).length) Slot.unset).toArray = ls at hl ⊢
  have hl : lv_has ls 6 [(0, .ref (b + 0)), (1, .int p1), (2, .int p2), (3, .int p3), (4, .ref (b + 202))] := hl
  unfold f_L_prizesOn at hf
  refine lv_aload hx hb dL_prizesOn_0 (lv_at hl 4 rfl) ?_
  refine lv_iconst (v := 0) hx hb dL_prizesOn_2 (by decide) ?_
  refine lv_aload_n hx hb dL_prizesOn_3 rfl (lv_at hl 0 rfl) ?_
  refine lv_iload_n hx hb dL_prizesOn_4 rfl (lv_at hl 1 rfl) ?_
  refine lv_iload_n hx hb dL_prizesOn_5 rfl (lv_at hl 2 rfl) ?_
  refine lv_iload_n hx hb dL_prizesOn_6 rfl (lv_at hl 3 rfl) ?_
  rcases bw_e hf with ⟨k2, u3, hf⟩ | ⟨y4, u3, hf⟩
  · skip
    by_cases h0 : k2 = 1
    · have hf := ifp h0 hf
      subst h0
      refine mVX (k := 0) (q := (0, 0)) (C := RX4) (T := TX4) (N := 8) (ci := 4) (n := 3) (As := [.int p1, .int p2, .int p3]) (rest := [.int 0, .ref (b + 202)]) (c_X4_prizesOn l hfl D t b σ p1 p2 p3 (.inl 1) u3) sh_0 (by decide) rfl rfl hx hb hml hown hts hE hW hS q1054 q1055 q1056 q91 q1057 hy_X4_prizesOn ⟨rfl, rfl⟩ ⟨Nat.le_of_ble_eq_true rfl, Nat.le_of_ble_eq_true rfl⟩ rfl rfl hl.1 (Nat.le_of_ble_eq_true rfl) ⟨Nat.le_of_ble_eq_true rfl, Nat.le_of_ble_eq_true rfl⟩ dL_prizesOn_7 (fun k2 σ2 hk H locs ce q9 hW hS hce hcv hcl => ?_) (fun _ _ hz => by cases hz)
      cases hk
      refine vx_catch (name := exn 1) hown [] ⟨0, 12, 15, 13⟩ [] htab (fun z hz => by cases hz) (by decide) (by decide) (hta _ lk_1) (va_Nw.use (NG_tab _ ca_1) (hE.2.1 _ ca_1)) hce hcv hcl ?_
      refine lv_astore (lv' := [(5, .ref q9), (0, .ref (b + 0)), (1, .int p1), (2, .int p2), (3, .int p3), (4, .ref (b + 202))]) hx hb dL_prizesOn_15 hl (by decide) rfl (fun ls hl => ?_)
      refine lv_iconst (v := 1) hx hb dL_prizesOn_17 (by decide) ?_
      cases hf
      refine W.widen (k := 3) (n := 18) (Nat.le_of_ble_eq_true rfl) (Nat.le_of_ble_eq_true rfl) ?_
      exact W.iret hx hb hr (fun u hu _ => ⟨⟨rfl, by rw [hu]; exact hW⟩, hS.F hu⟩) hS.2.2 dL_prizesOn_18
    · have hf := ifn h0 hf
      cases hf
  · refine mVXn (k := 0) (q := (0, 0)) (C := RX4) (T := TX4) (N := 8) (ci := 4) (n := 3) (As := [.int p1, .int p2, .int p3]) (rest := [.int 0, .ref (b + 202)]) (c_X4_prizesOn l hfl D t b σ p1 p2 p3 (.inr y4) u3) sh_0 (by decide) rfl rfl hx hb hml hown hts hE hW hS q1054 q1055 q1056 q91 q1057 hy_X4_prizesOn ⟨rfl, rfl⟩ ⟨Nat.le_of_ble_eq_true rfl, Nat.le_of_ble_eq_true rfl⟩ rfl rfl hl.1 (Nat.le_of_ble_eq_true rfl) ⟨Nat.le_of_ble_eq_true rfl, Nat.le_of_ble_eq_true rfl⟩ dL_prizesOn_7 (fun H locs hW hS => ?_)
    refine lv_i2l hx hb dL_prizesOn_10 rfl ?_
    refine last (k := 202) (i := 0) (x := y4) rfl hx hb hE.1 hW hS sh_202 (vp_lit (by decide +kernel)) dL_prizesOn_11 (fun H locs hW hS => ?_)
    obtain ⟨σ5, e6, hf⟩ := st_e hf
    rw [e6] at hW
    refine lv_goto (tgt := 19) hx hb dL_prizesOn_12 (by decide) ?_
    refine lv_iconst (v := 0) hx hb dL_prizesOn_19 (by decide) ?_
    cases hf
    refine W.widen (k := 3) (n := 18) (Nat.le_of_ble_eq_true rfl) (Nat.le_of_ble_eq_true rfl) ?_
    exact W.iret hx hb hr (fun u hu _ => ⟨⟨rfl, by rw [hu]; exact hW⟩, hS.F hu⟩) hS.2.2 dL_prizesOn_20
def f_L_shelfOf (σ : Sg) (p1 : Int32) : Option (Int32 × Sg) := bw (f_X4_shelfOf σ p1) (fun k => if k = 1 then (some (1, σ)) else (none)) (fun y4 => st (u2 σ 202 (0 : Int32).toNatClampNeg y4) fun σ5 => some (0, σ5))
set_option maxHeartbeats 4000000 in
set_option maxRecDepth 100000 in
theorem c_L_shelfOf (l : Launch) (hfl : l.stackTraces = false) (D : va_G) (t : Nat → ClassId) (b : Nat) (σ : Sg) (p1 : Int32) (r : Int32) (σr : Sg) (hf : f_L_shelfOf σ p1 = some (r, σr)) : Met l yL_shelfOf (Cond.codeWith yL_shelfOf cL_shelfOf 4 (some .int) [(0, 9, 12, 13)] :: ALL) ({ frames := 9, cells := 1, slots := 6, locals := 145 }) (PM D t b σ [.ref (b + 0), .int p1, .ref (b + 202)]) (QG D t b σr (some (.int r))) 1 6 (geA b) := by
  refine MetH (cc := cL_shelfOf) (maxL := 4) (ret := (some .int)) (hh := [(0, 9, 12, 13)]) (by decide) rfl ?_
  intro p e s m args below meth c s₁ B hml hv
  obtain ⟨rfl, hW, hE⟩ := hv
  have hx := B.exec
  have hb := B.bytes
  have hr := B.returns
  have hts := atoms_spec (ws := Cond.codeWith yL_shelfOf cL_shelfOf 4 (some .int) [(0, 9, 12, 13)] :: ALL) B.pre
  have hta := fun w h => hts w (List.mem_cons_of_mem _ h)
  have htab : c.exceptionTable.toList = tableOf [(0, 9, 12, 13)] := vx_table (x := yL_shelfOf) B (hts _ List.mem_cons_self)
  have hown : s.vm.findClass RL = some m.cls := findClass_of_methodNamed B.named
  have hlocks := B.notSynchronized
  have hS : va_S (geA b) s.heap s.heap [] := va_S.rf
  have hl := lv_entry ([.ref (b + 0), .int p1, .ref (b + 202)]) (n := 4) (Nat.le_of_ble_eq_true rfl)
  rw [lg_entry_eq]
  generalize (lg_sl ([.ref (b + 0), .int p1, .ref (b + 202)]) ++ List.replicate (4 - (lg_sl ([.ref (b + 0), .int p1, .ref (b + 202)])).length) Slot.unset).toArray = ls at hl ⊢
  have hl : lv_has ls 4 [(0, .ref (b + 0)), (1, .int p1), (2, .ref (b + 202))] := hl
  unfold f_L_shelfOf at hf
  refine lv_aload_n hx hb dL_shelfOf_0 rfl (lv_at hl 2 rfl) ?_
  refine lv_iconst (v := 0) hx hb dL_shelfOf_1 (by decide) ?_
  refine lv_aload_n hx hb dL_shelfOf_2 rfl (lv_at hl 0 rfl) ?_
  refine lv_iload_n hx hb dL_shelfOf_3 rfl (lv_at hl 1 rfl) ?_
  rcases bw_e hf with ⟨k2, u3, hf⟩ | ⟨y4, u3, hf⟩
  · skip
    by_cases h0 : k2 = 1
    · have hf := ifp h0 hf
      subst h0
      refine mVX (k := 0) (q := (0, 0)) (C := RX4) (T := TX4) (N := 8) (ci := 4) (n := 1) (As := [.int p1]) (rest := [.int 0, .ref (b + 202)]) (c_X4_shelfOf l hfl D t b σ p1 (.inl 1) u3) sh_0 (by decide) rfl rfl hx hb hml hown hts hE hW hS q1061 q1062 q1063 q91 q1064 hy_X4_shelfOf ⟨rfl, rfl⟩ ⟨Nat.le_of_ble_eq_true rfl, Nat.le_of_ble_eq_true rfl⟩ rfl rfl hl.1 (Nat.le_of_ble_eq_true rfl) ⟨Nat.le_of_ble_eq_true rfl, Nat.le_of_ble_eq_true rfl⟩ dL_shelfOf_4 (fun k2 σ2 hk H locs ce q9 hW hS hce hcv hcl => ?_) (fun _ _ hz => by cases hz)
      cases hk
      refine vx_catch (name := exn 1) hown [] ⟨0, 9, 12, 13⟩ [] htab (fun z hz => by cases hz) (by decide) (by decide) (hta _ lk_1) (va_Nw.use (NG_tab _ ca_1) (hE.2.1 _ ca_1)) hce hcv hcl ?_
      refine lv_astore_n (lv' := [(3, .ref q9), (0, .ref (b + 0)), (1, .int p1), (2, .ref (b + 202))]) hx hb dL_shelfOf_12 rfl hl (by decide) rfl (fun ls hl => ?_)
      refine lv_iconst (v := 1) hx hb dL_shelfOf_13 (by decide) ?_
      cases hf
      refine W.widen (k := 1) (n := 6) (Nat.le_of_ble_eq_true rfl) (Nat.le_of_ble_eq_true rfl) ?_
      exact W.iret hx hb hr (fun u hu _ => ⟨⟨rfl, by rw [hu]; exact hW⟩, hS.F hu⟩) hS.2.2 dL_shelfOf_14
    · have hf := ifn h0 hf
      cases hf
  · refine mVXn (k := 0) (q := (0, 0)) (C := RX4) (T := TX4) (N := 8) (ci := 4) (n := 1) (As := [.int p1]) (rest := [.int 0, .ref (b + 202)]) (c_X4_shelfOf l hfl D t b σ p1 (.inr y4) u3) sh_0 (by decide) rfl rfl hx hb hml hown hts hE hW hS q1061 q1062 q1063 q91 q1064 hy_X4_shelfOf ⟨rfl, rfl⟩ ⟨Nat.le_of_ble_eq_true rfl, Nat.le_of_ble_eq_true rfl⟩ rfl rfl hl.1 (Nat.le_of_ble_eq_true rfl) ⟨Nat.le_of_ble_eq_true rfl, Nat.le_of_ble_eq_true rfl⟩ dL_shelfOf_4 (fun H locs hW hS => ?_)
    refine lv_i2l hx hb dL_shelfOf_7 rfl ?_
    refine last (k := 202) (i := 0) (x := y4) rfl hx hb hE.1 hW hS sh_202 (vp_lit (by decide +kernel)) dL_shelfOf_8 (fun H locs hW hS => ?_)
    obtain ⟨σ5, e6, hf⟩ := st_e hf
    rw [e6] at hW
    refine lv_goto (tgt := 15) hx hb dL_shelfOf_9 (by decide) ?_
    refine lv_iconst (v := 0) hx hb dL_shelfOf_15 (by decide) ?_
    cases hf
    refine W.widen (k := 1) (n := 6) (Nat.le_of_ble_eq_true rfl) (Nat.le_of_ble_eq_true rfl) ?_
    exact W.iret hx hb hr (fun u hu _ => ⟨⟨rfl, by rw [hu]; exact hW⟩, hS.F hu⟩) hS.2.2 dL_shelfOf_16
def f_L_levelToWin (σ : Sg) (p1 : Int32) : Option (Int32 × Sg) := bw (f_X4_levelToWin σ p1) (fun k => if k = 1 then (some (1, σ)) else (none)) (fun y4 => st (u2 σ 202 (0 : Int32).toNatClampNeg y4) fun σ5 => some (0, σ5))
set_option maxHeartbeats 4000000 in
set_option maxRecDepth 100000 in
theorem c_L_levelToWin (l : Launch) (hfl : l.stackTraces = false) (D : va_G) (t : Nat → ClassId) (b : Nat) (σ : Sg) (p1 : Int32) (r : Int32) (σr : Sg) (hf : f_L_levelToWin σ p1 = some (r, σr)) : Met l yL_levelToWin (Cond.codeWith yL_levelToWin cL_levelToWin 4 (some .int) [(0, 9, 12, 13)] :: ALL) ({ frames := 9, cells := 1, slots := 6, locals := 145 }) (PM D t b σ [.ref (b + 0), .int p1, .ref (b + 202)]) (QG D t b σr (some (.int r))) 1 6 (geA b) := by
  refine MetH (cc := cL_levelToWin) (maxL := 4) (ret := (some .int)) (hh := [(0, 9, 12, 13)]) (by decide) rfl ?_
  intro p e s m args below meth c s₁ B hml hv
  obtain ⟨rfl, hW, hE⟩ := hv
  have hx := B.exec
  have hb := B.bytes
  have hr := B.returns
  have hts := atoms_spec (ws := Cond.codeWith yL_levelToWin cL_levelToWin 4 (some .int) [(0, 9, 12, 13)] :: ALL) B.pre
  have hta := fun w h => hts w (List.mem_cons_of_mem _ h)
  have htab : c.exceptionTable.toList = tableOf [(0, 9, 12, 13)] := vx_table (x := yL_levelToWin) B (hts _ List.mem_cons_self)
  have hown : s.vm.findClass RL = some m.cls := findClass_of_methodNamed B.named
  have hlocks := B.notSynchronized
  have hS : va_S (geA b) s.heap s.heap [] := va_S.rf
  have hl := lv_entry ([.ref (b + 0), .int p1, .ref (b + 202)]) (n := 4) (Nat.le_of_ble_eq_true rfl)
  rw [lg_entry_eq]
  generalize (lg_sl ([.ref (b + 0), .int p1, .ref (b + 202)]) ++ List.replicate (4 - (lg_sl ([.ref (b + 0), .int p1, .ref (b + 202)])).length) Slot.unset).toArray = ls at hl ⊢
  have hl : lv_has ls 4 [(0, .ref (b + 0)), (1, .int p1), (2, .ref (b + 202))] := hl
  unfold f_L_levelToWin at hf
  refine lv_aload_n hx hb dL_levelToWin_0 rfl (lv_at hl 2 rfl) ?_
  refine lv_iconst (v := 0) hx hb dL_levelToWin_1 (by decide) ?_
  refine lv_aload_n hx hb dL_levelToWin_2 rfl (lv_at hl 0 rfl) ?_
  refine lv_iload_n hx hb dL_levelToWin_3 rfl (lv_at hl 1 rfl) ?_
  rcases bw_e hf with ⟨k2, u3, hf⟩ | ⟨y4, u3, hf⟩
  · skip
    by_cases h0 : k2 = 1
    · have hf := ifp h0 hf
      subst h0
      refine mVX (k := 0) (q := (0, 0)) (C := RX4) (T := TX4) (N := 8) (ci := 4) (n := 1) (As := [.int p1]) (rest := [.int 0, .ref (b + 202)]) (c_X4_levelToWin l hfl D t b σ p1 (.inl 1) u3) sh_0 (by decide) rfl rfl hx hb hml hown hts hE hW hS q1069 q1070 q1071 q91 q1072 hy_X4_levelToWin ⟨rfl, rfl⟩ ⟨Nat.le_of_ble_eq_true rfl, Nat.le_of_ble_eq_true rfl⟩ rfl rfl hl.1 (Nat.le_of_ble_eq_true rfl) ⟨Nat.le_of_ble_eq_true rfl, Nat.le_of_ble_eq_true rfl⟩ dL_levelToWin_4 (fun k2 σ2 hk H locs ce q9 hW hS hce hcv hcl => ?_) (fun _ _ hz => by cases hz)
      cases hk
      refine vx_catch (name := exn 1) hown [] ⟨0, 9, 12, 13⟩ [] htab (fun z hz => by cases hz) (by decide) (by decide) (hta _ lk_1) (va_Nw.use (NG_tab _ ca_1) (hE.2.1 _ ca_1)) hce hcv hcl ?_
      refine lv_astore_n (lv' := [(3, .ref q9), (0, .ref (b + 0)), (1, .int p1), (2, .ref (b + 202))]) hx hb dL_levelToWin_12 rfl hl (by decide) rfl (fun ls hl => ?_)
      refine lv_iconst (v := 1) hx hb dL_levelToWin_13 (by decide) ?_
      cases hf
      refine W.widen (k := 1) (n := 6) (Nat.le_of_ble_eq_true rfl) (Nat.le_of_ble_eq_true rfl) ?_
      exact W.iret hx hb hr (fun u hu _ => ⟨⟨rfl, by rw [hu]; exact hW⟩, hS.F hu⟩) hS.2.2 dL_levelToWin_14
    · have hf := ifn h0 hf
      cases hf
  · refine mVXn (k := 0) (q := (0, 0)) (C := RX4) (T := TX4) (N := 8) (ci := 4) (n := 1) (As := [.int p1]) (rest := [.int 0, .ref (b + 202)]) (c_X4_levelToWin l hfl D t b σ p1 (.inr y4) u3) sh_0 (by decide) rfl rfl hx hb hml hown hts hE hW hS q1069 q1070 q1071 q91 q1072 hy_X4_levelToWin ⟨rfl, rfl⟩ ⟨Nat.le_of_ble_eq_true rfl, Nat.le_of_ble_eq_true rfl⟩ rfl rfl hl.1 (Nat.le_of_ble_eq_true rfl) ⟨Nat.le_of_ble_eq_true rfl, Nat.le_of_ble_eq_true rfl⟩ dL_levelToWin_4 (fun H locs hW hS => ?_)
    refine lv_i2l hx hb dL_levelToWin_7 rfl ?_
    refine last (k := 202) (i := 0) (x := y4) rfl hx hb hE.1 hW hS sh_202 (vp_lit (by decide +kernel)) dL_levelToWin_8 (fun H locs hW hS => ?_)
    obtain ⟨σ5, e6, hf⟩ := st_e hf
    rw [e6] at hW
    refine lv_goto (tgt := 15) hx hb dL_levelToWin_9 (by decide) ?_
    refine lv_iconst (v := 0) hx hb dL_levelToWin_15 (by decide) ?_
    cases hf
    refine W.widen (k := 1) (n := 6) (Nat.le_of_ble_eq_true rfl) (Nat.le_of_ble_eq_true rfl) ?_
    exact W.iret hx hb hr (fun u hu _ => ⟨⟨rfl, by rw [hu]; exact hW⟩, hS.F hu⟩) hS.2.2 dL_levelToWin_16
def f_L_wonOf (σ : Sg) (p1 : Int32) : Option (Int32 × Sg) := bw (f_X4_wonOf σ p1) (fun k => if k = 1 then (some (1, σ)) else (none)) (fun y4 => st (u2 σ 202 (0 : Int32).toNatClampNeg y4) fun σ5 => some (0, σ5))
set_option maxHeartbeats 4000000 in
set_option maxRecDepth 100000 in
theorem c_L_wonOf (l : Launch) (hfl : l.stackTraces = false) (D : va_G) (t : Nat → ClassId) (b : Nat) (σ : Sg) (p1 : Int32) (r : Int32) (σr : Sg) (hf : f_L_wonOf σ p1 = some (r, σr)) : Met l yL_wonOf (Cond.codeWith yL_wonOf cL_wonOf 4 (some .int) [(0, 9, 12, 13)] :: ALL) ({ frames := 8, cells := 1, slots := 6, locals := 124 }) (PM D t b σ [.ref (b + 0), .int p1, .ref (b + 202)]) (QG D t b σr (some (.int r))) 1 6 (geA b) := by
  refine MetH (cc := cL_wonOf) (maxL := 4) (ret := (some .int)) (hh := [(0, 9, 12, 13)]) (by decide) rfl ?_
  intro p e s m args below meth c s₁ B hml hv
  obtain ⟨rfl, hW, hE⟩ := hv
  have hx := B.exec
  have hb := B.bytes
  have hr := B.returns
  have hts := atoms_spec (ws := Cond.codeWith yL_wonOf cL_wonOf 4 (some .int) [(0, 9, 12, 13)] :: ALL) B.pre
  have hta := fun w h => hts w (List.mem_cons_of_mem _ h)
  have htab : c.exceptionTable.toList = tableOf [(0, 9, 12, 13)] := vx_table (x := yL_wonOf) B (hts _ List.mem_cons_self)
  have hown : s.vm.findClass RL = some m.cls := findClass_of_methodNamed B.named
  have hlocks := B.notSynchronized
  have hS : va_S (geA b) s.heap s.heap [] := va_S.rf
  have hl := lv_entry ([.ref (b + 0), .int p1, .ref (b + 202)]) (n := 4) (Nat.le_of_ble_eq_true rfl)
  rw [lg_entry_eq]
  generalize (lg_sl ([.ref (b + 0), .int p1, .ref (b + 202)]) ++ List.replicate (4 - (lg_sl ([.ref (b + 0), .int p1, .ref (b + 202)])).length) Slot.unset).toArray = ls at hl ⊢
  have hl : lv_has ls 4 [(0, .ref (b + 0)), (1, .int p1), (2, .ref (b + 202))] := hl
  unfold f_L_wonOf at hf
  refine lv_aload_n hx hb dL_wonOf_0 rfl (lv_at hl 2 rfl) ?_
  refine lv_iconst (v := 0) hx hb dL_wonOf_1 (by decide) ?_
  refine lv_aload_n hx hb dL_wonOf_2 rfl (lv_at hl 0 rfl) ?_
  refine lv_iload_n hx hb dL_wonOf_3 rfl (lv_at hl 1 rfl) ?_
  rcases bw_e hf with ⟨k2, u3, hf⟩ | ⟨y4, u3, hf⟩
  · skip
    by_cases h0 : k2 = 1
    · have hf := ifp h0 hf
      subst h0
      refine mVX (k := 0) (q := (0, 0)) (C := RX4) (T := TX4) (N := 8) (ci := 4) (n := 1) (As := [.int p1]) (rest := [.int 0, .ref (b + 202)]) (c_X4_wonOf l hfl D t b σ p1 (.inl 1) u3) sh_0 (by decide) rfl rfl hx hb hml hown hts hE hW hS q1077 q1078 q1079 q91 q1080 hy_X4_wonOf ⟨rfl, rfl⟩ ⟨Nat.le_of_ble_eq_true rfl, Nat.le_of_ble_eq_true rfl⟩ rfl rfl hl.1 (Nat.le_of_ble_eq_true rfl) ⟨Nat.le_of_ble_eq_true rfl, Nat.le_of_ble_eq_true rfl⟩ dL_wonOf_4 (fun k2 σ2 hk H locs ce q9 hW hS hce hcv hcl => ?_) (fun _ _ hz => by cases hz)
      cases hk
      refine vx_catch (name := exn 1) hown [] ⟨0, 9, 12, 13⟩ [] htab (fun z hz => by cases hz) (by decide) (by decide) (hta _ lk_1) (va_Nw.use (NG_tab _ ca_1) (hE.2.1 _ ca_1)) hce hcv hcl ?_
      refine lv_astore_n (lv' := [(3, .ref q9), (0, .ref (b + 0)), (1, .int p1), (2, .ref (b + 202))]) hx hb dL_wonOf_12 rfl hl (by decide) rfl (fun ls hl => ?_)
      refine lv_iconst (v := 1) hx hb dL_wonOf_13 (by decide) ?_
      cases hf
      refine W.widen (k := 1) (n := 6) (Nat.le_of_ble_eq_true rfl) (Nat.le_of_ble_eq_true rfl) ?_
      exact W.iret hx hb hr (fun u hu _ => ⟨⟨rfl, by rw [hu]; exact hW⟩, hS.F hu⟩) hS.2.2 dL_wonOf_14
    · have hf := ifn h0 hf
      cases hf
  · refine mVXn (k := 0) (q := (0, 0)) (C := RX4) (T := TX4) (N := 8) (ci := 4) (n := 1) (As := [.int p1]) (rest := [.int 0, .ref (b + 202)]) (c_X4_wonOf l hfl D t b σ p1 (.inr y4) u3) sh_0 (by decide) rfl rfl hx hb hml hown hts hE hW hS q1077 q1078 q1079 q91 q1080 hy_X4_wonOf ⟨rfl, rfl⟩ ⟨Nat.le_of_ble_eq_true rfl, Nat.le_of_ble_eq_true rfl⟩ rfl rfl hl.1 (Nat.le_of_ble_eq_true rfl) ⟨Nat.le_of_ble_eq_true rfl, Nat.le_of_ble_eq_true rfl⟩ dL_wonOf_4 (fun H locs hW hS => ?_)
    refine lv_i2l hx hb dL_wonOf_7 rfl ?_
    refine last (k := 202) (i := 0) (x := y4) rfl hx hb hE.1 hW hS sh_202 (vp_lit (by decide +kernel)) dL_wonOf_8 (fun H locs hW hS => ?_)
    obtain ⟨σ5, e6, hf⟩ := st_e hf
    rw [e6] at hW
    refine lv_goto (tgt := 15) hx hb dL_wonOf_9 (by decide) ?_
    refine lv_iconst (v := 0) hx hb dL_wonOf_15 (by decide) ?_
    cases hf
    refine W.widen (k := 1) (n := 6) (Nat.le_of_ble_eq_true rfl) (Nat.le_of_ble_eq_true rfl) ?_
    exact W.iret hx hb hr (fun u hu _ => ⟨⟨rfl, by rw [hu]; exact hW⟩, hS.F hu⟩) hS.2.2 dL_wonOf_16
def f_L_isAtFair (σ : Sg) (p1 : Int32) : Option (Int32 × Sg) := bw (f_X4_isAtFair σ p1) (fun k => if k = 1 then (some (1, σ)) else (none)) (fun y4 => if y4 = 0 then (st (u2 σ 202 (0 : Int32).toNatClampNeg 0) fun σ6 => some (0, σ6)) else (st (u2 σ 202 (0 : Int32).toNatClampNeg 1) fun σ8 => some (0, σ8)))
set_option maxHeartbeats 4000000 in
set_option maxRecDepth 100000 in
theorem c_L_isAtFair (l : Launch) (hfl : l.stackTraces = false) (D : va_G) (t : Nat → ClassId) (b : Nat) (σ : Sg) (p1 : Int32) (r : Int32) (σr : Sg) (hf : f_L_isAtFair σ p1 = some (r, σr)) : Met l yL_isAtFair (Cond.codeWith yL_isAtFair cL_isAtFair 4 (some .int) [(0, 16, 19, 13)] :: ALL) ({ frames := 8, cells := 1, slots := 6, locals := 124 }) (PM D t b σ [.ref (b + 0), .int p1, .ref (b + 202)]) (QG D t b σr (some (.int r))) 1 6 (geA b) := by
  refine MetH (cc := cL_isAtFair) (maxL := 4) (ret := (some .int)) (hh := [(0, 16, 19, 13)]) (by decide) rfl ?_
  intro p e s m args below meth c s₁ B hml hv
  obtain ⟨rfl, hW, hE⟩ := hv
  have hx := B.exec
  have hb := B.bytes
  have hr := B.returns
  have hts := atoms_spec (ws := Cond.codeWith yL_isAtFair cL_isAtFair 4 (some .int) [(0, 16, 19, 13)] :: ALL) B.pre
  have hta := fun w h => hts w (List.mem_cons_of_mem _ h)
  have htab : c.exceptionTable.toList = tableOf [(0, 16, 19, 13)] := vx_table (x := yL_isAtFair) B (hts _ List.mem_cons_self)
  have hown : s.vm.findClass RL = some m.cls := findClass_of_methodNamed B.named
  have hlocks := B.notSynchronized
  have hS : va_S (geA b) s.heap s.heap [] := va_S.rf
  have hl := lv_entry ([.ref (b + 0), .int p1, .ref (b + 202)]) (n := 4) (Nat.le_of_ble_eq_true rfl)
  rw [lg_entry_eq]
  generalize (lg_sl ([.ref (b + 0), .int p1, .ref (b + 202)]) ++ List.replicate (4 - (lg_sl ([.ref (b + 0), .int p1, .ref (b + 202)])).length) Slot.unset).toArray = ls at hl ⊢
  have hl : lv_has ls 4 [(0, .ref (b + 0)), (1, .int p1), (2, .ref (b + 202))] := hl
  unfold f_L_isAtFair at hf
  refine lv_aload_n hx hb dL_isAtFair_0 rfl (lv_at hl 2 rfl) ?_
  refine lv_iconst (v := 0) hx hb dL_isAtFair_1 (by decide) ?_
  refine lv_aload_n hx hb dL_isAtFair_2 rfl (lv_at hl 0 rfl) ?_
  refine lv_iload_n hx hb dL_isAtFair_3 rfl (lv_at hl 1 rfl) ?_
  rcases bw_e hf with ⟨k2, u3, hf⟩ | ⟨y4, u3, hf⟩
  · skip
    by_cases h0 : k2 = 1
    · have hf := ifp h0 hf
      subst h0
      refine mVX (k := 0) (q := (0, 0)) (C := RX4) (T := TX4) (N := 8) (ci := 4) (n := 1) (As := [.int p1]) (rest := [.int 0, .ref (b + 202)]) (c_X4_isAtFair l hfl D t b σ p1 (.inl 1) u3) sh_0 (by decide) rfl rfl hx hb hml hown hts hE hW hS q1084 q1085 q1086 q91 q1087 hy_X4_isAtFair ⟨rfl, rfl⟩ ⟨Nat.le_of_ble_eq_true rfl, Nat.le_of_ble_eq_true rfl⟩ rfl rfl hl.1 (Nat.le_of_ble_eq_true rfl) ⟨Nat.le_of_ble_eq_true rfl, Nat.le_of_ble_eq_true rfl⟩ dL_isAtFair_4 (fun k2 σ2 hk H locs ce q9 hW hS hce hcv hcl => ?_) (fun _ _ hz => by cases hz)
      cases hk
      refine vx_catch (name := exn 1) hown [] ⟨0, 16, 19, 13⟩ [] htab (fun z hz => by cases hz) (by decide) (by decide) (hta _ lk_1) (va_Nw.use (NG_tab _ ca_1) (hE.2.1 _ ca_1)) hce hcv hcl ?_
      refine lv_astore_n (lv' := [(3, .ref q9), (0, .ref (b + 0)), (1, .int p1), (2, .ref (b + 202))]) hx hb dL_isAtFair_19 rfl hl (by decide) rfl (fun ls hl => ?_)
      refine lv_iconst (v := 1) hx hb dL_isAtFair_20 (by decide) ?_
      cases hf
      refine W.widen (k := 1) (n := 6) (Nat.le_of_ble_eq_true rfl) (Nat.le_of_ble_eq_true rfl) ?_
      exact W.iret hx hb hr (fun u hu _ => ⟨⟨rfl, by rw [hu]; exact hW⟩, hS.F hu⟩) hS.2.2 dL_isAtFair_21
    · have hf := ifn h0 hf
      cases hf
  · refine mVXn (k := 0) (q := (0, 0)) (C := RX4) (T := TX4) (N := 8) (ci := 4) (n := 1) (As := [.int p1]) (rest := [.int 0, .ref (b + 202)]) (c_X4_isAtFair l hfl D t b σ p1 (.inr y4) u3) sh_0 (by decide) rfl rfl hx hb hml hown hts hE hW hS q1084 q1085 q1086 q91 q1087 hy_X4_isAtFair ⟨rfl, rfl⟩ ⟨Nat.le_of_ble_eq_true rfl, Nat.le_of_ble_eq_true rfl⟩ rfl rfl hl.1 (Nat.le_of_ble_eq_true rfl) ⟨Nat.le_of_ble_eq_true rfl, Nat.le_of_ble_eq_true rfl⟩ dL_isAtFair_4 (fun H locs hW hS => ?_)
    refine lv_if_eq (tgt := 14) hx hb dL_isAtFair_7 (by decide) (fun h5 => ?_) (fun h5 => ?_)
    · have hf := ifp h5 hf
      refine lv_lconst (v := (0 : Int32).toInt64) hx hb dL_isAtFair_14 (by decide) ?_
      refine last (k := 202) (i := 0) (x := 0) rfl hx hb hE.1 hW hS sh_202 (vp_lit (by decide +kernel)) dL_isAtFair_15 (fun H locs hW hS => ?_)
      obtain ⟨σ6, e7, hf⟩ := st_e hf
      rw [e7] at hW
      refine lv_goto (tgt := 22) hx hb dL_isAtFair_16 (by decide) ?_
      refine lv_iconst (v := 0) hx hb dL_isAtFair_22 (by decide) ?_
      cases hf
      refine W.widen (k := 1) (n := 6) (Nat.le_of_ble_eq_true rfl) (Nat.le_of_ble_eq_true rfl) ?_
      exact W.iret hx hb hr (fun u hu _ => ⟨⟨rfl, by rw [hu]; exact hW⟩, hS.F hu⟩) hS.2.2 dL_isAtFair_23
    · have hf := ifn h5 hf
      refine lv_lconst (v := (1 : Int32).toInt64) hx hb dL_isAtFair_10 (by decide) ?_
      refine lv_goto (tgt := 15) hx hb dL_isAtFair_11 (by decide) ?_
      refine last (k := 202) (i := 0) (x := 1) rfl hx hb hE.1 hW hS sh_202 (vp_lit (by decide +kernel)) dL_isAtFair_15 (fun H locs hW hS => ?_)
      obtain ⟨σ8, e9, hf⟩ := st_e hf
      rw [e9] at hW
      refine lv_goto (tgt := 22) hx hb dL_isAtFair_16 (by decide) ?_
      refine lv_iconst (v := 0) hx hb dL_isAtFair_22 (by decide) ?_
      cases hf
      refine W.widen (k := 1) (n := 6) (Nat.le_of_ble_eq_true rfl) (Nat.le_of_ble_eq_true rfl) ?_
      exact W.iret hx hb hr (fun u hu _ => ⟨⟨rfl, by rw [hu]; exact hW⟩, hS.F hu⟩) hS.2.2 dL_isAtFair_23
def f_L_purseOf (σ : Sg) (p1 : Int32) : Option (Int32 × Sg) := bw (f_X4_purseOf σ p1) (fun k => if k = 1 then (some (1, σ)) else (none)) (fun y4 => st (u2 σ 202 (0 : Int32).toNatClampNeg y4) fun σ5 => some (0, σ5))
set_option maxHeartbeats 4000000 in
set_option maxRecDepth 100000 in
theorem c_L_purseOf (l : Launch) (hfl : l.stackTraces = false) (D : va_G) (t : Nat → ClassId) (b : Nat) (σ : Sg) (p1 : Int32) (r : Int32) (σr : Sg) (hf : f_L_purseOf σ p1 = some (r, σr)) : Met l yL_purseOf (Cond.codeWith yL_purseOf cL_purseOf 4 (some .int) [(0, 9, 12, 13)] :: ALL) ({ frames := 8, cells := 1, slots := 6, locals := 124 }) (PM D t b σ [.ref (b + 0), .int p1, .ref (b + 202)]) (QG D t b σr (some (.int r))) 1 6 (geA b) := by
  refine MetH (cc := cL_purseOf) (maxL := 4) (ret := (some .int)) (hh := [(0, 9, 12, 13)]) (by decide) rfl ?_
  intro p e s m args below meth c s₁ B hml hv
  obtain ⟨rfl, hW, hE⟩ := hv
  have hx := B.exec
  have hb := B.bytes
  have hr := B.returns
  have hts := atoms_spec (ws := Cond.codeWith yL_purseOf cL_purseOf 4 (some .int) [(0, 9, 12, 13)] :: ALL) B.pre
  have hta := fun w h => hts w (List.mem_cons_of_mem _ h)
  have htab : c.exceptionTable.toList = tableOf [(0, 9, 12, 13)] := vx_table (x := yL_purseOf) B (hts _ List.mem_cons_self)
  have hown : s.vm.findClass RL = some m.cls := findClass_of_methodNamed B.named
  have hlocks := B.notSynchronized
  have hS : va_S (geA b) s.heap s.heap [] := va_S.rf
  have hl := lv_entry ([.ref (b + 0), .int p1, .ref (b + 202)]) (n := 4) (Nat.le_of_ble_eq_true rfl)
  rw [lg_entry_eq]
  generalize (lg_sl ([.ref (b + 0), .int p1, .ref (b + 202)]) ++ List.replicate (4 - (lg_sl ([.ref (b + 0), .int p1, .ref (b + 202)])).length) Slot.unset).toArray = ls at hl ⊢
  have hl : lv_has ls 4 [(0, .ref (b + 0)), (1, .int p1), (2, .ref (b + 202))] := hl
  unfold f_L_purseOf at hf
  refine lv_aload_n hx hb dL_purseOf_0 rfl (lv_at hl 2 rfl) ?_
  refine lv_iconst (v := 0) hx hb dL_purseOf_1 (by decide) ?_
  refine lv_aload_n hx hb dL_purseOf_2 rfl (lv_at hl 0 rfl) ?_
  refine lv_iload_n hx hb dL_purseOf_3 rfl (lv_at hl 1 rfl) ?_
  rcases bw_e hf with ⟨k2, u3, hf⟩ | ⟨y4, u3, hf⟩
  · skip
    by_cases h0 : k2 = 1
    · have hf := ifp h0 hf
      subst h0
      refine mVX (k := 0) (q := (0, 0)) (C := RX4) (T := TX4) (N := 8) (ci := 4) (n := 1) (As := [.int p1]) (rest := [.int 0, .ref (b + 202)]) (c_X4_purseOf l hfl D t b σ p1 (.inl 1) u3) sh_0 (by decide) rfl rfl hx hb hml hown hts hE hW hS q1096 q1097 q1098 q91 q1099 hy_X4_purseOf ⟨rfl, rfl⟩ ⟨Nat.le_of_ble_eq_true rfl, Nat.le_of_ble_eq_true rfl⟩ rfl rfl hl.1 (Nat.le_of_ble_eq_true rfl) ⟨Nat.le_of_ble_eq_true rfl, Nat.le_of_ble_eq_true rfl⟩ dL_purseOf_4 (fun k2 σ2 hk H locs ce q9 hW hS hce hcv hcl => ?_) (fun _ _ hz => by cases hz)
      cases hk
      refine vx_catch (name := exn 1) hown [] ⟨0, 9, 12, 13⟩ [] htab (fun z hz => by cases hz) (by decide) (by decide) (hta _ lk_1) (va_Nw.use (NG_tab _ ca_1) (hE.2.1 _ ca_1)) hce hcv hcl ?_
      refine lv_astore_n (lv' := [(3, .ref q9), (0, .ref (b + 0)), (1, .int p1), (2, .ref (b + 202))]) hx hb dL_purseOf_12 rfl hl (by decide) rfl (fun ls hl => ?_)
      refine lv_iconst (v := 1) hx hb dL_purseOf_13 (by decide) ?_
      cases hf
      refine W.widen (k := 1) (n := 6) (Nat.le_of_ble_eq_true rfl) (Nat.le_of_ble_eq_true rfl) ?_
      exact W.iret hx hb hr (fun u hu _ => ⟨⟨rfl, by rw [hu]; exact hW⟩, hS.F hu⟩) hS.2.2 dL_purseOf_14
    · have hf := ifn h0 hf
      cases hf
  · refine mVXn (k := 0) (q := (0, 0)) (C := RX4) (T := TX4) (N := 8) (ci := 4) (n := 1) (As := [.int p1]) (rest := [.int 0, .ref (b + 202)]) (c_X4_purseOf l hfl D t b σ p1 (.inr y4) u3) sh_0 (by decide) rfl rfl hx hb hml hown hts hE hW hS q1096 q1097 q1098 q91 q1099 hy_X4_purseOf ⟨rfl, rfl⟩ ⟨Nat.le_of_ble_eq_true rfl, Nat.le_of_ble_eq_true rfl⟩ rfl rfl hl.1 (Nat.le_of_ble_eq_true rfl) ⟨Nat.le_of_ble_eq_true rfl, Nat.le_of_ble_eq_true rfl⟩ dL_purseOf_4 (fun H locs hW hS => ?_)
    refine lv_i2l hx hb dL_purseOf_7 rfl ?_
    refine last (k := 202) (i := 0) (x := y4) rfl hx hb hE.1 hW hS sh_202 (vp_lit (by decide +kernel)) dL_purseOf_8 (fun H locs hW hS => ?_)
    obtain ⟨σ5, e6, hf⟩ := st_e hf
    rw [e6] at hW
    refine lv_goto (tgt := 15) hx hb dL_purseOf_9 (by decide) ?_
    refine lv_iconst (v := 0) hx hb dL_purseOf_15 (by decide) ?_
    cases hf
    refine W.widen (k := 1) (n := 6) (Nat.le_of_ble_eq_true rfl) (Nat.le_of_ble_eq_true rfl) ?_
    exact W.iret hx hb hr (fun u hu _ => ⟨⟨rfl, by rw [hu]; exact hW⟩, hS.F hu⟩) hS.2.2 dL_purseOf_16
def f_L_moodOf (σ : Sg) (p1 : Int32) : Option (Int32 × Sg) := bw (f_X4_moodOf σ p1) (fun k => if k = 1 then (some (1, σ)) else (none)) (fun y4 => st (u2 σ 202 (0 : Int32).toNatClampNeg y4) fun σ5 => some (0, σ5))
set_option maxHeartbeats 4000000 in
set_option maxRecDepth 100000 in
theorem c_L_moodOf (l : Launch) (hfl : l.stackTraces = false) (D : va_G) (t : Nat → ClassId) (b : Nat) (σ : Sg) (p1 : Int32) (r : Int32) (σr : Sg) (hf : f_L_moodOf σ p1 = some (r, σr)) : Met l yL_moodOf (Cond.codeWith yL_moodOf cL_moodOf 4 (some .int) [(0, 9, 12, 13)] :: ALL) ({ frames := 8, cells := 1, slots := 6, locals := 124 }) (PM D t b σ [.ref (b + 0), .int p1, .ref (b + 202)]) (QG D t b σr (some (.int r))) 1 6 (geA b) := by
  refine MetH (cc := cL_moodOf) (maxL := 4) (ret := (some .int)) (hh := [(0, 9, 12, 13)]) (by decide) rfl ?_
  intro p e s m args below meth c s₁ B hml hv
  obtain ⟨rfl, hW, hE⟩ := hv
  have hx := B.exec
  have hb := B.bytes
  have hr := B.returns
  have hts := atoms_spec (ws := Cond.codeWith yL_moodOf cL_moodOf 4 (some .int) [(0, 9, 12, 13)] :: ALL) B.pre
  have hta := fun w h => hts w (List.mem_cons_of_mem _ h)
  have htab : c.exceptionTable.toList = tableOf [(0, 9, 12, 13)] := vx_table (x := yL_moodOf) B (hts _ List.mem_cons_self)
  have hown : s.vm.findClass RL = some m.cls := findClass_of_methodNamed B.named
  have hlocks := B.notSynchronized
  have hS : va_S (geA b) s.heap s.heap [] := va_S.rf
  have hl := lv_entry ([.ref (b + 0), .int p1, .ref (b + 202)]) (n := 4) (Nat.le_of_ble_eq_true rfl)
  rw [lg_entry_eq]
  generalize (lg_sl ([.ref (b + 0), .int p1, .ref (b + 202)]) ++ List.replicate (4 - (lg_sl ([.ref (b + 0), .int p1, .ref (b + 202)])).length) Slot.unset).toArray = ls at hl ⊢
  have hl : lv_has ls 4 [(0, .ref (b + 0)), (1, .int p1), (2, .ref (b + 202))] := hl
  unfold f_L_moodOf at hf
  refine lv_aload_n hx hb dL_moodOf_0 rfl (lv_at hl 2 rfl) ?_
  refine lv_iconst (v := 0) hx hb dL_moodOf_1 (by decide) ?_
  refine lv_aload_n hx hb dL_moodOf_2 rfl (lv_at hl 0 rfl) ?_
  refine lv_iload_n hx hb dL_moodOf_3 rfl (lv_at hl 1 rfl) ?_
  rcases bw_e hf with ⟨k2, u3, hf⟩ | ⟨y4, u3, hf⟩
  · skip
    by_cases h0 : k2 = 1
    · have hf := ifp h0 hf
      subst h0
      refine mVX (k := 0) (q := (0, 0)) (C := RX4) (T := TX4) (N := 8) (ci := 4) (n := 1) (As := [.int p1]) (rest := [.int 0, .ref (b + 202)]) (c_X4_moodOf l hfl D t b σ p1 (.inl 1) u3) sh_0 (by decide) rfl rfl hx hb hml hown hts hE hW hS q1103 q1104 q1105 q91 q1106 hy_X4_moodOf ⟨rfl, rfl⟩ ⟨Nat.le_of_ble_eq_true rfl, Nat.le_of_ble_eq_true rfl⟩ rfl rfl hl.1 (Nat.le_of_ble_eq_true rfl) ⟨Nat.le_of_ble_eq_true rfl, Nat.le_of_ble_eq_true rfl⟩ dL_moodOf_4 (fun k2 σ2 hk H locs ce q9 hW hS hce hcv hcl => ?_) (fun _ _ hz => by cases hz)
      cases hk
      refine vx_catch (name := exn 1) hown [] ⟨0, 9, 12, 13⟩ [] htab (fun z hz => by cases hz) (by decide) (by decide) (hta _ lk_1) (va_Nw.use (NG_tab _ ca_1) (hE.2.1 _ ca_1)) hce hcv hcl ?_
      refine lv_astore_n (lv' := [(3, .ref q9), (0, .ref (b + 0)), (1, .int p1), (2, .ref (b + 202))]) hx hb dL_moodOf_12 rfl hl (by decide) rfl (fun ls hl => ?_)
      refine lv_iconst (v := 1) hx hb dL_moodOf_13 (by decide) ?_
      cases hf
      refine W.widen (k := 1) (n := 6) (Nat.le_of_ble_eq_true rfl) (Nat.le_of_ble_eq_true rfl) ?_
      exact W.iret hx hb hr (fun u hu _ => ⟨⟨rfl, by rw [hu]; exact hW⟩, hS.F hu⟩) hS.2.2 dL_moodOf_14
    · have hf := ifn h0 hf
      cases hf
  · refine mVXn (k := 0) (q := (0, 0)) (C := RX4) (T := TX4) (N := 8) (ci := 4) (n := 1) (As := [.int p1]) (rest := [.int 0, .ref (b + 202)]) (c_X4_moodOf l hfl D t b σ p1 (.inr y4) u3) sh_0 (by decide) rfl rfl hx hb hml hown hts hE hW hS q1103 q1104 q1105 q91 q1106 hy_X4_moodOf ⟨rfl, rfl⟩ ⟨Nat.le_of_ble_eq_true rfl, Nat.le_of_ble_eq_true rfl⟩ rfl rfl hl.1 (Nat.le_of_ble_eq_true rfl) ⟨Nat.le_of_ble_eq_true rfl, Nat.le_of_ble_eq_true rfl⟩ dL_moodOf_4 (fun H locs hW hS => ?_)
    refine lv_i2l hx hb dL_moodOf_7 rfl ?_
    refine last (k := 202) (i := 0) (x := y4) rfl hx hb hE.1 hW hS sh_202 (vp_lit (by decide +kernel)) dL_moodOf_8 (fun H locs hW hS => ?_)
    obtain ⟨σ5, e6, hf⟩ := st_e hf
    rw [e6] at hW
    refine lv_goto (tgt := 15) hx hb dL_moodOf_9 (by decide) ?_
    refine lv_iconst (v := 0) hx hb dL_moodOf_15 (by decide) ?_
    cases hf
    refine W.widen (k := 1) (n := 6) (Nat.le_of_ble_eq_true rfl) (Nat.le_of_ble_eq_true rfl) ?_
    exact W.iret hx hb hr (fun u hu _ => ⟨⟨rfl, by rw [hu]; exact hW⟩, hS.F hu⟩) hS.2.2 dL_moodOf_16
def f_L_placeOf (σ : Sg) (p1 : Int32) : Option (Int32 × Sg) := bw (f_X4_placeOf σ p1) (fun k => if k = 1 then (some (1, σ)) else (none)) (fun y4 => st (u2 σ 202 (0 : Int32).toNatClampNeg y4) fun σ5 => some (0, σ5))
set_option maxHeartbeats 4000000 in
set_option maxRecDepth 100000 in
theorem c_L_placeOf (l : Launch) (hfl : l.stackTraces = false) (D : va_G) (t : Nat → ClassId) (b : Nat) (σ : Sg) (p1 : Int32) (r : Int32) (σr : Sg) (hf : f_L_placeOf σ p1 = some (r, σr)) : Met l yL_placeOf (Cond.codeWith yL_placeOf cL_placeOf 4 (some .int) [(0, 9, 12, 13)] :: ALL) ({ frames := 8, cells := 1, slots := 6, locals := 124 }) (PM D t b σ [.ref (b + 0), .int p1, .ref (b + 202)]) (QG D t b σr (some (.int r))) 1 6 (geA b) := by
  refine MetH (cc := cL_placeOf) (maxL := 4) (ret := (some .int)) (hh := [(0, 9, 12, 13)]) (by decide) rfl ?_
  intro p e s m args below meth c s₁ B hml hv
  obtain ⟨rfl, hW, hE⟩ := hv
  have hx := B.exec
  have hb := B.bytes
  have hr := B.returns
  have hts := atoms_spec (ws := Cond.codeWith yL_placeOf cL_placeOf 4 (some .int) [(0, 9, 12, 13)] :: ALL) B.pre
  have hta := fun w h => hts w (List.mem_cons_of_mem _ h)
  have htab : c.exceptionTable.toList = tableOf [(0, 9, 12, 13)] := vx_table (x := yL_placeOf) B (hts _ List.mem_cons_self)
  have hown : s.vm.findClass RL = some m.cls := findClass_of_methodNamed B.named
  have hlocks := B.notSynchronized
  have hS : va_S (geA b) s.heap s.heap [] := va_S.rf
  have hl := lv_entry ([.ref (b + 0), .int p1, .ref (b + 202)]) (n := 4) (Nat.le_of_ble_eq_true rfl)
  rw [lg_entry_eq]
  generalize (lg_sl ([.ref (b + 0), .int p1, .ref (b + 202)]) ++ List.replicate (4 - (lg_sl ([.ref (b + 0), .int p1, .ref (b + 202)])).length) Slot.unset).toArray = ls at hl ⊢
  have hl : lv_has ls 4 [(0, .ref (b + 0)), (1, .int p1), (2, .ref (b + 202))] := hl
  unfold f_L_placeOf at hf
  refine lv_aload_n hx hb dL_placeOf_0 rfl (lv_at hl 2 rfl) ?_
  refine lv_iconst (v := 0) hx hb dL_placeOf_1 (by decide) ?_
  refine lv_aload_n hx hb dL_placeOf_2 rfl (lv_at hl 0 rfl) ?_
  refine lv_iload_n hx hb dL_placeOf_3 rfl (lv_at hl 1 rfl) ?_
  rcases bw_e hf with ⟨k2, u3, hf⟩ | ⟨y4, u3, hf⟩
  · skip
    by_cases h0 : k2 = 1
    · have hf := ifp h0 hf
      subst h0
      refine mVX (k := 0) (q := (0, 0)) (C := RX4) (T := TX4) (N := 8) (ci := 4) (n := 1) (As := [.int p1]) (rest := [.int 0, .ref (b + 202)]) (c_X4_placeOf l hfl D t b σ p1 (.inl 1) u3) sh_0 (by decide) rfl rfl hx hb hml hown hts hE hW hS q1110 q1111 q1112 q91 q1113 hy_X4_placeOf ⟨rfl, rfl⟩ ⟨Nat.le_of_ble_eq_true rfl, Nat.le_of_ble_eq_true rfl⟩ rfl rfl hl.1 (Nat.le_of_ble_eq_true rfl) ⟨Nat.le_of_ble_eq_true rfl, Nat.le_of_ble_eq_true rfl⟩ dL_placeOf_4 (fun k2 σ2 hk H locs ce q9 hW hS hce hcv hcl => ?_) (fun _ _ hz => by cases hz)
      cases hk
      refine vx_catch (name := exn 1) hown [] ⟨0, 9, 12, 13⟩ [] htab (fun z hz => by cases hz) (by decide) (by decide) (hta _ lk_1) (va_Nw.use (NG_tab _ ca_1) (hE.2.1 _ ca_1)) hce hcv hcl ?_
      refine lv_astore_n (lv' := [(3, .ref q9), (0, .ref (b + 0)), (1, .int p1), (2, .ref (b + 202))]) hx hb dL_placeOf_12 rfl hl (by decide) rfl (fun ls hl => ?_)
      refine lv_iconst (v := 1) hx hb dL_placeOf_13 (by decide) ?_
      cases hf
      refine W.widen (k := 1) (n := 6) (Nat.le_of_ble_eq_true rfl) (Nat.le_of_ble_eq_true rfl) ?_
      exact W.iret hx hb hr (fun u hu _ => ⟨⟨rfl, by rw [hu]; exact hW⟩, hS.F hu⟩) hS.2.2 dL_placeOf_14
    · have hf := ifn h0 hf
      cases hf
  · refine mVXn (k := 0) (q := (0, 0)) (C := RX4) (T := TX4) (N := 8) (ci := 4) (n := 1) (As := [.int p1]) (rest := [.int 0, .ref (b + 202)]) (c_X4_placeOf l hfl D t b σ p1 (.inr y4) u3) sh_0 (by decide) rfl rfl hx hb hml hown hts hE hW hS q1110 q1111 q1112 q91 q1113 hy_X4_placeOf ⟨rfl, rfl⟩ ⟨Nat.le_of_ble_eq_true rfl, Nat.le_of_ble_eq_true rfl⟩ rfl rfl hl.1 (Nat.le_of_ble_eq_true rfl) ⟨Nat.le_of_ble_eq_true rfl, Nat.le_of_ble_eq_true rfl⟩ dL_placeOf_4 (fun H locs hW hS => ?_)
    refine lv_i2l hx hb dL_placeOf_7 rfl ?_
    refine last (k := 202) (i := 0) (x := y4) rfl hx hb hE.1 hW hS sh_202 (vp_lit (by decide +kernel)) dL_placeOf_8 (fun H locs hW hS => ?_)
    obtain ⟨σ5, e6, hf⟩ := st_e hf
    rw [e6] at hW
    refine lv_goto (tgt := 15) hx hb dL_placeOf_9 (by decide) ?_
    refine lv_iconst (v := 0) hx hb dL_placeOf_15 (by decide) ?_
    cases hf
    refine W.widen (k := 1) (n := 6) (Nat.le_of_ble_eq_true rfl) (Nat.le_of_ble_eq_true rfl) ?_
    exact W.iret hx hb hr (fun u hu _ => ⟨⟨rfl, by rw [hu]; exact hW⟩, hS.F hu⟩) hS.2.2 dL_placeOf_16
def f_L_isHomeward (σ : Sg) (p1 : Int32) : Option (Int32 × Sg) := bw (f_X4_isHomeward σ p1) (fun k => if k = 1 then (some (1, σ)) else (none)) (fun y4 => if y4 = 0 then (st (u2 σ 202 (0 : Int32).toNatClampNeg 0) fun σ6 => some (0, σ6)) else (st (u2 σ 202 (0 : Int32).toNatClampNeg 1) fun σ8 => some (0, σ8)))
set_option maxHeartbeats 4000000 in
set_option maxRecDepth 100000 in
theorem c_L_isHomeward (l : Launch) (hfl : l.stackTraces = false) (D : va_G) (t : Nat → ClassId) (b : Nat) (σ : Sg) (p1 : Int32) (r : Int32) (σr : Sg) (hf : f_L_isHomeward σ p1 = some (r, σr)) : Met l yL_isHomeward (Cond.codeWith yL_isHomeward cL_isHomeward 4 (some .int) [(0, 16, 19, 13)] :: ALL) ({ frames := 8, cells := 1, slots := 6, locals := 124 }) (PM D t b σ [.ref (b + 0), .int p1, .ref (b + 202)]) (QG D t b σr (some (.int r))) 1 6 (geA b) := by
  refine MetH (cc := cL_isHomeward) (maxL := 4) (ret := (some .int)) (hh := [(0, 16, 19, 13)]) (by decide) rfl ?_
  intro p e s m args below meth c s₁ B hml hv
  obtain ⟨rfl, hW, hE⟩ := hv
  have hx := B.exec
  have hb := B.bytes
  have hr := B.returns
  have hts := atoms_spec (ws := Cond.codeWith yL_isHomeward cL_isHomeward 4 (some .int) [(0, 16, 19, 13)] :: ALL) B.pre
  have hta := fun w h => hts w (List.mem_cons_of_mem _ h)
  have htab : c.exceptionTable.toList = tableOf [(0, 16, 19, 13)] := vx_table (x := yL_isHomeward) B (hts _ List.mem_cons_self)
  have hown : s.vm.findClass RL = some m.cls := findClass_of_methodNamed B.named
  have hlocks := B.notSynchronized
  have hS : va_S (geA b) s.heap s.heap [] := va_S.rf
  have hl := lv_entry ([.ref (b + 0), .int p1, .ref (b + 202)]) (n := 4) (Nat.le_of_ble_eq_true rfl)
  rw [lg_entry_eq]
  generalize (lg_sl ([.ref (b + 0), .int p1, .ref (b + 202)]) ++ List.replicate (4 - (lg_sl ([.ref (b + 0), .int p1, .ref (b + 202)])).length) Slot.unset).toArray = ls at hl ⊢
  have hl : lv_has ls 4 [(0, .ref (b + 0)), (1, .int p1), (2, .ref (b + 202))] := hl
  unfold f_L_isHomeward at hf
  refine lv_aload_n hx hb dL_isHomeward_0 rfl (lv_at hl 2 rfl) ?_
  refine lv_iconst (v := 0) hx hb dL_isHomeward_1 (by decide) ?_
  refine lv_aload_n hx hb dL_isHomeward_2 rfl (lv_at hl 0 rfl) ?_
  refine lv_iload_n hx hb dL_isHomeward_3 rfl (lv_at hl 1 rfl) ?_
  rcases bw_e hf with ⟨k2, u3, hf⟩ | ⟨y4, u3, hf⟩
  · skip
    by_cases h0 : k2 = 1
    · have hf := ifp h0 hf
      subst h0
      refine mVX (k := 0) (q := (0, 0)) (C := RX4) (T := TX4) (N := 8) (ci := 4) (n := 1) (As := [.int p1]) (rest := [.int 0, .ref (b + 202)]) (c_X4_isHomeward l hfl D t b σ p1 (.inl 1) u3) sh_0 (by decide) rfl rfl hx hb hml hown hts hE hW hS q1117 q1118 q1119 q91 q1120 hy_X4_isHomeward ⟨rfl, rfl⟩ ⟨Nat.le_of_ble_eq_true rfl, Nat.le_of_ble_eq_true rfl⟩ rfl rfl hl.1 (Nat.le_of_ble_eq_true rfl) ⟨Nat.le_of_ble_eq_true rfl, Nat.le_of_ble_eq_true rfl⟩ dL_isHomeward_4 (fun k2 σ2 hk H locs ce q9 hW hS hce hcv hcl => ?_) (fun _ _ hz => by cases hz)
      cases hk
      refine vx_catch (name := exn 1) hown [] ⟨0, 16, 19, 13⟩ [] htab (fun z hz => by cases hz) (by decide) (by decide) (hta _ lk_1) (va_Nw.use (NG_tab _ ca_1) (hE.2.1 _ ca_1)) hce hcv hcl ?_
      refine lv_astore_n (lv' := [(3, .ref q9), (0, .ref (b + 0)), (1, .int p1), (2, .ref (b + 202))]) hx hb dL_isHomeward_19 rfl hl (by decide) rfl (fun ls hl => ?_)
      refine lv_iconst (v := 1) hx hb dL_isHomeward_20 (by decide) ?_
      cases hf
      refine W.widen (k := 1) (n := 6) (Nat.le_of_ble_eq_true rfl) (Nat.le_of_ble_eq_true rfl) ?_
      exact W.iret hx hb hr (fun u hu _ => ⟨⟨rfl, by rw [hu]; exact hW⟩, hS.F hu⟩) hS.2.2 dL_isHomeward_21
    · have hf := ifn h0 hf
      cases hf
  · refine mVXn (k := 0) (q := (0, 0)) (C := RX4) (T := TX4) (N := 8) (ci := 4) (n := 1) (As := [.int p1]) (rest := [.int 0, .ref (b + 202)]) (c_X4_isHomeward l hfl D t b σ p1 (.inr y4) u3) sh_0 (by decide) rfl rfl hx hb hml hown hts hE hW hS q1117 q1118 q1119 q91 q1120 hy_X4_isHomeward ⟨rfl, rfl⟩ ⟨Nat.le_of_ble_eq_true rfl, Nat.le_of_ble_eq_true rfl⟩ rfl rfl hl.1 (Nat.le_of_ble_eq_true rfl) ⟨Nat.le_of_ble_eq_true rfl, Nat.le_of_ble_eq_true rfl⟩ dL_isHomeward_4 (fun H locs hW hS => ?_)
    refine lv_if_eq (tgt := 14) hx hb dL_isHomeward_7 (by decide) (fun h5 => ?_) (fun h5 => ?_)
    · have hf := ifp h5 hf
      refine lv_lconst (v := (0 : Int32).toInt64) hx hb dL_isHomeward_14 (by decide) ?_
      refine last (k := 202) (i := 0) (x := 0) rfl hx hb hE.1 hW hS sh_202 (vp_lit (by decide +kernel)) dL_isHomeward_15 (fun H locs hW hS => ?_)
      obtain ⟨σ6, e7, hf⟩ := st_e hf
      rw [e7] at hW
      refine lv_goto (tgt := 22) hx hb dL_isHomeward_16 (by decide) ?_
      refine lv_iconst (v := 0) hx hb dL_isHomeward_22 (by decide) ?_
      cases hf
      refine W.widen (k := 1) (n := 6) (Nat.le_of_ble_eq_true rfl) (Nat.le_of_ble_eq_true rfl) ?_
      exact W.iret hx hb hr (fun u hu _ => ⟨⟨rfl, by rw [hu]; exact hW⟩, hS.F hu⟩) hS.2.2 dL_isHomeward_23
    · have hf := ifn h5 hf
      refine lv_lconst (v := (1 : Int32).toInt64) hx hb dL_isHomeward_10 (by decide) ?_
      refine lv_goto (tgt := 15) hx hb dL_isHomeward_11 (by decide) ?_
      refine last (k := 202) (i := 0) (x := 1) rfl hx hb hE.1 hW hS sh_202 (vp_lit (by decide +kernel)) dL_isHomeward_15 (fun H locs hW hS => ?_)
      obtain ⟨σ8, e9, hf⟩ := st_e hf
      rw [e9] at hW
      refine lv_goto (tgt := 22) hx hb dL_isHomeward_16 (by decide) ?_
      refine lv_iconst (v := 0) hx hb dL_isHomeward_22 (by decide) ?_
      cases hf
      refine W.widen (k := 1) (n := 6) (Nat.le_of_ble_eq_true rfl) (Nat.le_of_ble_eq_true rfl) ?_
      exact W.iret hx hb hr (fun u hu _ => ⟨⟨rfl, by rw [hu]; exact hW⟩, hS.F hu⟩) hS.2.2 dL_isHomeward_23
def f_L_prizesOf (σ : Sg) (p1 : Int32) : Option (Int32 × Sg) := bw (f_X4_prizesOf σ p1) (fun k => if k = 1 then (some (1, σ)) else (none)) (fun y4 => st (u2 σ 202 (0 : Int32).toNatClampNeg y4) fun σ5 => some (0, σ5))
set_option maxHeartbeats 4000000 in
set_option maxRecDepth 100000 in
theorem c_L_prizesOf (l : Launch) (hfl : l.stackTraces = false) (D : va_G) (t : Nat → ClassId) (b : Nat) (σ : Sg) (p1 : Int32) (r : Int32) (σr : Sg) (hf : f_L_prizesOf σ p1 = some (r, σr)) : Met l yL_prizesOf (Cond.codeWith yL_prizesOf cL_prizesOf 4 (some .int) [(0, 9, 12, 13)] :: ALL) ({ frames := 8, cells := 1, slots := 6, locals := 124 }) (PM D t b σ [.ref (b + 0), .int p1, .ref (b + 202)]) (QG D t b σr (some (.int r))) 1 6 (geA b) := by
  refine MetH (cc := cL_prizesOf) (maxL := 4) (ret := (some .int)) (hh := [(0, 9, 12, 13)]) (by decide) rfl ?_
  intro p e s m args below meth c s₁ B hml hv
  obtain ⟨rfl, hW, hE⟩ := hv
  have hx := B.exec
  have hb := B.bytes
  have hr := B.returns
  have hts := atoms_spec (ws := Cond.codeWith yL_prizesOf cL_prizesOf 4 (some .int) [(0, 9, 12, 13)] :: ALL) B.pre
  have hta := fun w h => hts w (List.mem_cons_of_mem _ h)
  have htab : c.exceptionTable.toList = tableOf [(0, 9, 12, 13)] := vx_table (x := yL_prizesOf) B (hts _ List.mem_cons_self)
  have hown : s.vm.findClass RL = some m.cls := findClass_of_methodNamed B.named
  have hlocks := B.notSynchronized
  have hS : va_S (geA b) s.heap s.heap [] := va_S.rf
  have hl := lv_entry ([.ref (b + 0), .int p1, .ref (b + 202)]) (n := 4) (Nat.le_of_ble_eq_true rfl)
  rw [lg_entry_eq]
  generalize (lg_sl ([.ref (b + 0), .int p1, .ref (b + 202)]) ++ List.replicate (4 - (lg_sl ([.ref (b + 0), .int p1, .ref (b + 202)])).length) Slot.unset).toArray = ls at hl ⊢
  have hl : lv_has ls 4 [(0, .ref (b + 0)), (1, .int p1), (2, .ref (b + 202))] := hl
  unfold f_L_prizesOf at hf
  refine lv_aload_n hx hb dL_prizesOf_0 rfl (lv_at hl 2 rfl) ?_
  refine lv_iconst (v := 0) hx hb dL_prizesOf_1 (by decide) ?_
  refine lv_aload_n hx hb dL_prizesOf_2 rfl (lv_at hl 0 rfl) ?_
  refine lv_iload_n hx hb dL_prizesOf_3 rfl (lv_at hl 1 rfl) ?_
  rcases bw_e hf with ⟨k2, u3, hf⟩ | ⟨y4, u3, hf⟩
  · skip
    by_cases h0 : k2 = 1
    · have hf := ifp h0 hf
      subst h0
      refine mVX (k := 0) (q := (0, 0)) (C := RX4) (T := TX4) (N := 8) (ci := 4) (n := 1) (As := [.int p1]) (rest := [.int 0, .ref (b + 202)]) (c_X4_prizesOf l hfl D t b σ p1 (.inl 1) u3) sh_0 (by decide) rfl rfl hx hb hml hown hts hE hW hS q1124 q1125 q1126 q91 q1127 hy_X4_prizesOf ⟨rfl, rfl⟩ ⟨Nat.le_of_ble_eq_true rfl, Nat.le_of_ble_eq_true rfl⟩ rfl rfl hl.1 (Nat.le_of_ble_eq_true rfl) ⟨Nat.le_of_ble_eq_true rfl, Nat.le_of_ble_eq_true rfl⟩ dL_prizesOf_4 (fun k2 σ2 hk H locs ce q9 hW hS hce hcv hcl => ?_) (fun _ _ hz => by cases hz)
      cases hk
      refine vx_catch (name := exn 1) hown [] ⟨0, 9, 12, 13⟩ [] htab (fun z hz => by cases hz) (by decide) (by decide) (hta _ lk_1) (va_Nw.use (NG_tab _ ca_1) (hE.2.1 _ ca_1)) hce hcv hcl ?_
      refine lv_astore_n (lv' := [(3, .ref q9), (0, .ref (b + 0)), (1, .int p1), (2, .ref (b + 202))]) hx hb dL_prizesOf_12 rfl hl (by decide) rfl (fun ls hl => ?_)
      refine lv_iconst (v := 1) hx hb dL_prizesOf_13 (by decide) ?_
      cases hf
      refine W.widen (k := 1) (n := 6) (Nat.le_of_ble_eq_true rfl) (Nat.le_of_ble_eq_true rfl) ?_
      exact W.iret hx hb hr (fun u hu _ => ⟨⟨rfl, by rw [hu]; exact hW⟩, hS.F hu⟩) hS.2.2 dL_prizesOf_14
    · have hf := ifn h0 hf
      cases hf
  · refine mVXn (k := 0) (q := (0, 0)) (C := RX4) (T := TX4) (N := 8) (ci := 4) (n := 1) (As := [.int p1]) (rest := [.int 0, .ref (b + 202)]) (c_X4_prizesOf l hfl D t b σ p1 (.inr y4) u3) sh_0 (by decide) rfl rfl hx hb hml hown hts hE hW hS q1124 q1125 q1126 q91 q1127 hy_X4_prizesOf ⟨rfl, rfl⟩ ⟨Nat.le_of_ble_eq_true rfl, Nat.le_of_ble_eq_true rfl⟩ rfl rfl hl.1 (Nat.le_of_ble_eq_true rfl) ⟨Nat.le_of_ble_eq_true rfl, Nat.le_of_ble_eq_true rfl⟩ dL_prizesOf_4 (fun H locs hW hS => ?_)
    refine lv_i2l hx hb dL_prizesOf_7 rfl ?_
    refine last (k := 202) (i := 0) (x := y4) rfl hx hb hE.1 hW hS sh_202 (vp_lit (by decide +kernel)) dL_prizesOf_8 (fun H locs hW hS => ?_)
    obtain ⟨σ5, e6, hf⟩ := st_e hf
    rw [e6] at hW
    refine lv_goto (tgt := 15) hx hb dL_prizesOf_9 (by decide) ?_
    refine lv_iconst (v := 0) hx hb dL_prizesOf_15 (by decide) ?_
    cases hf
    refine W.widen (k := 1) (n := 6) (Nat.le_of_ble_eq_true rfl) (Nat.le_of_ble_eq_true rfl) ?_
    exact W.iret hx hb hr (fun u hu _ => ⟨⟨rfl, by rw [hu]; exact hW⟩, hS.F hu⟩) hS.2.2 dL_prizesOf_16
def f_L_whyNoPlay (σ : Sg) (p1 : Int32) : Option (Int32 × Sg) := bw (f_X4_whyNoPlay σ p1) (fun k => if k = 1 then (some (1, σ)) else (none)) (fun y4 => st (u2 σ 202 (0 : Int32).toNatClampNeg y4) fun σ5 => some (0, σ5))
set_option maxHeartbeats 4000000 in
set_option maxRecDepth 100000 in
theorem c_L_whyNoPlay (l : Launch) (hfl : l.stackTraces = false) (D : va_G) (t : Nat → ClassId) (b : Nat) (σ : Sg) (p1 : Int32) (r : Int32) (σr : Sg) (hf : f_L_whyNoPlay σ p1 = some (r, σr)) : Met l yL_whyNoPlay (Cond.codeWith yL_whyNoPlay cL_whyNoPlay 4 (some .int) [(0, 9, 12, 13)] :: ALL) ({ frames := 8, cells := 1, slots := 6, locals := 126 }) (PM D t b σ [.ref (b + 0), .int p1, .ref (b + 202)]) (QG D t b σr (some (.int r))) 1 6 (geA b) := by
  refine MetH (cc := cL_whyNoPlay) (maxL := 4) (ret := (some .int)) (hh := [(0, 9, 12, 13)]) (by decide) rfl ?_
  intro p e s m args below meth c s₁ B hml hv
  obtain ⟨rfl, hW, hE⟩ := hv
  have hx := B.exec
  have hb := B.bytes
  have hr := B.returns
  have hts := atoms_spec (ws := Cond.codeWith yL_whyNoPlay cL_whyNoPlay 4 (some .int) [(0, 9, 12, 13)] :: ALL) B.pre
  have hta := fun w h => hts w (List.mem_cons_of_mem _ h)
  have htab : c.exceptionTable.toList = tableOf [(0, 9, 12, 13)] := vx_table (x := yL_whyNoPlay) B (hts _ List.mem_cons_self)
  have hown : s.vm.findClass RL = some m.cls := findClass_of_methodNamed B.named
  have hlocks := B.notSynchronized
  have hS : va_S (geA b) s.heap s.heap [] := va_S.rf
  have hl := lv_entry ([.ref (b + 0), .int p1, .ref (b + 202)]) (n := 4) (Nat.le_of_ble_eq_true rfl)
  rw [lg_entry_eq]
  generalize (lg_sl ([.ref (b + 0), .int p1, .ref (b + 202)]) ++ List.replicate (4 - (lg_sl ([.ref (b + 0), .int p1, .ref (b + 202)])).length) Slot.unset).toArray = ls at hl ⊢
  have hl : lv_has ls 4 [(0, .ref (b + 0)), (1, .int p1), (2, .ref (b + 202))] := hl
  unfold f_L_whyNoPlay at hf
  refine lv_aload_n hx hb dL_whyNoPlay_0 rfl (lv_at hl 2 rfl) ?_
  refine lv_iconst (v := 0) hx hb dL_whyNoPlay_1 (by decide) ?_
  refine lv_aload_n hx hb dL_whyNoPlay_2 rfl (lv_at hl 0 rfl) ?_
  refine lv_iload_n hx hb dL_whyNoPlay_3 rfl (lv_at hl 1 rfl) ?_
  rcases bw_e hf with ⟨k2, u3, hf⟩ | ⟨y4, u3, hf⟩
  · skip
    by_cases h0 : k2 = 1
    · have hf := ifp h0 hf
      subst h0
      refine mVX (k := 0) (q := (0, 0)) (C := RX4) (T := TX4) (N := 8) (ci := 4) (n := 1) (As := [.int p1]) (rest := [.int 0, .ref (b + 202)]) (c_X4_whyNoPlay l hfl D t b σ p1 (.inl 1) u3) sh_0 (by decide) rfl rfl hx hb hml hown hts hE hW hS q1131 q1132 q1133 q91 q1134 hy_X4_whyNoPlay ⟨rfl, rfl⟩ ⟨Nat.le_of_ble_eq_true rfl, Nat.le_of_ble_eq_true rfl⟩ rfl rfl hl.1 (Nat.le_of_ble_eq_true rfl) ⟨Nat.le_of_ble_eq_true rfl, Nat.le_of_ble_eq_true rfl⟩ dL_whyNoPlay_4 (fun k2 σ2 hk H locs ce q9 hW hS hce hcv hcl => ?_) (fun _ _ hz => by cases hz)
      cases hk
      refine vx_catch (name := exn 1) hown [] ⟨0, 9, 12, 13⟩ [] htab (fun z hz => by cases hz) (by decide) (by decide) (hta _ lk_1) (va_Nw.use (NG_tab _ ca_1) (hE.2.1 _ ca_1)) hce hcv hcl ?_
      refine lv_astore_n (lv' := [(3, .ref q9), (0, .ref (b + 0)), (1, .int p1), (2, .ref (b + 202))]) hx hb dL_whyNoPlay_12 rfl hl (by decide) rfl (fun ls hl => ?_)
      refine lv_iconst (v := 1) hx hb dL_whyNoPlay_13 (by decide) ?_
      cases hf
      refine W.widen (k := 1) (n := 6) (Nat.le_of_ble_eq_true rfl) (Nat.le_of_ble_eq_true rfl) ?_
      exact W.iret hx hb hr (fun u hu _ => ⟨⟨rfl, by rw [hu]; exact hW⟩, hS.F hu⟩) hS.2.2 dL_whyNoPlay_14
    · have hf := ifn h0 hf
      cases hf
  · refine mVXn (k := 0) (q := (0, 0)) (C := RX4) (T := TX4) (N := 8) (ci := 4) (n := 1) (As := [.int p1]) (rest := [.int 0, .ref (b + 202)]) (c_X4_whyNoPlay l hfl D t b σ p1 (.inr y4) u3) sh_0 (by decide) rfl rfl hx hb hml hown hts hE hW hS q1131 q1132 q1133 q91 q1134 hy_X4_whyNoPlay ⟨rfl, rfl⟩ ⟨Nat.le_of_ble_eq_true rfl, Nat.le_of_ble_eq_true rfl⟩ rfl rfl hl.1 (Nat.le_of_ble_eq_true rfl) ⟨Nat.le_of_ble_eq_true rfl, Nat.le_of_ble_eq_true rfl⟩ dL_whyNoPlay_4 (fun H locs hW hS => ?_)
    refine lv_i2l hx hb dL_whyNoPlay_7 rfl ?_
    refine last (k := 202) (i := 0) (x := y4) rfl hx hb hE.1 hW hS sh_202 (vp_lit (by decide +kernel)) dL_whyNoPlay_8 (fun H locs hW hS => ?_)
    obtain ⟨σ5, e6, hf⟩ := st_e hf
    rw [e6] at hW
    refine lv_goto (tgt := 15) hx hb dL_whyNoPlay_9 (by decide) ?_
    refine lv_iconst (v := 0) hx hb dL_whyNoPlay_15 (by decide) ?_
    cases hf
    refine W.widen (k := 1) (n := 6) (Nat.le_of_ble_eq_true rfl) (Nat.le_of_ble_eq_true rfl) ?_
    exact W.iret hx hb hr (fun u hu _ => ⟨⟨rfl, by rw [hu]; exact hW⟩, hS.F hu⟩) hS.2.2 dL_whyNoPlay_16
def f_L_crowdOn (σ : Sg) (p1 : Int32) : Option (Int32 × Sg) := bw (f_X4_crowdOn σ p1) (fun k => if k = 1 then (some (1, σ)) else (none)) (fun y4 => st (u2 σ 202 (0 : Int32).toNatClampNeg y4) fun σ5 => some (0, σ5))
set_option maxHeartbeats 4000000 in
set_option maxRecDepth 100000 in
theorem c_L_crowdOn (l : Launch) (hfl : l.stackTraces = false) (D : va_G) (t : Nat → ClassId) (b : Nat) (σ : Sg) (p1 : Int32) (r : Int32) (σr : Sg) (hf : f_L_crowdOn σ p1 = some (r, σr)) : Met l yL_crowdOn (Cond.codeWith yL_crowdOn cL_crowdOn 4 (some .int) [(0, 9, 12, 13)] :: ALL) ({ frames := 8, cells := 1, slots := 6, locals := 124 }) (PM D t b σ [.ref (b + 0), .int p1, .ref (b + 202)]) (QG D t b σr (some (.int r))) 1 6 (geA b) := by
  refine MetH (cc := cL_crowdOn) (maxL := 4) (ret := (some .int)) (hh := [(0, 9, 12, 13)]) (by decide) rfl ?_
  intro p e s m args below meth c s₁ B hml hv
  obtain ⟨rfl, hW, hE⟩ := hv
  have hx := B.exec
  have hb := B.bytes
  have hr := B.returns
  have hts := atoms_spec (ws := Cond.codeWith yL_crowdOn cL_crowdOn 4 (some .int) [(0, 9, 12, 13)] :: ALL) B.pre
  have hta := fun w h => hts w (List.mem_cons_of_mem _ h)
  have htab : c.exceptionTable.toList = tableOf [(0, 9, 12, 13)] := vx_table (x := yL_crowdOn) B (hts _ List.mem_cons_self)
  have hown : s.vm.findClass RL = some m.cls := findClass_of_methodNamed B.named
  have hlocks := B.notSynchronized
  have hS : va_S (geA b) s.heap s.heap [] := va_S.rf
  have hl := lv_entry ([.ref (b + 0), .int p1, .ref (b + 202)]) (n := 4) (Nat.le_of_ble_eq_true rfl)
  rw [lg_entry_eq]
  generalize (lg_sl ([.ref (b + 0), .int p1, .ref (b + 202)]) ++ List.replicate (4 - (lg_sl ([.ref (b + 0), .int p1, .ref (b + 202)])).length) Slot.unset).toArray = ls at hl ⊢
  have hl : lv_has ls 4 [(0, .ref (b + 0)), (1, .int p1), (2, .ref (b + 202))] := hl
  unfold f_L_crowdOn at hf
  refine lv_aload_n hx hb dL_crowdOn_0 rfl (lv_at hl 2 rfl) ?_
  refine lv_iconst (v := 0) hx hb dL_crowdOn_1 (by decide) ?_
  refine lv_aload_n hx hb dL_crowdOn_2 rfl (lv_at hl 0 rfl) ?_
  refine lv_iload_n hx hb dL_crowdOn_3 rfl (lv_at hl 1 rfl) ?_
  rcases bw_e hf with ⟨k2, u3, hf⟩ | ⟨y4, u3, hf⟩
  · skip
    by_cases h0 : k2 = 1
    · have hf := ifp h0 hf
      subst h0
      refine mVX (k := 0) (q := (0, 0)) (C := RX4) (T := TX4) (N := 8) (ci := 4) (n := 1) (As := [.int p1]) (rest := [.int 0, .ref (b + 202)]) (c_X4_crowdOn l hfl D t b σ p1 (.inl 1) u3) sh_0 (by decide) rfl rfl hx hb hml hown hts hE hW hS q1140 q1141 q1142 q91 q1143 hy_X4_crowdOn ⟨rfl, rfl⟩ ⟨Nat.le_of_ble_eq_true rfl, Nat.le_of_ble_eq_true rfl⟩ rfl rfl hl.1 (Nat.le_of_ble_eq_true rfl) ⟨Nat.le_of_ble_eq_true rfl, Nat.le_of_ble_eq_true rfl⟩ dL_crowdOn_4 (fun k2 σ2 hk H locs ce q9 hW hS hce hcv hcl => ?_) (fun _ _ hz => by cases hz)
      cases hk
      refine vx_catch (name := exn 1) hown [] ⟨0, 9, 12, 13⟩ [] htab (fun z hz => by cases hz) (by decide) (by decide) (hta _ lk_1) (va_Nw.use (NG_tab _ ca_1) (hE.2.1 _ ca_1)) hce hcv hcl ?_
      refine lv_astore_n (lv' := [(3, .ref q9), (0, .ref (b + 0)), (1, .int p1), (2, .ref (b + 202))]) hx hb dL_crowdOn_12 rfl hl (by decide) rfl (fun ls hl => ?_)
      refine lv_iconst (v := 1) hx hb dL_crowdOn_13 (by decide) ?_
      cases hf
      refine W.widen (k := 1) (n := 6) (Nat.le_of_ble_eq_true rfl) (Nat.le_of_ble_eq_true rfl) ?_
      exact W.iret hx hb hr (fun u hu _ => ⟨⟨rfl, by rw [hu]; exact hW⟩, hS.F hu⟩) hS.2.2 dL_crowdOn_14
    · have hf := ifn h0 hf
      cases hf
  · refine mVXn (k := 0) (q := (0, 0)) (C := RX4) (T := TX4) (N := 8) (ci := 4) (n := 1) (As := [.int p1]) (rest := [.int 0, .ref (b + 202)]) (c_X4_crowdOn l hfl D t b σ p1 (.inr y4) u3) sh_0 (by decide) rfl rfl hx hb hml hown hts hE hW hS q1140 q1141 q1142 q91 q1143 hy_X4_crowdOn ⟨rfl, rfl⟩ ⟨Nat.le_of_ble_eq_true rfl, Nat.le_of_ble_eq_true rfl⟩ rfl rfl hl.1 (Nat.le_of_ble_eq_true rfl) ⟨Nat.le_of_ble_eq_true rfl, Nat.le_of_ble_eq_true rfl⟩ dL_crowdOn_4 (fun H locs hW hS => ?_)
    refine lv_i2l hx hb dL_crowdOn_7 rfl ?_
    refine last (k := 202) (i := 0) (x := y4) rfl hx hb hE.1 hW hS sh_202 (vp_lit (by decide +kernel)) dL_crowdOn_8 (fun H locs hW hS => ?_)
    obtain ⟨σ5, e6, hf⟩ := st_e hf
    rw [e6] at hW
    refine lv_goto (tgt := 15) hx hb dL_crowdOn_9 (by decide) ?_
    refine lv_iconst (v := 0) hx hb dL_crowdOn_15 (by decide) ?_
    cases hf
    refine W.widen (k := 1) (n := 6) (Nat.le_of_ble_eq_true rfl) (Nat.le_of_ble_eq_true rfl) ?_
    exact W.iret hx hb hr (fun u hu _ => ⟨⟨rfl, by rw [hu]; exact hW⟩, hS.F hu⟩) hS.2.2 dL_crowdOn_16
def f_L_rainIn (σ : Sg) (p1 : Int32) : Option (Int32 × Sg) := bw (f_X4_rainIn σ p1) (fun k => if k = 1 then (some (1, σ)) else (none)) (fun y4 => st (u2 σ 202 (0 : Int32).toNatClampNeg y4) fun σ5 => some (0, σ5))
set_option maxHeartbeats 4000000 in
set_option maxRecDepth 100000 in
theorem c_L_rainIn (l : Launch) (hfl : l.stackTraces = false) (D : va_G) (t : Nat → ClassId) (b : Nat) (σ : Sg) (p1 : Int32) (r : Int32) (σr : Sg) (hf : f_L_rainIn σ p1 = some (r, σr)) : Met l yL_rainIn (Cond.codeWith yL_rainIn cL_rainIn 4 (some .int) [(0, 9, 12, 13)] :: ALL) ({ frames := 8, cells := 1, slots := 6, locals := 124 }) (PM D t b σ [.ref (b + 0), .int p1, .ref (b + 202)]) (QG D t b σr (some (.int r))) 1 6 (geA b) := by
  refine MetH (cc := cL_rainIn) (maxL := 4) (ret := (some .int)) (hh := [(0, 9, 12, 13)]) (by decide) rfl ?_
  intro p e s m args below meth c s₁ B hml hv
  obtain ⟨rfl, hW, hE⟩ := hv
  have hx := B.exec
  have hb := B.bytes
  have hr := B.returns
  have hts := atoms_spec (ws := Cond.codeWith yL_rainIn cL_rainIn 4 (some .int) [(0, 9, 12, 13)] :: ALL) B.pre
  have hta := fun w h => hts w (List.mem_cons_of_mem _ h)
  have htab : c.exceptionTable.toList = tableOf [(0, 9, 12, 13)] := vx_table (x := yL_rainIn) B (hts _ List.mem_cons_self)
  have hown : s.vm.findClass RL = some m.cls := findClass_of_methodNamed B.named
  have hlocks := B.notSynchronized
  have hS : va_S (geA b) s.heap s.heap [] := va_S.rf
  have hl := lv_entry ([.ref (b + 0), .int p1, .ref (b + 202)]) (n := 4) (Nat.le_of_ble_eq_true rfl)
  rw [lg_entry_eq]
  generalize (lg_sl ([.ref (b + 0), .int p1, .ref (b + 202)]) ++ List.replicate (4 - (lg_sl ([.ref (b + 0), .int p1, .ref (b + 202)])).length) Slot.unset).toArray = ls at hl ⊢
  have hl : lv_has ls 4 [(0, .ref (b + 0)), (1, .int p1), (2, .ref (b + 202))] := hl
  unfold f_L_rainIn at hf
  refine lv_aload_n hx hb dL_rainIn_0 rfl (lv_at hl 2 rfl) ?_
  refine lv_iconst (v := 0) hx hb dL_rainIn_1 (by decide) ?_
  refine lv_aload_n hx hb dL_rainIn_2 rfl (lv_at hl 0 rfl) ?_
  refine lv_iload_n hx hb dL_rainIn_3 rfl (lv_at hl 1 rfl) ?_
  rcases bw_e hf with ⟨k2, u3, hf⟩ | ⟨y4, u3, hf⟩
  · skip
    by_cases h0 : k2 = 1
    · have hf := ifp h0 hf
      subst h0
      refine mVX (k := 0) (q := (0, 0)) (C := RX4) (T := TX4) (N := 8) (ci := 4) (n := 1) (As := [.int p1]) (rest := [.int 0, .ref (b + 202)]) (c_X4_rainIn l hfl D t b σ p1 (.inl 1) u3) sh_0 (by decide) rfl rfl hx hb hml hown hts hE hW hS q1151 q1152 q1153 q91 q1154 hy_X4_rainIn ⟨rfl, rfl⟩ ⟨Nat.le_of_ble_eq_true rfl, Nat.le_of_ble_eq_true rfl⟩ rfl rfl hl.1 (Nat.le_of_ble_eq_true rfl) ⟨Nat.le_of_ble_eq_true rfl, Nat.le_of_ble_eq_true rfl⟩ dL_rainIn_4 (fun k2 σ2 hk H locs ce q9 hW hS hce hcv hcl => ?_) (fun _ _ hz => by cases hz)
      cases hk
      refine vx_catch (name := exn 1) hown [] ⟨0, 9, 12, 13⟩ [] htab (fun z hz => by cases hz) (by decide) (by decide) (hta _ lk_1) (va_Nw.use (NG_tab _ ca_1) (hE.2.1 _ ca_1)) hce hcv hcl ?_
      refine lv_astore_n (lv' := [(3, .ref q9), (0, .ref (b + 0)), (1, .int p1), (2, .ref (b + 202))]) hx hb dL_rainIn_12 rfl hl (by decide) rfl (fun ls hl => ?_)
      refine lv_iconst (v := 1) hx hb dL_rainIn_13 (by decide) ?_
      cases hf
      refine W.widen (k := 1) (n := 6) (Nat.le_of_ble_eq_true rfl) (Nat.le_of_ble_eq_true rfl) ?_
      exact W.iret hx hb hr (fun u hu _ => ⟨⟨rfl, by rw [hu]; exact hW⟩, hS.F hu⟩) hS.2.2 dL_rainIn_14
    · have hf := ifn h0 hf
      cases hf
  · refine mVXn (k := 0) (q := (0, 0)) (C := RX4) (T := TX4) (N := 8) (ci := 4) (n := 1) (As := [.int p1]) (rest := [.int 0, .ref (b + 202)]) (c_X4_rainIn l hfl D t b σ p1 (.inr y4) u3) sh_0 (by decide) rfl rfl hx hb hml hown hts hE hW hS q1151 q1152 q1153 q91 q1154 hy_X4_rainIn ⟨rfl, rfl⟩ ⟨Nat.le_of_ble_eq_true rfl, Nat.le_of_ble_eq_true rfl⟩ rfl rfl hl.1 (Nat.le_of_ble_eq_true rfl) ⟨Nat.le_of_ble_eq_true rfl, Nat.le_of_ble_eq_true rfl⟩ dL_rainIn_4 (fun H locs hW hS => ?_)
    refine lv_i2l hx hb dL_rainIn_7 rfl ?_
    refine last (k := 202) (i := 0) (x := y4) rfl hx hb hE.1 hW hS sh_202 (vp_lit (by decide +kernel)) dL_rainIn_8 (fun H locs hW hS => ?_)
    obtain ⟨σ5, e6, hf⟩ := st_e hf
    rw [e6] at hW
    refine lv_goto (tgt := 15) hx hb dL_rainIn_9 (by decide) ?_
    refine lv_iconst (v := 0) hx hb dL_rainIn_15 (by decide) ?_
    cases hf
    refine W.widen (k := 1) (n := 6) (Nat.le_of_ble_eq_true rfl) (Nat.le_of_ble_eq_true rfl) ?_
    exact W.iret hx hb hr (fun u hu _ => ⟨⟨rfl, by rw [hu]; exact hW⟩, hS.F hu⟩) hS.2.2 dL_rainIn_16
def f_L_homeIn (σ : Sg) (p1 : Int32) : Option (Int32 × Sg) := bw (f_X4_homeIn σ p1) (fun k => if k = 1 then (some (1, σ)) else (none)) (fun y => st (u2 y.2 202 (0 : Int32).toNatClampNeg y.1) fun σ7 => some (0, σ7))
set_option maxHeartbeats 4000000 in
set_option maxRecDepth 100000 in
theorem c_L_homeIn (l : Launch) (hfl : l.stackTraces = false) (D : va_G) (t : Nat → ClassId) (b : Nat) (σ : Sg) (p1 : Int32) (r : Int32) (σr : Sg) (hf : f_L_homeIn σ p1 = some (r, σr)) : Met l yL_homeIn (Cond.codeWith yL_homeIn cL_homeIn 4 (some .int) [(0, 9, 12, 13)] :: ALL) ({ frames := 8, cells := 1, slots := 6, locals := 125 }) (PM D t b σ [.ref (b + 0), .int p1, .ref (b + 202)]) (QG D t b σr (some (.int r))) 1 6 (geA b) := by
  refine MetH (cc := cL_homeIn) (maxL := 4) (ret := (some .int)) (hh := [(0, 9, 12, 13)]) (by decide) rfl ?_
  intro p e s m args below meth c s₁ B hml hv
  obtain ⟨rfl, hW, hE⟩ := hv
  have hx := B.exec
  have hb := B.bytes
  have hr := B.returns
  have hts := atoms_spec (ws := Cond.codeWith yL_homeIn cL_homeIn 4 (some .int) [(0, 9, 12, 13)] :: ALL) B.pre
  have hta := fun w h => hts w (List.mem_cons_of_mem _ h)
  have htab : c.exceptionTable.toList = tableOf [(0, 9, 12, 13)] := vx_table (x := yL_homeIn) B (hts _ List.mem_cons_self)
  have hown : s.vm.findClass RL = some m.cls := findClass_of_methodNamed B.named
  have hlocks := B.notSynchronized
  have hS : va_S (geA b) s.heap s.heap [] := va_S.rf
  have hl := lv_entry ([.ref (b + 0), .int p1, .ref (b + 202)]) (n := 4) (Nat.le_of_ble_eq_true rfl)
  rw [lg_entry_eq]
  generalize (lg_sl ([.ref (b + 0), .int p1, .ref (b + 202)]) ++ List.replicate (4 - (lg_sl ([.ref (b + 0), .int p1, .ref (b + 202)])).length) Slot.unset).toArray = ls at hl ⊢
  have hl : lv_has ls 4 [(0, .ref (b + 0)), (1, .int p1), (2, .ref (b + 202))] := hl
  unfold f_L_homeIn at hf
  refine lv_aload_n hx hb dL_homeIn_0 rfl (lv_at hl 2 rfl) ?_
  refine lv_iconst (v := 0) hx hb dL_homeIn_1 (by decide) ?_
  refine lv_aload_n hx hb dL_homeIn_2 rfl (lv_at hl 0 rfl) ?_
  refine lv_iload_n hx hb dL_homeIn_3 rfl (lv_at hl 1 rfl) ?_
  rcases bw_e hf with ⟨k2, u3, hf⟩ | ⟨y4, u3, hf⟩
  · skip
    by_cases h0 : k2 = 1
    · have hf := ifp h0 hf
      subst h0
      refine mVX (k := 0) (q := (0, 0)) (C := RX4) (T := TX4) (N := 8) (ci := 4) (n := 1) (As := [.int p1]) (rest := [.int 0, .ref (b + 202)]) (c_X4_homeIn l hfl D t b σ p1 (.inl 1) u3) sh_0 (by decide) rfl rfl hx hb hml hown hts hE hW hS q1159 q1160 q1161 q91 q1162 hy_X4_homeIn ⟨rfl, rfl⟩ ⟨Nat.le_of_ble_eq_true rfl, Nat.le_of_ble_eq_true rfl⟩ rfl rfl hl.1 (Nat.le_of_ble_eq_true rfl) ⟨Nat.le_of_ble_eq_true rfl, Nat.le_of_ble_eq_true rfl⟩ dL_homeIn_4 (fun k2 σ2 hk H locs ce q9 hW hS hce hcv hcl => ?_) (fun _ _ hz => by cases hz)
      cases hk
      refine vx_catch (name := exn 1) hown [] ⟨0, 9, 12, 13⟩ [] htab (fun z hz => by cases hz) (by decide) (by decide) (hta _ lk_1) (va_Nw.use (NG_tab _ ca_1) (hE.2.1 _ ca_1)) hce hcv hcl ?_
      refine lv_astore_n (lv' := [(3, .ref q9), (0, .ref (b + 0)), (1, .int p1), (2, .ref (b + 202))]) hx hb dL_homeIn_12 rfl hl (by decide) rfl (fun ls hl => ?_)
      refine lv_iconst (v := 1) hx hb dL_homeIn_13 (by decide) ?_
      cases hf
      refine W.widen (k := 1) (n := 6) (Nat.le_of_ble_eq_true rfl) (Nat.le_of_ble_eq_true rfl) ?_
      exact W.iret hx hb hr (fun u hu _ => ⟨⟨rfl, by rw [hu]; exact hW⟩, hS.F hu⟩) hS.2.2 dL_homeIn_14
    · have hf := ifn h0 hf
      cases hf
  · obtain ⟨y6, σ5⟩ := y4
    refine mVXn (k := 0) (q := (0, 0)) (C := RX4) (T := TX4) (N := 8) (ci := 4) (n := 1) (As := [.int p1]) (rest := [.int 0, .ref (b + 202)]) (c_X4_homeIn l hfl D t b σ p1 (.inr (y6, σ5)) u3) sh_0 (by decide) rfl rfl hx hb hml hown hts hE hW hS q1159 q1160 q1161 q91 q1162 hy_X4_homeIn ⟨rfl, rfl⟩ ⟨Nat.le_of_ble_eq_true rfl, Nat.le_of_ble_eq_true rfl⟩ rfl rfl hl.1 (Nat.le_of_ble_eq_true rfl) ⟨Nat.le_of_ble_eq_true rfl, Nat.le_of_ble_eq_true rfl⟩ dL_homeIn_4 (fun H locs hW hS => ?_)
    refine lv_i2l hx hb dL_homeIn_7 rfl ?_
    refine last (k := 202) (i := 0) (x := y6) rfl hx hb hE.1 hW hS sh_202 (vp_lit (by decide +kernel)) dL_homeIn_8 (fun H locs hW hS => ?_)
    obtain ⟨σ7, e8, hf⟩ := st_e hf
    rw [e8] at hW
    refine lv_goto (tgt := 15) hx hb dL_homeIn_9 (by decide) ?_
    refine lv_iconst (v := 0) hx hb dL_homeIn_15 (by decide) ?_
    cases hf
    refine W.widen (k := 1) (n := 6) (Nat.le_of_ble_eq_true rfl) (Nat.le_of_ble_eq_true rfl) ?_
    exact W.iret hx hb hr (fun u hu _ => ⟨⟨rfl, by rw [hu]; exact hW⟩, hS.F hu⟩) hS.2.2 dL_homeIn_16
def f_L_bestPitch (σ : Sg) (p1 : Int32) (p2 : Int32) : Option (Int32 × Sg) := bw (f_X4_bestPitch σ p1 p2) (fun k => if k = 1 then (some (1, σ)) else (if k = 2 then (some (2, σ)) else (none))) (fun y => st (u2 y.2 202 (0 : Int32).toNatClampNeg y.1) fun σ7 => some (0, σ7))
set_option maxHeartbeats 4000000 in
set_option maxRecDepth 100000 in
theorem c_L_bestPitch (l : Launch) (hfl : l.stackTraces = false) (D : va_G) (t : Nat → ClassId) (b : Nat) (σ : Sg) (p1 : Int32) (p2 : Int32) (r : Int32) (σr : Sg) (hf : f_L_bestPitch σ p1 p2 = some (r, σr)) : Met l yL_bestPitch (Cond.codeWith yL_bestPitch cL_bestPitch 5 (some .int) [(0, 10, 13, 13), (0, 10, 17, 15)] :: ALL) ({ frames := 8, cells := 2, slots := 12, locals := 153 }) (PM D t b σ [.ref (b + 0), .int p1, .int p2, .ref (b + 202)]) (QG D t b σr (some (.int r))) 2 12 (geA b) := by
  refine MetH (cc := cL_bestPitch) (maxL := 5) (ret := (some .int)) (hh := [(0, 10, 13, 13), (0, 10, 17, 15)]) (by decide) rfl ?_
  intro p e s m args below meth c s₁ B hml hv
  obtain ⟨rfl, hW, hE⟩ := hv
  have hx := B.exec
  have hb := B.bytes
  have hr := B.returns
  have hts := atoms_spec (ws := Cond.codeWith yL_bestPitch cL_bestPitch 5 (some .int) [(0, 10, 13, 13), (0, 10, 17, 15)] :: ALL) B.pre
  have hta := fun w h => hts w (List.mem_cons_of_mem _ h)
  have htab : c.exceptionTable.toList = tableOf [(0, 10, 13, 13), (0, 10, 17, 15)] := vx_table (x := yL_bestPitch) B (hts _ List.mem_cons_self)
  have hown : s.vm.findClass RL = some m.cls := findClass_of_methodNamed B.named
  have hlocks := B.notSynchronized
  have hS : va_S (geA b) s.heap s.heap [] := va_S.rf
  have hl := lv_entry ([.ref (b + 0), .int p1, .int p2, .ref (b + 202)]) (n := 5) (Nat.le_of_ble_eq_true rfl)
  rw [lg_entry_eq]
  generalize (lg_sl ([.ref (b + 0), .int p1, .int p2, .ref (b + 202)]) ++ List.replicate (5 - (lg_sl ([.ref (b + 0), .int p1, .int p2, .ref (b + 202)])).length) Slot.unset).toArray = ls at hl ⊢
  have hl : lv_has ls 5 [(0, .ref (b + 0)), (1, .int p1), (2, .int p2), (3, .ref (b + 202))] := hl
  unfold f_L_bestPitch at hf
  refine lv_aload_n hx hb dL_bestPitch_0 rfl (lv_at hl 3 rfl) ?_
  refine lv_iconst (v := 0) hx hb dL_bestPitch_1 (by decide) ?_
  refine lv_aload_n hx hb dL_bestPitch_2 rfl (lv_at hl 0 rfl) ?_
  refine lv_iload_n hx hb dL_bestPitch_3 rfl (lv_at hl 1 rfl) ?_
  refine lv_iload_n hx hb dL_bestPitch_4 rfl (lv_at hl 2 rfl) ?_
  rcases bw_e hf with ⟨k2, u3, hf⟩ | ⟨y4, u3, hf⟩
  · skip
    by_cases h0 : k2 = 1
    · have hf := ifp h0 hf
      subst h0
      refine mVX (k := 0) (q := (0, 0)) (C := RX4) (T := TX4) (N := 8) (ci := 4) (n := 2) (As := [.int p1, .int p2]) (rest := [.int 0, .ref (b + 202)]) (c_X4_bestPitch l hfl D t b σ p1 p2 (.inl 1) u3) sh_0 (by decide) rfl rfl hx hb hml hown hts hE hW hS q1166 q1167 q1168 q91 q1169 hy_X4_bestPitch ⟨rfl, rfl⟩ ⟨Nat.le_of_ble_eq_true rfl, Nat.le_of_ble_eq_true rfl⟩ rfl rfl hl.1 (Nat.le_of_ble_eq_true rfl) ⟨Nat.le_of_ble_eq_true rfl, Nat.le_of_ble_eq_true rfl⟩ dL_bestPitch_5 (fun k2 σ2 hk H locs ce q9 hW hS hce hcv hcl => ?_) (fun _ _ hz => by cases hz)
      cases hk
      refine vx_catch (name := exn 1) hown [] ⟨0, 10, 13, 13⟩ [⟨0, 10, 17, 15⟩] htab (fun z hz => by cases hz) (by decide) (by decide) (hta _ lk_1) (va_Nw.use (NG_tab _ ca_1) (hE.2.1 _ ca_1)) hce hcv hcl ?_
      refine lv_astore (lv' := [(4, .ref q9), (0, .ref (b + 0)), (1, .int p1), (2, .int p2), (3, .ref (b + 202))]) hx hb dL_bestPitch_13 hl (by decide) rfl (fun ls hl => ?_)
      refine lv_iconst (v := 1) hx hb dL_bestPitch_15 (by decide) ?_
      cases hf
      refine W.widen (k := 2) (n := 12) (Nat.le_of_ble_eq_true rfl) (Nat.le_of_ble_eq_true rfl) ?_
      exact W.iret hx hb hr (fun u hu _ => ⟨⟨rfl, by rw [hu]; exact hW⟩, hS.F hu⟩) hS.2.2 dL_bestPitch_16
    · have hf := ifn h0 hf
      by_cases h1 : k2 = 2
      · have hf := ifp h1 hf
        subst h1
        refine mVX (k := 0) (q := (0, 0)) (C := RX4) (T := TX4) (N := 8) (ci := 4) (n := 2) (As := [.int p1, .int p2]) (rest := [.int 0, .ref (b + 202)]) (c_X4_bestPitch l hfl D t b σ p1 p2 (.inl 2) u3) sh_0 (by decide) rfl rfl hx hb hml hown hts hE hW hS q1166 q1167 q1168 q91 q1169 hy_X4_bestPitch ⟨rfl, rfl⟩ ⟨Nat.le_of_ble_eq_true rfl, Nat.le_of_ble_eq_true rfl⟩ rfl rfl hl.1 (Nat.le_of_ble_eq_true rfl) ⟨Nat.le_of_ble_eq_true rfl, Nat.le_of_ble_eq_true rfl⟩ dL_bestPitch_5 (fun k2 σ2 hk H locs ce q9 hW hS hce hcv hcl => ?_) (fun _ _ hz => by cases hz)
        cases hk
        refine vx_catch (name := exn 2) hown [⟨0, 10, 13, 13⟩] ⟨0, 10, 17, 15⟩ [] htab (fun z hz => by rw [List.mem_singleton.mp hz]; exact Or.inr ⟨by decide, _, hta _ lk_1, nc_21 hE⟩) (by decide) (by decide) (hta _ lk_2) (va_Nw.use (NG_tab _ ca_2) (hE.2.1 _ ca_2)) hce hcv hcl ?_
        refine lv_astore (lv' := [(4, .ref q9), (0, .ref (b + 0)), (1, .int p1), (2, .int p2), (3, .ref (b + 202))]) hx hb dL_bestPitch_17 hl (by decide) rfl (fun ls hl => ?_)
        refine lv_iconst (v := 2) hx hb dL_bestPitch_19 (by decide) ?_
        cases hf
        refine W.widen (k := 2) (n := 12) (Nat.le_of_ble_eq_true rfl) (Nat.le_of_ble_eq_true rfl) ?_
        exact W.iret hx hb hr (fun u hu _ => ⟨⟨rfl, by rw [hu]; exact hW⟩, hS.F hu⟩) hS.2.2 dL_bestPitch_20
      · have hf := ifn h1 hf
        cases hf
  · obtain ⟨y6, σ5⟩ := y4
    refine mVXn (k := 0) (q := (0, 0)) (C := RX4) (T := TX4) (N := 8) (ci := 4) (n := 2) (As := [.int p1, .int p2]) (rest := [.int 0, .ref (b + 202)]) (c_X4_bestPitch l hfl D t b σ p1 p2 (.inr (y6, σ5)) u3) sh_0 (by decide) rfl rfl hx hb hml hown hts hE hW hS q1166 q1167 q1168 q91 q1169 hy_X4_bestPitch ⟨rfl, rfl⟩ ⟨Nat.le_of_ble_eq_true rfl, Nat.le_of_ble_eq_true rfl⟩ rfl rfl hl.1 (Nat.le_of_ble_eq_true rfl) ⟨Nat.le_of_ble_eq_true rfl, Nat.le_of_ble_eq_true rfl⟩ dL_bestPitch_5 (fun H locs hW hS => ?_)
    refine lv_i2l hx hb dL_bestPitch_8 rfl ?_
    refine last (k := 202) (i := 0) (x := y6) rfl hx hb hE.1 hW hS sh_202 (vp_lit (by decide +kernel)) dL_bestPitch_9 (fun H locs hW hS => ?_)
    obtain ⟨σ7, e8, hf⟩ := st_e hf
    rw [e8] at hW
    refine lv_goto (tgt := 21) hx hb dL_bestPitch_10 (by decide) ?_
    refine lv_iconst (v := 0) hx hb dL_bestPitch_21 (by decide) ?_
    cases hf
    refine W.widen (k := 2) (n := 12) (Nat.le_of_ble_eq_true rfl) (Nat.le_of_ble_eq_true rfl) ?_
    exact W.iret hx hb hr (fun u hu _ => ⟨⟨rfl, by rw [hu]; exact hW⟩, hS.F hu⟩) hS.2.2 dL_bestPitch_22

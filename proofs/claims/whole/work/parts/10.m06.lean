def l_X5_isWhole_12 : Nat → Sg → Int32 → Option (Int32 × Sg)
  | 0, _, _ => none
  | n + 1, τ, x1 => if x1 = 0 then (if (τ 193 11) = (τ 193 9) then (some (1, τ)) else (some (0, τ))) else (b2 (f_X5_isOrder τ) fun y7 σ9 => if y7 = 0 then (some (0, σ9)) else (st (u2 σ9 193 13 ((σ9 193 13) + 1)) fun σ11 => b2 (f_X5_takes σ11 59) fun y13 σ15 => l_X5_isWhole_12 n σ15 y13))
def f_X5_isWhole (σ : Sg) : Option (Int32 × Sg) := st (u2 σ 193 11 0) fun σ1 => st (u2 σ1 193 13 0) fun σ3 => l_X5_isWhole_12 10000 σ3 1
set_option maxHeartbeats 4000000 in
set_option maxRecDepth 100000 in
theorem c_X5_isWhole (l : Launch) (D : va_G) (t : Nat → ClassId) (b : Nat) (σ : Sg) (r : Int32) (σr : Sg) (hf : f_X5_isWhole σ = some (r, σr)) : Met l yX5_isWhole (Cond.code yX5_isWhole cX5_isWhole 2 (some .boolean) :: ALL) ({ frames := 4, cells := 0, slots := 0, locals := 87 }) (PM D t b σ [.ref (b + 193)]) (QG D t b σr (some (.int r))) 0 0 (geA b) := by
  refine Met.ofW (cc := cX5_isWhole) (maxL := 2) (ret := (some .boolean)) (by decide) rfl ?_
  intro p e s m args below meth c s₁ B hml hv
  obtain ⟨rfl, hW, hE⟩ := hv
  have hx := B.exec
  have hb := B.bytes
  have hr := B.returns
  have hts := atoms_spec (ws := Cond.code yX5_isWhole cX5_isWhole 2 (some .boolean) :: ALL) B.pre
  have hta := fun w h => hts w (List.mem_cons_of_mem _ h)
  have hown : s.vm.findClass RX5 = some m.cls := findClass_of_methodNamed B.named
  have hlocks := B.notSynchronized
  have hS : va_S (geA b) s.heap s.heap [] := va_S.rf
  have hl := lv_entry ([.ref (b + 193)]) (n := 2) (Nat.le_of_ble_eq_true rfl)
  rw [lg_entry_eq]
  generalize (lg_sl ([.ref (b + 193)]) ++ List.replicate (2 - (lg_sl ([.ref (b + 193)])).length) Slot.unset).toArray = ls at hl ⊢
  have hl : lv_has ls 2 [(0, .ref (b + 193))] := hl
  unfold f_X5_isWhole at hf
  refine lv_aload_n hx hb dX5_isWhole_0 rfl (lv_at hl 0 rfl) ?_
  refine lv_iconst (v := 0) hx hb dX5_isWhole_1 (by decide) ?_
  refine putX (k := 193) (q := (5, 0)) (ci := 5) (x := 0) inA5 tyX5_ok nmX5 rfl (by decide) rfl hx hb hta hown hE.1 hW hS sh_193 11 (by decide) q1192 rfl rfl rfl (Nat.le_of_ble_eq_true rfl) rfl dX5_isWhole_2 (fun H locs hW hS => ?_)
  obtain ⟨σ1, e2, hf⟩ := st_e hf
  rw [e2] at hW
  refine lv_aload_n hx hb dX5_isWhole_5 rfl (lv_at hl 0 rfl) ?_
  refine lv_iconst (v := 0) hx hb dX5_isWhole_6 (by decide) ?_
  refine putX (k := 193) (q := (5, 0)) (ci := 5) (x := 0) inA5 tyX5_ok nmX5 rfl (by decide) rfl hx hb hta hown hE.1 hW hS sh_193 13 (by decide) q1194 rfl rfl rfl (Nat.le_of_ble_eq_true rfl) rfl dX5_isWhole_7 (fun H locs hW hS => ?_)
  obtain ⟨σ3, e4, hf⟩ := st_e hf
  rw [e4] at hW
  refine lv_iconst (v := 1) hx hb dX5_isWhole_10 (by decide) ?_
  refine lv_istore_n (lv' := [(1, .int 1), (0, .ref (b + 193))]) hx hb dX5_isWhole_11 rfl hl (by decide) rfl (fun ls hl => ?_)
  have key_12 : ∀ (n : Nat) (τ : Sg) (x1 : Int32) (H : Heap) (locs : List Loc) (ls : Array Slot), l_X5_isWhole_12 n τ x1 = some (r, σr) → wd D t b τ H → va_S (geA b) s.heap H locs → lv_has ls 2 [(0, .ref (b + 193)), (1, .int x1)] → W p l e (headSpec (Cond.code yX5_isWhole cX5_isWhole 2 (some .boolean) :: ALL) ({ frames := 4, cells := 0, slots := 0, locals := 87 })).room s m (([.ref (b + 193)] : List Value).toArray) below meth c H locs 0 0 (MQ below (QG D t b σr (some (.int r))) (([.ref (b + 193)] : List Value).toArray) s 0 0 (geA b)) (F0 m 12 ls []) := by
    intro n
    induction n with
    | zero =>
      intro τ x1 H locs ls hf
      rw [l_X5_isWhole_12.eq_1] at hf
      cases hf
    | succ n ih_12 =>
      intro τ x1 H locs ls hf hW hS hl
      rw [l_X5_isWhole_12.eq_2] at hf
      refine lv_iload_n hx hb dX5_isWhole_12 rfl (lv_at hl 1 rfl) ?_
      refine lv_if_eq (tgt := 45) hx hb dX5_isWhole_13 (by decide) (fun h5 => ?_) (fun h5 => ?_)
      · have hf := ifp h5 hf
        refine lv_aload_n hx hb dX5_isWhole_45 rfl (lv_at hl 0 rfl) ?_
        refine getM hx hb hta hown hE.1 hW 11 (by decide) q1192 rfl dX5_isWhole_46 ?_
        refine lv_aload_n hx hb dX5_isWhole_49 rfl (lv_at hl 0 rfl) ?_
        refine getM hx hb hta hown hE.1 hW 9 (by decide) q1190 rfl dX5_isWhole_50 ?_
        refine lv_icmp_ne (tgt := 60) hx hb dX5_isWhole_53 (by decide) (fun h6 => ?_) (fun h6 => ?_)
        · have hf := ifn h6 hf
          refine lv_iconst (v := 0) hx hb dX5_isWhole_60 (by decide) ?_
          cases hf
          exact W.zret (ty := .boolean) hx hb hr (by decide) (fun u hu _ => ⟨⟨rfl, by rw [hu]; exact hW⟩, hS.F hu⟩) hS.2.2 dX5_isWhole_61
        · have hf := ifp h6 hf
          refine lv_iconst (v := 1) hx hb dX5_isWhole_56 (by decide) ?_
          refine lv_goto (tgt := 61) hx hb dX5_isWhole_57 (by decide) ?_
          cases hf
          exact W.zret (ty := .boolean) hx hb hr (by decide) (fun u hu _ => ⟨⟨rfl, by rw [hu]; exact hW⟩, hS.F hu⟩) hS.2.2 dX5_isWhole_61
      · have hf := ifn h5 hf
        refine lv_aload_n hx hb dX5_isWhole_16 rfl (lv_at hl 0 rfl) ?_
        obtain ⟨y7, σ9, u8, hf⟩ := b2_e hf
        refine mV (k := 193) (q := (5, 0)) (C := RX5) (T := TX5) (N := 14) (ci := 5) (n := 0) (As := []) (rest := []) (c_X5_isOrder l D t b τ y7 σ9 u8) sh_193 (by decide) rfl rfl hx hb hml hown hts hE hW hS q1476 q1478 q73 q96 q1479 hy_X5_isOrder ⟨rfl, rfl⟩ ⟨Nat.le_of_ble_eq_true rfl, Nat.le_of_ble_eq_true rfl⟩ rfl rfl hl.1 (Nat.le_of_ble_eq_true rfl) ⟨Nat.zero_le _, Nat.zero_le _⟩ dX5_isWhole_17 (fun H locs hW hS => ?_)
        refine lv_if_ne (tgt := 25) hx hb dX5_isWhole_20 (by decide) (fun h10 => ?_) (fun h10 => ?_)
        · have hf := ifn h10 hf
          refine lv_aload_n hx hb dX5_isWhole_25 rfl (lv_at hl 0 rfl) ?_
          refine lv_dup hx hb dX5_isWhole_26 rfl ?_
          refine getM hx hb hta hown hE.1 hW 13 (by decide) q1194 rfl dX5_isWhole_27 ?_
          refine lv_iconst (v := 1) hx hb dX5_isWhole_30 (by decide) ?_
          refine lv_iadd hx hb dX5_isWhole_31 ?_
          refine putX (k := 193) (q := (5, 0)) (ci := 5) (x := ((σ9 193 13) + 1)) inA5 tyX5_ok nmX5 rfl (by decide) rfl hx hb hta hown hE.1 hW hS sh_193 13 (by decide) q1194 rfl rfl rfl (Nat.le_of_ble_eq_true rfl) rfl dX5_isWhole_32 (fun H locs hW hS => ?_)
          obtain ⟨σ11, e12, hf⟩ := st_e hf
          rw [e12] at hW
          refine lv_aload_n hx hb dX5_isWhole_35 rfl (lv_at hl 0 rfl) ?_
          refine lv_bipush (v := 59) hx hb dX5_isWhole_36 (by decide) ?_
          obtain ⟨y13, σ15, u14, hf⟩ := b2_e hf
          refine mV (k := 193) (q := (5, 0)) (C := RX5) (T := TX5) (N := 14) (ci := 5) (n := 1) (As := [.int 59]) (rest := []) (c_X5_takes l D t b σ11 59 y13 σ15 u14) sh_193 (by decide) rfl rfl hx hb hml hown hts hE hW hS q1496 q1498 q78 q96 q1499 hy_X5_takes ⟨rfl, rfl⟩ ⟨Nat.le_of_ble_eq_true rfl, Nat.le_of_ble_eq_true rfl⟩ rfl rfl hl.1 (Nat.le_of_ble_eq_true rfl) ⟨Nat.zero_le _, Nat.zero_le _⟩ dX5_isWhole_38 (fun H locs hW hS => ?_)
          refine lv_istore_n (lv' := [(1, .int y13), (0, .ref (b + 193))]) hx hb dX5_isWhole_41 rfl hl (by decide) rfl (fun ls hl => ?_)
          refine lv_goto (tgt := 12) hx hb dX5_isWhole_42 (by decide) ?_
          exact ih_12 σ15 y13 _ _ _ hf hW hS (lv_sub hl [1, 0] rfl)
        · have hf := ifp h10 hf
          refine lv_iconst (v := 0) hx hb dX5_isWhole_23 (by decide) ?_
          cases hf
          exact W.zret (ty := .boolean) hx hb hr (by decide) (fun u hu _ => ⟨⟨rfl, by rw [hu]; exact hW⟩, hS.F hu⟩) hS.2.2 dX5_isWhole_24
  exact key_12 10000 σ3 1 _ _ _ hf hW hS (lv_sub hl [1, 0] rfl)
def f_X5_textError (σ : Sg) : Option (Int32 × Sg) := st (u2 σ 193 10 0) fun σ1 => b2 (f_X5_isWhole σ1) fun y3 σ5 => if y3 = 0 then (some ((σ5 193 11), σ5)) else (some ((-1), σ5))
set_option maxHeartbeats 4000000 in
set_option maxRecDepth 100000 in
theorem c_X5_textError (l : Launch) (D : va_G) (t : Nat → ClassId) (b : Nat) (σ : Sg) (r : Int32) (σr : Sg) (hf : f_X5_textError σ = some (r, σr)) : Met l yX5_textError (Cond.code yX5_textError cX5_textError 1 (some .int) :: ALL) ({ frames := 5, cells := 0, slots := 0, locals := 108 }) (PM D t b σ [.ref (b + 193)]) (QG D t b σr (some (.int r))) 0 0 (geA b) := by
  refine Met.ofW (cc := cX5_textError) (maxL := 1) (ret := (some .int)) (by decide) rfl ?_
  intro p e s m args below meth c s₁ B hml hv
  obtain ⟨rfl, hW, hE⟩ := hv
  have hx := B.exec
  have hb := B.bytes
  have hr := B.returns
  have hts := atoms_spec (ws := Cond.code yX5_textError cX5_textError 1 (some .int) :: ALL) B.pre
  have hta := fun w h => hts w (List.mem_cons_of_mem _ h)
  have hown : s.vm.findClass RX5 = some m.cls := findClass_of_methodNamed B.named
  have hlocks := B.notSynchronized
  have hS : va_S (geA b) s.heap s.heap [] := va_S.rf
  have hl := lv_entry ([.ref (b + 193)]) (n := 1) (Nat.le_of_ble_eq_true rfl)
  rw [lg_entry_eq]
  generalize (lg_sl ([.ref (b + 193)]) ++ List.replicate (1 - (lg_sl ([.ref (b + 193)])).length) Slot.unset).toArray = ls at hl ⊢
  have hl : lv_has ls 1 [(0, .ref (b + 193))] := hl
  unfold f_X5_textError at hf
  refine lv_aload_n hx hb dX5_textError_0 rfl (lv_at hl 0 rfl) ?_
  refine lv_iconst (v := 0) hx hb dX5_textError_1 (by decide) ?_
  refine putX (k := 193) (q := (5, 0)) (ci := 5) (x := 0) inA5 tyX5_ok nmX5 rfl (by decide) rfl hx hb hta hown hE.1 hW hS sh_193 10 (by decide) q1191 rfl rfl rfl (Nat.le_of_ble_eq_true rfl) rfl dX5_textError_2 (fun H locs hW hS => ?_)
  obtain ⟨σ1, e2, hf⟩ := st_e hf
  rw [e2] at hW
  refine lv_aload_n hx hb dX5_textError_5 rfl (lv_at hl 0 rfl) ?_
  obtain ⟨y3, σ5, u4, hf⟩ := b2_e hf
  refine mV (k := 193) (q := (5, 0)) (C := RX5) (T := TX5) (N := 14) (ci := 5) (n := 0) (As := []) (rest := []) (c_X5_isWhole l D t b σ1 y3 σ5 u4) sh_193 (by decide) rfl rfl hx hb hml hown hts hE hW hS q1472 q1474 q72 q96 q1475 hy_X5_isWhole ⟨rfl, rfl⟩ ⟨Nat.le_of_ble_eq_true rfl, Nat.le_of_ble_eq_true rfl⟩ rfl rfl hl.1 (Nat.le_of_ble_eq_true rfl) ⟨Nat.zero_le _, Nat.zero_le _⟩ dX5_textError_6 (fun H locs hW hS => ?_)
  refine lv_if_eq (tgt := 16) hx hb dX5_textError_9 (by decide) (fun h6 => ?_) (fun h6 => ?_)
  · have hf := ifp h6 hf
    refine lv_aload_n hx hb dX5_textError_16 rfl (lv_at hl 0 rfl) ?_
    refine getM hx hb hta hown hE.1 hW 11 (by decide) q1192 rfl dX5_textError_17 ?_
    cases hf
    exact W.iret hx hb hr (fun u hu _ => ⟨⟨rfl, by rw [hu]; exact hW⟩, hS.F hu⟩) hS.2.2 dX5_textError_20
  · have hf := ifn h6 hf
    refine lv_iconst (v := (-1)) hx hb dX5_textError_12 (by decide) ?_
    refine lv_goto (tgt := 20) hx hb dX5_textError_13 (by decide) ?_
    cases hf
    exact W.iret hx hb hr (fun u hu _ => ⟨⟨rfl, by rw [hu]; exact hW⟩, hS.F hu⟩) hS.2.2 dX5_textError_20
def f_X5_isDone (σ : Sg) (p1 : Int32) : Option (Int32 × Sg) := gd ((5 * p1) + 1) 205 (gd ((5 * p1) + 2) 205 (gd ((5 * p1) + 3) 205 (gd ((5 * p1) + 4) 205 (gd (5 * p1) 205 (if (σ 201 ((5 * p1)).toNatClampNeg) = 98 then (if (σ 201 (((5 * p1) + 4)).toNatClampNeg) = 1 then (b1 (f_X5_whyNotBuilt σ (σ 201 (((5 * p1) + 1)).toNatClampNeg) (σ 201 (((5 * p1) + 2)).toNatClampNeg) (σ 201 (((5 * p1) + 3)).toNatClampNeg) 1) fun y8 => if y8 = 0 then (if (σ 201 (((5 * p1) + 4)).toNatClampNeg) = 1 then (b2 (f_X5_paysBuilding σ (σ 201 (((5 * p1) + 1)).toNatClampNeg) (σ 201 (((5 * p1) + 2)).toNatClampNeg) (σ 201 (((5 * p1) + 3)).toNatClampNeg) 1) fun y12 σ14 => if y12 < 0 then (some (0, σ14)) else (some (1, σ14))) else (b2 (f_X5_paysBuilding σ (σ 201 (((5 * p1) + 1)).toNatClampNeg) (σ 201 (((5 * p1) + 2)).toNatClampNeg) (σ 201 (((5 * p1) + 3)).toNatClampNeg) 0) fun y16 σ18 => if y16 < 0 then (some (0, σ18)) else (some (1, σ18)))) else (some (0, σ))) else (b1 (f_X5_whyNotBuilt σ (σ 201 (((5 * p1) + 1)).toNatClampNeg) (σ 201 (((5 * p1) + 2)).toNatClampNeg) (σ 201 (((5 * p1) + 3)).toNatClampNeg) 0) fun y20 => if y20 = 0 then (if (σ 201 (((5 * p1) + 4)).toNatClampNeg) = 1 then (b2 (f_X5_paysBuilding σ (σ 201 (((5 * p1) + 1)).toNatClampNeg) (σ 201 (((5 * p1) + 2)).toNatClampNeg) (σ 201 (((5 * p1) + 3)).toNatClampNeg) 1) fun y24 σ26 => if y24 < 0 then (some (0, σ26)) else (some (1, σ26))) else (b2 (f_X5_paysBuilding σ (σ 201 (((5 * p1) + 1)).toNatClampNeg) (σ 201 (((5 * p1) + 2)).toNatClampNeg) (σ 201 (((5 * p1) + 3)).toNatClampNeg) 0) fun y28 σ30 => if y28 < 0 then (some (0, σ30)) else (some (1, σ30)))) else (some (0, σ)))) else (if (σ 201 ((5 * p1)).toNatClampNeg) = 99 then (b1 (f_X5_whyNotCome σ (σ 201 (((5 * p1) + 1)).toNatClampNeg) (σ 201 (((5 * p1) + 2)).toNatClampNeg) (σ 201 (((5 * p1) + 3)).toNatClampNeg)) fun y33 => if y33 = 0 then (b2 (f_X5_comes σ (σ 201 (((5 * p1) + 1)).toNatClampNeg) (σ 201 (((5 * p1) + 2)).toNatClampNeg) (σ 201 (((5 * p1) + 3)).toNatClampNeg)) fun y36 σ38 => if y36 < 0 then (some (0, σ38)) else (some (1, σ38))) else (some (0, σ))) else (if (σ 201 ((5 * p1)).toNatClampNeg) = 102 then (b1 (f_X5_whyNotFunded σ (σ 201 (((5 * p1) + 1)).toNatClampNeg) (σ 201 (((5 * p1) + 2)).toNatClampNeg)) fun y41 => if y41 = 0 then (b2 (f_X5_funds σ (σ 201 (((5 * p1) + 1)).toNatClampNeg) (σ 201 (((5 * p1) + 2)).toNatClampNeg)) fun y44 σ46 => if y44 < 0 then (some (0, σ46)) else (some (1, σ46))) else (some (0, σ))) else (if (σ 201 ((5 * p1)).toNatClampNeg) = 114 then (b1 (f_X5_whyNotStocked σ (σ 201 (((5 * p1) + 1)).toNatClampNeg) (σ 201 (((5 * p1) + 2)).toNatClampNeg) (σ 201 (((5 * p1) + 3)).toNatClampNeg) (σ 201 (((5 * p1) + 4)).toNatClampNeg)) fun y49 => if y49 = 0 then (b2 (f_X5_stocks σ (σ 201 (((5 * p1) + 1)).toNatClampNeg) (σ 201 (((5 * p1) + 2)).toNatClampNeg) (σ 201 (((5 * p1) + 3)).toNatClampNeg) (σ 201 (((5 * p1) + 4)).toNatClampNeg)) fun y52 σ54 => if y52 < 0 then (some (0, σ54)) else (some (1, σ54))) else (some (0, σ))) else (if (σ 201 ((5 * p1)).toNatClampNeg) = 119 then (b2 (f_X5_rains σ (σ 201 (((5 * p1) + 1)).toNatClampNeg) (σ 201 (((5 * p1) + 2)).toNatClampNeg)) fun y57 σ59 => if y57 < 0 then (some (0, σ59)) else (some (1, σ59))) else (b1 (f_X5_canPass σ (σ 201 (((5 * p1) + 1)).toNatClampNeg)) fun y61 => if y61 = 0 then (some (0, σ)) else (b2 (f_X5_passes σ (σ 201 (((5 * p1) + 1)).toNatClampNeg)) fun y64 σ66 => if y64 < 0 then (some (0, σ66)) else (some (1, σ66)))))))))))))
set_option maxHeartbeats 4000000 in
set_option maxRecDepth 100000 in
theorem c_X5_isDone (l : Launch) (D : va_G) (t : Nat → ClassId) (b : Nat) (σ : Sg) (p1 : Int32) (r : Int32) (σr : Sg) (hf : f_X5_isDone σ p1 = some (r, σr)) : Met l yX5_isDone (Cond.code yX5_isDone cX5_isDone 6 (some .boolean) :: ALL) ({ frames := 8, cells := 0, slots := 0, locals := 181 }) (PM D t b σ [.ref (b + 193), .int p1]) (QG D t b σr (some (.int r))) 0 0 (geA b) := by
  refine Met.ofW (cc := cX5_isDone) (maxL := 6) (ret := (some .boolean)) (by decide) rfl ?_
  intro p e s m args below meth c s₁ B hml hv
  obtain ⟨rfl, hW, hE⟩ := hv
  have hx := B.exec
  have hb := B.bytes
  have hr := B.returns
  have hts := atoms_spec (ws := Cond.code yX5_isDone cX5_isDone 6 (some .boolean) :: ALL) B.pre
  have hta := fun w h => hts w (List.mem_cons_of_mem _ h)
  have hown : s.vm.findClass RX5 = some m.cls := findClass_of_methodNamed B.named
  have hlocks := B.notSynchronized
  have hS : va_S (geA b) s.heap s.heap [] := va_S.rf
  have hl := lv_entry ([.ref (b + 193), .int p1]) (n := 6) (Nat.le_of_ble_eq_true rfl)
  rw [lg_entry_eq]
  generalize (lg_sl ([.ref (b + 193), .int p1]) ++ List.replicate (6 - (lg_sl ([.ref (b + 193), .int p1])).length) Slot.unset).toArray = ls at hl ⊢
  have hl : lv_has ls 6 [(0, .ref (b + 193)), (1, .int p1)] := hl
  unfold f_X5_isDone at hf
  refine lv_aload_n hx hb dX5_isDone_0 rfl (lv_at hl 0 rfl) ?_
  refine getM hx hb hta hown hE.1 hW 12 (by decide) q1193 rfl dX5_isDone_1 ?_
  refine lv_iconst (v := 5) hx hb dX5_isDone_4 (by decide) ?_
  refine lv_iload_n hx hb dX5_isDone_5 rfl (lv_at hl 1 rfl) ?_
  refine lv_imul hx hb dX5_isDone_6 ?_
  refine lv_iconst (v := 1) hx hb dX5_isDone_7 (by decide) ?_
  refine lv_iadd hx hb dX5_isDone_8 ?_
  obtain ⟨g1, hf⟩ := gd_e hf
  refine iald hx hb hE.1 hW sh_201 g1 dX5_isDone_9 ?_
  refine lv_istore_n (lv' := [(2, .int (σ 201 (((5 * p1) + 1)).toNatClampNeg)), (0, .ref (b + 193)), (1, .int p1)]) hx hb dX5_isDone_10 rfl hl (by decide) rfl (fun ls hl => ?_)
  refine lv_aload_n hx hb dX5_isDone_11 rfl (lv_at hl 1 rfl) ?_
  refine getM hx hb hta hown hE.1 hW 12 (by decide) q1193 rfl dX5_isDone_12 ?_
  refine lv_iconst (v := 5) hx hb dX5_isDone_15 (by decide) ?_
  refine lv_iload_n hx hb dX5_isDone_16 rfl (lv_at hl 2 rfl) ?_
  refine lv_imul hx hb dX5_isDone_17 ?_
  refine lv_iconst (v := 2) hx hb dX5_isDone_18 (by decide) ?_
  refine lv_iadd hx hb dX5_isDone_19 ?_
  obtain ⟨g2, hf⟩ := gd_e hf
  refine iald hx hb hE.1 hW sh_201 g2 dX5_isDone_20 ?_
  refine lv_istore_n (lv' := [(3, .int (σ 201 (((5 * p1) + 2)).toNatClampNeg)), (2, .int (σ 201 (((5 * p1) + 1)).toNatClampNeg)), (0, .ref (b + 193)), (1, .int p1)]) hx hb dX5_isDone_21 rfl hl (by decide) rfl (fun ls hl => ?_)
  refine lv_aload_n hx hb dX5_isDone_22 rfl (lv_at hl 2 rfl) ?_
  refine getM hx hb hta hown hE.1 hW 12 (by decide) q1193 rfl dX5_isDone_23 ?_
  refine lv_iconst (v := 5) hx hb dX5_isDone_26 (by decide) ?_
  refine lv_iload_n hx hb dX5_isDone_27 rfl (lv_at hl 3 rfl) ?_
  refine lv_imul hx hb dX5_isDone_28 ?_
  refine lv_iconst (v := 3) hx hb dX5_isDone_29 (by decide) ?_
  refine lv_iadd hx hb dX5_isDone_30 ?_
  obtain ⟨g3, hf⟩ := gd_e hf
  refine iald hx hb hE.1 hW sh_201 g3 dX5_isDone_31 ?_
  refine lv_istore (lv' := [(4, .int (σ 201 (((5 * p1) + 3)).toNatClampNeg)), (3, .int (σ 201 (((5 * p1) + 2)).toNatClampNeg)), (2, .int (σ 201 (((5 * p1) + 1)).toNatClampNeg)), (0, .ref (b + 193)), (1, .int p1)]) hx hb dX5_isDone_32 hl (by decide) rfl (fun ls hl => ?_)
  refine lv_aload_n hx hb dX5_isDone_34 rfl (lv_at hl 3 rfl) ?_
  refine getM hx hb hta hown hE.1 hW 12 (by decide) q1193 rfl dX5_isDone_35 ?_
  refine lv_iconst (v := 5) hx hb dX5_isDone_38 (by decide) ?_
  refine lv_iload_n hx hb dX5_isDone_39 rfl (lv_at hl 4 rfl) ?_
  refine lv_imul hx hb dX5_isDone_40 ?_
  refine lv_iconst (v := 4) hx hb dX5_isDone_41 (by decide) ?_
  refine lv_iadd hx hb dX5_isDone_42 ?_
  obtain ⟨g4, hf⟩ := gd_e hf
  refine iald hx hb hE.1 hW sh_201 g4 dX5_isDone_43 ?_
  refine lv_istore (lv' := [(5, .int (σ 201 (((5 * p1) + 4)).toNatClampNeg)), (4, .int (σ 201 (((5 * p1) + 3)).toNatClampNeg)), (3, .int (σ 201 (((5 * p1) + 2)).toNatClampNeg)), (2, .int (σ 201 (((5 * p1) + 1)).toNatClampNeg)), (0, .ref (b + 193)), (1, .int p1)]) hx hb dX5_isDone_44 hl (by decide) rfl (fun ls hl => ?_)
  refine lv_aload_n hx hb dX5_isDone_46 rfl (lv_at hl 4 rfl) ?_
  refine getM hx hb hta hown hE.1 hW 12 (by decide) q1193 rfl dX5_isDone_47 ?_
  refine lv_iconst (v := 5) hx hb dX5_isDone_50 (by decide) ?_
  refine lv_iload_n hx hb dX5_isDone_51 rfl (lv_at hl 5 rfl) ?_
  refine lv_imul hx hb dX5_isDone_52 ?_
  obtain ⟨g5, hf⟩ := gd_e hf
  refine iald hx hb hE.1 hW sh_201 g5 dX5_isDone_53 ?_
  by_cases h6 : (σ 201 ((5 * p1)).toNatClampNeg) = 98
  · have hf := ifp h6 hf
    refine lv_lookup (off := 50) (tgt := 104) hx hb dX5_isDone_54 (by decide) (by rw [h6]; decide) (by decide) ?_
    refine lv_aload_n hx hb dX5_isDone_104 rfl (lv_at hl 4 rfl) ?_
    refine lv_iload_n hx hb dX5_isDone_105 rfl (lv_at hl 3 rfl) ?_
    refine lv_iload_n hx hb dX5_isDone_106 rfl (lv_at hl 2 rfl) ?_
    refine lv_iload hx hb dX5_isDone_107 (lv_at hl 1 rfl) ?_
    refine lv_iload hx hb dX5_isDone_109 (lv_at hl 0 rfl) ?_
    refine lv_iconst (v := 1) hx hb dX5_isDone_111 (by decide) ?_
    refine lv_icmp_ne (tgt := 119) hx hb dX5_isDone_112 (by decide) (fun h7 => ?_) (fun h7 => ?_)
    · have hf := ifn h7 hf
      refine lv_iconst (v := 0) hx hb dX5_isDone_119 (by decide) ?_
      obtain ⟨y20, u21, hf⟩ := b1_e hf
      refine mV (k := 193) (q := (5, 0)) (C := RX5) (T := TX5) (N := 14) (ci := 5) (n := 4) (As := [.int (σ 201 (((5 * p1) + 1)).toNatClampNeg), .int (σ 201 (((5 * p1) + 2)).toNatClampNeg), .int (σ 201 (((5 * p1) + 3)).toNatClampNeg), .int 0]) (rest := []) (c_X5_whyNotBuilt l D t b σ (σ 201 (((5 * p1) + 1)).toNatClampNeg) (σ 201 (((5 * p1) + 2)).toNatClampNeg) (σ 201 (((5 * p1) + 3)).toNatClampNeg) 0 y20 u21) sh_193 (by decide) rfl rfl hx hb hml hown hts hE hW hS q1232 q1234 q33 q96 q1235 hy_X5_whyNotBuilt ⟨rfl, rfl⟩ ⟨Nat.le_of_ble_eq_true rfl, Nat.le_of_ble_eq_true rfl⟩ rfl rfl hl.1 (Nat.le_of_ble_eq_true rfl) ⟨Nat.zero_le _, Nat.zero_le _⟩ dX5_isDone_120 (fun H locs hW hS => ?_)
      refine lv_if_ne (tgt := 152) hx hb dX5_isDone_123 (by decide) (fun h22 => ?_) (fun h22 => ?_)
      · have hf := ifn h22 hf
        refine lv_iconst (v := 0) hx hb dX5_isDone_152 (by decide) ?_
        cases hf
        exact W.zret (ty := .boolean) hx hb hr (by decide) (fun u hu _ => ⟨⟨rfl, by rw [hu]; exact hW⟩, hS.F hu⟩) hS.2.2 dX5_isDone_153
      · have hf := ifp h22 hf
        refine lv_aload_n hx hb dX5_isDone_126 rfl (lv_at hl 4 rfl) ?_
        refine lv_iload_n hx hb dX5_isDone_127 rfl (lv_at hl 3 rfl) ?_
        refine lv_iload_n hx hb dX5_isDone_128 rfl (lv_at hl 2 rfl) ?_
        refine lv_iload hx hb dX5_isDone_129 (lv_at hl 1 rfl) ?_
        refine lv_iload hx hb dX5_isDone_131 (lv_at hl 0 rfl) ?_
        refine lv_iconst (v := 1) hx hb dX5_isDone_133 (by decide) ?_
        refine lv_icmp_ne (tgt := 141) hx hb dX5_isDone_134 (by decide) (fun h23 => ?_) (fun h23 => ?_)
        · have hf := ifn h23 hf
          refine lv_iconst (v := 0) hx hb dX5_isDone_141 (by decide) ?_
          obtain ⟨y28, σ30, u29, hf⟩ := b2_e hf
          refine mV (k := 193) (q := (5, 0)) (C := RX5) (T := TX5) (N := 14) (ci := 5) (n := 4) (As := [.int (σ 201 (((5 * p1) + 1)).toNatClampNeg), .int (σ 201 (((5 * p1) + 2)).toNatClampNeg), .int (σ 201 (((5 * p1) + 3)).toNatClampNeg), .int 0]) (rest := []) (c_X5_paysBuilding l D t b σ (σ 201 (((5 * p1) + 1)).toNatClampNeg) (σ 201 (((5 * p1) + 2)).toNatClampNeg) (σ 201 (((5 * p1) + 3)).toNatClampNeg) 0 y28 σ30 u29) sh_193 (by decide) rfl rfl hx hb hml hown hts hE hW hS q1263 q1265 q37 q96 q1266 hy_X5_paysBuilding ⟨rfl, rfl⟩ ⟨Nat.le_of_ble_eq_true rfl, Nat.le_of_ble_eq_true rfl⟩ rfl rfl hl.1 (Nat.le_of_ble_eq_true rfl) ⟨Nat.zero_le _, Nat.zero_le _⟩ dX5_isDone_142 (fun H locs hW hS => ?_)
          refine lv_if_lt (tgt := 152) hx hb dX5_isDone_145 (by decide) (fun h31 => ?_) (fun h31 => ?_)
          · have hf := ifp h31 hf
            refine lv_iconst (v := 0) hx hb dX5_isDone_152 (by decide) ?_
            cases hf
            exact W.zret (ty := .boolean) hx hb hr (by decide) (fun u hu _ => ⟨⟨rfl, by rw [hu]; exact hW⟩, hS.F hu⟩) hS.2.2 dX5_isDone_153
          · have hf := ifn h31 hf
            refine lv_iconst (v := 1) hx hb dX5_isDone_148 (by decide) ?_
            refine lv_goto (tgt := 153) hx hb dX5_isDone_149 (by decide) ?_
            cases hf
            exact W.zret (ty := .boolean) hx hb hr (by decide) (fun u hu _ => ⟨⟨rfl, by rw [hu]; exact hW⟩, hS.F hu⟩) hS.2.2 dX5_isDone_153
        · have hf := ifp h23 hf
          refine lv_iconst (v := 1) hx hb dX5_isDone_137 (by decide) ?_
          refine lv_goto (tgt := 142) hx hb dX5_isDone_138 (by decide) ?_
          obtain ⟨y24, σ26, u25, hf⟩ := b2_e hf
          refine mV (k := 193) (q := (5, 0)) (C := RX5) (T := TX5) (N := 14) (ci := 5) (n := 4) (As := [.int (σ 201 (((5 * p1) + 1)).toNatClampNeg), .int (σ 201 (((5 * p1) + 2)).toNatClampNeg), .int (σ 201 (((5 * p1) + 3)).toNatClampNeg), .int 1]) (rest := []) (c_X5_paysBuilding l D t b σ (σ 201 (((5 * p1) + 1)).toNatClampNeg) (σ 201 (((5 * p1) + 2)).toNatClampNeg) (σ 201 (((5 * p1) + 3)).toNatClampNeg) 1 y24 σ26 u25) sh_193 (by decide) rfl rfl hx hb hml hown hts hE hW hS q1263 q1265 q37 q96 q1266 hy_X5_paysBuilding ⟨rfl, rfl⟩ ⟨Nat.le_of_ble_eq_true rfl, Nat.le_of_ble_eq_true rfl⟩ rfl rfl hl.1 (Nat.le_of_ble_eq_true rfl) ⟨Nat.zero_le _, Nat.zero_le _⟩ dX5_isDone_142 (fun H locs hW hS => ?_)
          refine lv_if_lt (tgt := 152) hx hb dX5_isDone_145 (by decide) (fun h27 => ?_) (fun h27 => ?_)
          · have hf := ifp h27 hf
            refine lv_iconst (v := 0) hx hb dX5_isDone_152 (by decide) ?_
            cases hf
            exact W.zret (ty := .boolean) hx hb hr (by decide) (fun u hu _ => ⟨⟨rfl, by rw [hu]; exact hW⟩, hS.F hu⟩) hS.2.2 dX5_isDone_153
          · have hf := ifn h27 hf
            refine lv_iconst (v := 1) hx hb dX5_isDone_148 (by decide) ?_
            refine lv_goto (tgt := 153) hx hb dX5_isDone_149 (by decide) ?_
            cases hf
            exact W.zret (ty := .boolean) hx hb hr (by decide) (fun u hu _ => ⟨⟨rfl, by rw [hu]; exact hW⟩, hS.F hu⟩) hS.2.2 dX5_isDone_153
    · have hf := ifp h7 hf
      refine lv_iconst (v := 1) hx hb dX5_isDone_115 (by decide) ?_
      refine lv_goto (tgt := 120) hx hb dX5_isDone_116 (by decide) ?_
      obtain ⟨y8, u9, hf⟩ := b1_e hf
      refine mV (k := 193) (q := (5, 0)) (C := RX5) (T := TX5) (N := 14) (ci := 5) (n := 4) (As := [.int (σ 201 (((5 * p1) + 1)).toNatClampNeg), .int (σ 201 (((5 * p1) + 2)).toNatClampNeg), .int (σ 201 (((5 * p1) + 3)).toNatClampNeg), .int 1]) (rest := []) (c_X5_whyNotBuilt l D t b σ (σ 201 (((5 * p1) + 1)).toNatClampNeg) (σ 201 (((5 * p1) + 2)).toNatClampNeg) (σ 201 (((5 * p1) + 3)).toNatClampNeg) 1 y8 u9) sh_193 (by decide) rfl rfl hx hb hml hown hts hE hW hS q1232 q1234 q33 q96 q1235 hy_X5_whyNotBuilt ⟨rfl, rfl⟩ ⟨Nat.le_of_ble_eq_true rfl, Nat.le_of_ble_eq_true rfl⟩ rfl rfl hl.1 (Nat.le_of_ble_eq_true rfl) ⟨Nat.zero_le _, Nat.zero_le _⟩ dX5_isDone_120 (fun H locs hW hS => ?_)
      refine lv_if_ne (tgt := 152) hx hb dX5_isDone_123 (by decide) (fun h10 => ?_) (fun h10 => ?_)
      · have hf := ifn h10 hf
        refine lv_iconst (v := 0) hx hb dX5_isDone_152 (by decide) ?_
        cases hf
        exact W.zret (ty := .boolean) hx hb hr (by decide) (fun u hu _ => ⟨⟨rfl, by rw [hu]; exact hW⟩, hS.F hu⟩) hS.2.2 dX5_isDone_153
      · have hf := ifp h10 hf
        refine lv_aload_n hx hb dX5_isDone_126 rfl (lv_at hl 4 rfl) ?_
        refine lv_iload_n hx hb dX5_isDone_127 rfl (lv_at hl 3 rfl) ?_
        refine lv_iload_n hx hb dX5_isDone_128 rfl (lv_at hl 2 rfl) ?_
        refine lv_iload hx hb dX5_isDone_129 (lv_at hl 1 rfl) ?_
        refine lv_iload hx hb dX5_isDone_131 (lv_at hl 0 rfl) ?_
        refine lv_iconst (v := 1) hx hb dX5_isDone_133 (by decide) ?_
        refine lv_icmp_ne (tgt := 141) hx hb dX5_isDone_134 (by decide) (fun h11 => ?_) (fun h11 => ?_)
        · have hf := ifn h11 hf
          refine lv_iconst (v := 0) hx hb dX5_isDone_141 (by decide) ?_
          obtain ⟨y16, σ18, u17, hf⟩ := b2_e hf
          refine mV (k := 193) (q := (5, 0)) (C := RX5) (T := TX5) (N := 14) (ci := 5) (n := 4) (As := [.int (σ 201 (((5 * p1) + 1)).toNatClampNeg), .int (σ 201 (((5 * p1) + 2)).toNatClampNeg), .int (σ 201 (((5 * p1) + 3)).toNatClampNeg), .int 0]) (rest := []) (c_X5_paysBuilding l D t b σ (σ 201 (((5 * p1) + 1)).toNatClampNeg) (σ 201 (((5 * p1) + 2)).toNatClampNeg) (σ 201 (((5 * p1) + 3)).toNatClampNeg) 0 y16 σ18 u17) sh_193 (by decide) rfl rfl hx hb hml hown hts hE hW hS q1263 q1265 q37 q96 q1266 hy_X5_paysBuilding ⟨rfl, rfl⟩ ⟨Nat.le_of_ble_eq_true rfl, Nat.le_of_ble_eq_true rfl⟩ rfl rfl hl.1 (Nat.le_of_ble_eq_true rfl) ⟨Nat.zero_le _, Nat.zero_le _⟩ dX5_isDone_142 (fun H locs hW hS => ?_)
          refine lv_if_lt (tgt := 152) hx hb dX5_isDone_145 (by decide) (fun h19 => ?_) (fun h19 => ?_)
          · have hf := ifp h19 hf
            refine lv_iconst (v := 0) hx hb dX5_isDone_152 (by decide) ?_
            cases hf
            exact W.zret (ty := .boolean) hx hb hr (by decide) (fun u hu _ => ⟨⟨rfl, by rw [hu]; exact hW⟩, hS.F hu⟩) hS.2.2 dX5_isDone_153
          · have hf := ifn h19 hf
            refine lv_iconst (v := 1) hx hb dX5_isDone_148 (by decide) ?_
            refine lv_goto (tgt := 153) hx hb dX5_isDone_149 (by decide) ?_
            cases hf
            exact W.zret (ty := .boolean) hx hb hr (by decide) (fun u hu _ => ⟨⟨rfl, by rw [hu]; exact hW⟩, hS.F hu⟩) hS.2.2 dX5_isDone_153
        · have hf := ifp h11 hf
          refine lv_iconst (v := 1) hx hb dX5_isDone_137 (by decide) ?_
          refine lv_goto (tgt := 142) hx hb dX5_isDone_138 (by decide) ?_
          obtain ⟨y12, σ14, u13, hf⟩ := b2_e hf
          refine mV (k := 193) (q := (5, 0)) (C := RX5) (T := TX5) (N := 14) (ci := 5) (n := 4) (As := [.int (σ 201 (((5 * p1) + 1)).toNatClampNeg), .int (σ 201 (((5 * p1) + 2)).toNatClampNeg), .int (σ 201 (((5 * p1) + 3)).toNatClampNeg), .int 1]) (rest := []) (c_X5_paysBuilding l D t b σ (σ 201 (((5 * p1) + 1)).toNatClampNeg) (σ 201 (((5 * p1) + 2)).toNatClampNeg) (σ 201 (((5 * p1) + 3)).toNatClampNeg) 1 y12 σ14 u13) sh_193 (by decide) rfl rfl hx hb hml hown hts hE hW hS q1263 q1265 q37 q96 q1266 hy_X5_paysBuilding ⟨rfl, rfl⟩ ⟨Nat.le_of_ble_eq_true rfl, Nat.le_of_ble_eq_true rfl⟩ rfl rfl hl.1 (Nat.le_of_ble_eq_true rfl) ⟨Nat.zero_le _, Nat.zero_le _⟩ dX5_isDone_142 (fun H locs hW hS => ?_)
          refine lv_if_lt (tgt := 152) hx hb dX5_isDone_145 (by decide) (fun h15 => ?_) (fun h15 => ?_)
          · have hf := ifp h15 hf
            refine lv_iconst (v := 0) hx hb dX5_isDone_152 (by decide) ?_
            cases hf
            exact W.zret (ty := .boolean) hx hb hr (by decide) (fun u hu _ => ⟨⟨rfl, by rw [hu]; exact hW⟩, hS.F hu⟩) hS.2.2 dX5_isDone_153
          · have hf := ifn h15 hf
            refine lv_iconst (v := 1) hx hb dX5_isDone_148 (by decide) ?_
            refine lv_goto (tgt := 153) hx hb dX5_isDone_149 (by decide) ?_
            cases hf
            exact W.zret (ty := .boolean) hx hb hr (by decide) (fun u hu _ => ⟨⟨rfl, by rw [hu]; exact hW⟩, hS.F hu⟩) hS.2.2 dX5_isDone_153
  · have hf := ifn h6 hf
    by_cases h32 : (σ 201 ((5 * p1)).toNatClampNeg) = 99
    · have hf := ifp h32 hf
      refine lv_lookup (off := 156) (tgt := 210) hx hb dX5_isDone_54 (by decide) (by rw [h32]; decide) (by decide) ?_
      refine lv_aload_n hx hb dX5_isDone_210 rfl (lv_at hl 4 rfl) ?_
      refine lv_iload_n hx hb dX5_isDone_211 rfl (lv_at hl 3 rfl) ?_
      refine lv_iload_n hx hb dX5_isDone_212 rfl (lv_at hl 2 rfl) ?_
      refine lv_iload hx hb dX5_isDone_213 (lv_at hl 1 rfl) ?_
      obtain ⟨y33, u34, hf⟩ := b1_e hf
      refine mV (k := 193) (q := (5, 0)) (C := RX5) (T := TX5) (N := 14) (ci := 5) (n := 3) (As := [.int (σ 201 (((5 * p1) + 1)).toNatClampNeg), .int (σ 201 (((5 * p1) + 2)).toNatClampNeg), .int (σ 201 (((5 * p1) + 3)).toNatClampNeg)]) (rest := []) (c_X5_whyNotCome l D t b σ (σ 201 (((5 * p1) + 1)).toNatClampNeg) (σ 201 (((5 * p1) + 2)).toNatClampNeg) (σ 201 (((5 * p1) + 3)).toNatClampNeg) y33 u34) sh_193 (by decide) rfl rfl hx hb hml hown hts hE hW hS q1337 q1339 q47 q96 q1340 hy_X5_whyNotCome ⟨rfl, rfl⟩ ⟨Nat.le_of_ble_eq_true rfl, Nat.le_of_ble_eq_true rfl⟩ rfl rfl hl.1 (Nat.le_of_ble_eq_true rfl) ⟨Nat.zero_le _, Nat.zero_le _⟩ dX5_isDone_215 (fun H locs hW hS => ?_)
      refine lv_if_ne (tgt := 236) hx hb dX5_isDone_218 (by decide) (fun h35 => ?_) (fun h35 => ?_)
      · have hf := ifn h35 hf
        refine lv_iconst (v := 0) hx hb dX5_isDone_236 (by decide) ?_
        cases hf
        exact W.zret (ty := .boolean) hx hb hr (by decide) (fun u hu _ => ⟨⟨rfl, by rw [hu]; exact hW⟩, hS.F hu⟩) hS.2.2 dX5_isDone_237
      · have hf := ifp h35 hf
        refine lv_aload_n hx hb dX5_isDone_221 rfl (lv_at hl 4 rfl) ?_
        refine lv_iload_n hx hb dX5_isDone_222 rfl (lv_at hl 3 rfl) ?_
        refine lv_iload_n hx hb dX5_isDone_223 rfl (lv_at hl 2 rfl) ?_
        refine lv_iload hx hb dX5_isDone_224 (lv_at hl 1 rfl) ?_
        obtain ⟨y36, σ38, u37, hf⟩ := b2_e hf
        refine mV (k := 193) (q := (5, 0)) (C := RX5) (T := TX5) (N := 14) (ci := 5) (n := 3) (As := [.int (σ 201 (((5 * p1) + 1)).toNatClampNeg), .int (σ 201 (((5 * p1) + 2)).toNatClampNeg), .int (σ 201 (((5 * p1) + 3)).toNatClampNeg)]) (rest := []) (c_X5_comes l D t b σ (σ 201 (((5 * p1) + 1)).toNatClampNeg) (σ 201 (((5 * p1) + 2)).toNatClampNeg) (σ 201 (((5 * p1) + 3)).toNatClampNeg) y36 σ38 u37) sh_193 (by decide) rfl rfl hx hb hml hown hts hE hW hS q1357 q1359 q52 q96 q1360 hy_X5_comes ⟨rfl, rfl⟩ ⟨Nat.le_of_ble_eq_true rfl, Nat.le_of_ble_eq_true rfl⟩ rfl rfl hl.1 (Nat.le_of_ble_eq_true rfl) ⟨Nat.zero_le _, Nat.zero_le _⟩ dX5_isDone_226 (fun H locs hW hS => ?_)
        refine lv_if_lt (tgt := 236) hx hb dX5_isDone_229 (by decide) (fun h39 => ?_) (fun h39 => ?_)
        · have hf := ifp h39 hf
          refine lv_iconst (v := 0) hx hb dX5_isDone_236 (by decide) ?_
          cases hf
          exact W.zret (ty := .boolean) hx hb hr (by decide) (fun u hu _ => ⟨⟨rfl, by rw [hu]; exact hW⟩, hS.F hu⟩) hS.2.2 dX5_isDone_237
        · have hf := ifn h39 hf
          refine lv_iconst (v := 1) hx hb dX5_isDone_232 (by decide) ?_
          refine lv_goto (tgt := 237) hx hb dX5_isDone_233 (by decide) ?_
          cases hf
          exact W.zret (ty := .boolean) hx hb hr (by decide) (fun u hu _ => ⟨⟨rfl, by rw [hu]; exact hW⟩, hS.F hu⟩) hS.2.2 dX5_isDone_237
    · have hf := ifn h32 hf
      by_cases h40 : (σ 201 ((5 * p1)).toNatClampNeg) = 102
      · have hf := ifp h40 hf
        refine lv_lookup (off := 132) (tgt := 186) hx hb dX5_isDone_54 (by decide) (by rw [h40]; decide) (by decide) ?_
        refine lv_aload_n hx hb dX5_isDone_186 rfl (lv_at hl 4 rfl) ?_
        refine lv_iload_n hx hb dX5_isDone_187 rfl (lv_at hl 3 rfl) ?_
        refine lv_iload_n hx hb dX5_isDone_188 rfl (lv_at hl 2 rfl) ?_
        obtain ⟨y41, u42, hf⟩ := b1_e hf
        refine mV (k := 193) (q := (5, 0)) (C := RX5) (T := TX5) (N := 14) (ci := 5) (n := 2) (As := [.int (σ 201 (((5 * p1) + 1)).toNatClampNeg), .int (σ 201 (((5 * p1) + 2)).toNatClampNeg)]) (rest := []) (c_X5_whyNotFunded l D t b σ (σ 201 (((5 * p1) + 1)).toNatClampNeg) (σ 201 (((5 * p1) + 2)).toNatClampNeg) y41 u42) sh_193 (by decide) rfl rfl hx hb hml hown hts hE hW hS q1321 q1323 q45 q96 q1324 hy_X5_whyNotFunded ⟨rfl, rfl⟩ ⟨Nat.le_of_ble_eq_true rfl, Nat.le_of_ble_eq_true rfl⟩ rfl rfl hl.1 (Nat.le_of_ble_eq_true rfl) ⟨Nat.zero_le _, Nat.zero_le _⟩ dX5_isDone_189 (fun H locs hW hS => ?_)
        refine lv_if_ne (tgt := 208) hx hb dX5_isDone_192 (by decide) (fun h43 => ?_) (fun h43 => ?_)
        · have hf := ifn h43 hf
          refine lv_iconst (v := 0) hx hb dX5_isDone_208 (by decide) ?_
          cases hf
          exact W.zret (ty := .boolean) hx hb hr (by decide) (fun u hu _ => ⟨⟨rfl, by rw [hu]; exact hW⟩, hS.F hu⟩) hS.2.2 dX5_isDone_209
        · have hf := ifp h43 hf
          refine lv_aload_n hx hb dX5_isDone_195 rfl (lv_at hl 4 rfl) ?_
          refine lv_iload_n hx hb dX5_isDone_196 rfl (lv_at hl 3 rfl) ?_
          refine lv_iload_n hx hb dX5_isDone_197 rfl (lv_at hl 2 rfl) ?_
          obtain ⟨y44, σ46, u45, hf⟩ := b2_e hf
          refine mV (k := 193) (q := (5, 0)) (C := RX5) (T := TX5) (N := 14) (ci := 5) (n := 2) (As := [.int (σ 201 (((5 * p1) + 1)).toNatClampNeg), .int (σ 201 (((5 * p1) + 2)).toNatClampNeg)]) (rest := []) (c_X5_funds l D t b σ (σ 201 (((5 * p1) + 1)).toNatClampNeg) (σ 201 (((5 * p1) + 2)).toNatClampNeg) y44 σ46 u45) sh_193 (by decide) rfl rfl hx hb hml hown hts hE hW hS q1325 q1327 q46 q96 q1328 hy_X5_funds ⟨rfl, rfl⟩ ⟨Nat.le_of_ble_eq_true rfl, Nat.le_of_ble_eq_true rfl⟩ rfl rfl hl.1 (Nat.le_of_ble_eq_true rfl) ⟨Nat.zero_le _, Nat.zero_le _⟩ dX5_isDone_198 (fun H locs hW hS => ?_)
          refine lv_if_lt (tgt := 208) hx hb dX5_isDone_201 (by decide) (fun h47 => ?_) (fun h47 => ?_)
          · have hf := ifp h47 hf
            refine lv_iconst (v := 0) hx hb dX5_isDone_208 (by decide) ?_
            cases hf
            exact W.zret (ty := .boolean) hx hb hr (by decide) (fun u hu _ => ⟨⟨rfl, by rw [hu]; exact hW⟩, hS.F hu⟩) hS.2.2 dX5_isDone_209
          · have hf := ifn h47 hf
            refine lv_iconst (v := 1) hx hb dX5_isDone_204 (by decide) ?_
            refine lv_goto (tgt := 209) hx hb dX5_isDone_205 (by decide) ?_
            cases hf
            exact W.zret (ty := .boolean) hx hb hr (by decide) (fun u hu _ => ⟨⟨rfl, by rw [hu]; exact hW⟩, hS.F hu⟩) hS.2.2 dX5_isDone_209
      · have hf := ifn h40 hf
        by_cases h48 : (σ 201 ((5 * p1)).toNatClampNeg) = 114
        · have hf := ifp h48 hf
          refine lv_lookup (off := 100) (tgt := 154) hx hb dX5_isDone_54 (by decide) (by rw [h48]; decide) (by decide) ?_
          refine lv_aload_n hx hb dX5_isDone_154 rfl (lv_at hl 4 rfl) ?_
          refine lv_iload_n hx hb dX5_isDone_155 rfl (lv_at hl 3 rfl) ?_
          refine lv_iload_n hx hb dX5_isDone_156 rfl (lv_at hl 2 rfl) ?_
          refine lv_iload hx hb dX5_isDone_157 (lv_at hl 1 rfl) ?_
          refine lv_iload hx hb dX5_isDone_159 (lv_at hl 0 rfl) ?_
          obtain ⟨y49, u50, hf⟩ := b1_e hf
          refine mV (k := 193) (q := (5, 0)) (C := RX5) (T := TX5) (N := 14) (ci := 5) (n := 4) (As := [.int (σ 201 (((5 * p1) + 1)).toNatClampNeg), .int (σ 201 (((5 * p1) + 2)).toNatClampNeg), .int (σ 201 (((5 * p1) + 3)).toNatClampNeg), .int (σ 201 (((5 * p1) + 4)).toNatClampNeg)]) (rest := []) (c_X5_whyNotStocked l D t b σ (σ 201 (((5 * p1) + 1)).toNatClampNeg) (σ 201 (((5 * p1) + 2)).toNatClampNeg) (σ 201 (((5 * p1) + 3)).toNatClampNeg) (σ 201 (((5 * p1) + 4)).toNatClampNeg) y49 u50) sh_193 (by decide) rfl rfl hx hb hml hown hts hE hW hS q1295 q1297 q41 q96 q1298 hy_X5_whyNotStocked ⟨rfl, rfl⟩ ⟨Nat.le_of_ble_eq_true rfl, Nat.le_of_ble_eq_true rfl⟩ rfl rfl hl.1 (Nat.le_of_ble_eq_true rfl) ⟨Nat.zero_le _, Nat.zero_le _⟩ dX5_isDone_161 (fun H locs hW hS => ?_)
          refine lv_if_ne (tgt := 184) hx hb dX5_isDone_164 (by decide) (fun h51 => ?_) (fun h51 => ?_)
          · have hf := ifn h51 hf
            refine lv_iconst (v := 0) hx hb dX5_isDone_184 (by decide) ?_
            cases hf
            exact W.zret (ty := .boolean) hx hb hr (by decide) (fun u hu _ => ⟨⟨rfl, by rw [hu]; exact hW⟩, hS.F hu⟩) hS.2.2 dX5_isDone_185
          · have hf := ifp h51 hf
            refine lv_aload_n hx hb dX5_isDone_167 rfl (lv_at hl 4 rfl) ?_
            refine lv_iload_n hx hb dX5_isDone_168 rfl (lv_at hl 3 rfl) ?_
            refine lv_iload_n hx hb dX5_isDone_169 rfl (lv_at hl 2 rfl) ?_
            refine lv_iload hx hb dX5_isDone_170 (lv_at hl 1 rfl) ?_
            refine lv_iload hx hb dX5_isDone_172 (lv_at hl 0 rfl) ?_
            obtain ⟨y52, σ54, u53, hf⟩ := b2_e hf
            refine mV (k := 193) (q := (5, 0)) (C := RX5) (T := TX5) (N := 14) (ci := 5) (n := 4) (As := [.int (σ 201 (((5 * p1) + 1)).toNatClampNeg), .int (σ 201 (((5 * p1) + 2)).toNatClampNeg), .int (σ 201 (((5 * p1) + 3)).toNatClampNeg), .int (σ 201 (((5 * p1) + 4)).toNatClampNeg)]) (rest := []) (c_X5_stocks l D t b σ (σ 201 (((5 * p1) + 1)).toNatClampNeg) (σ 201 (((5 * p1) + 2)).toNatClampNeg) (σ 201 (((5 * p1) + 3)).toNatClampNeg) (σ 201 (((5 * p1) + 4)).toNatClampNeg) y52 σ54 u53) sh_193 (by decide) rfl rfl hx hb hml hown hts hE hW hS q1309 q1311 q43 q96 q1312 hy_X5_stocks ⟨rfl, rfl⟩ ⟨Nat.le_of_ble_eq_true rfl, Nat.le_of_ble_eq_true rfl⟩ rfl rfl hl.1 (Nat.le_of_ble_eq_true rfl) ⟨Nat.zero_le _, Nat.zero_le _⟩ dX5_isDone_174 (fun H locs hW hS => ?_)
            refine lv_if_lt (tgt := 184) hx hb dX5_isDone_177 (by decide) (fun h55 => ?_) (fun h55 => ?_)
            · have hf := ifp h55 hf
              refine lv_iconst (v := 0) hx hb dX5_isDone_184 (by decide) ?_
              cases hf
              exact W.zret (ty := .boolean) hx hb hr (by decide) (fun u hu _ => ⟨⟨rfl, by rw [hu]; exact hW⟩, hS.F hu⟩) hS.2.2 dX5_isDone_185
            · have hf := ifn h55 hf
              refine lv_iconst (v := 1) hx hb dX5_isDone_180 (by decide) ?_
              refine lv_goto (tgt := 185) hx hb dX5_isDone_181 (by decide) ?_
              cases hf
              exact W.zret (ty := .boolean) hx hb hr (by decide) (fun u hu _ => ⟨⟨rfl, by rw [hu]; exact hW⟩, hS.F hu⟩) hS.2.2 dX5_isDone_185
        · have hf := ifn h48 hf
          by_cases h56 : (σ 201 ((5 * p1)).toNatClampNeg) = 119
          · have hf := ifp h56 hf
            refine lv_lookup (off := 184) (tgt := 238) hx hb dX5_isDone_54 (by decide) (by rw [h56]; decide) (by decide) ?_
            refine lv_aload_n hx hb dX5_isDone_238 rfl (lv_at hl 4 rfl) ?_
            refine lv_iload_n hx hb dX5_isDone_239 rfl (lv_at hl 3 rfl) ?_
            refine lv_iload_n hx hb dX5_isDone_240 rfl (lv_at hl 2 rfl) ?_
            obtain ⟨y57, σ59, u58, hf⟩ := b2_e hf
            refine mV (k := 193) (q := (5, 0)) (C := RX5) (T := TX5) (N := 14) (ci := 5) (n := 2) (As := [.int (σ 201 (((5 * p1) + 1)).toNatClampNeg), .int (σ 201 (((5 * p1) + 2)).toNatClampNeg)]) (rest := []) (c_X5_rains l D t b σ (σ 201 (((5 * p1) + 1)).toNatClampNeg) (σ 201 (((5 * p1) + 2)).toNatClampNeg) y57 σ59 u58) sh_193 (by decide) rfl rfl hx hb hml hown hts hE hW hS q1372 q1374 q54 q96 q1375 hy_X5_rains ⟨rfl, rfl⟩ ⟨Nat.le_of_ble_eq_true rfl, Nat.le_of_ble_eq_true rfl⟩ rfl rfl hl.1 (Nat.le_of_ble_eq_true rfl) ⟨Nat.zero_le _, Nat.zero_le _⟩ dX5_isDone_241 (fun H locs hW hS => ?_)
            refine lv_if_lt (tgt := 251) hx hb dX5_isDone_244 (by decide) (fun h60 => ?_) (fun h60 => ?_)
            · have hf := ifp h60 hf
              refine lv_iconst (v := 0) hx hb dX5_isDone_251 (by decide) ?_
              cases hf
              exact W.zret (ty := .boolean) hx hb hr (by decide) (fun u hu _ => ⟨⟨rfl, by rw [hu]; exact hW⟩, hS.F hu⟩) hS.2.2 dX5_isDone_252
            · have hf := ifn h60 hf
              refine lv_iconst (v := 1) hx hb dX5_isDone_247 (by decide) ?_
              refine lv_goto (tgt := 252) hx hb dX5_isDone_248 (by decide) ?_
              cases hf
              exact W.zret (ty := .boolean) hx hb hr (by decide) (fun u hu _ => ⟨⟨rfl, by rw [hu]; exact hW⟩, hS.F hu⟩) hS.2.2 dX5_isDone_252
          · have hf := ifn h56 hf
            refine lv_lookup (off := 199) (tgt := 253) hx hb dX5_isDone_54 (by decide) (by show Op.lookupswitch.offset [(98, 50), (99, 156), (102, 132), (114, 100), (119, 184)] _ _ = _; rw [lv_osw h6 (by decide), lv_osw h32 (by decide), lv_osw h40 (by decide), lv_osw h48 (by decide), lv_osw h56 (by decide)]; rfl) (by decide) ?_
            refine lv_aload_n hx hb dX5_isDone_253 rfl (lv_at hl 4 rfl) ?_
            refine lv_iload_n hx hb dX5_isDone_254 rfl (lv_at hl 3 rfl) ?_
            obtain ⟨y61, u62, hf⟩ := b1_e hf
            refine mV (k := 193) (q := (5, 0)) (C := RX5) (T := TX5) (N := 14) (ci := 5) (n := 1) (As := [.int (σ 201 (((5 * p1) + 1)).toNatClampNeg)]) (rest := []) (c_X5_canPass l D t b σ (σ 201 (((5 * p1) + 1)).toNatClampNeg) y61 u62) sh_193 (by decide) rfl rfl hx hb hml hown hts hE hW hS q1380 q1382 q55 q96 q1383 hy_X5_canPass ⟨rfl, rfl⟩ ⟨Nat.le_of_ble_eq_true rfl, Nat.le_of_ble_eq_true rfl⟩ rfl rfl hl.1 (Nat.le_of_ble_eq_true rfl) ⟨Nat.zero_le _, Nat.zero_le _⟩ dX5_isDone_255 (fun H locs hW hS => ?_)
            refine lv_if_eq (tgt := 273) hx hb dX5_isDone_258 (by decide) (fun h63 => ?_) (fun h63 => ?_)
            · have hf := ifp h63 hf
              refine lv_iconst (v := 0) hx hb dX5_isDone_273 (by decide) ?_
              cases hf
              exact W.zret (ty := .boolean) hx hb hr (by decide) (fun u hu _ => ⟨⟨rfl, by rw [hu]; exact hW⟩, hS.F hu⟩) hS.2.2 dX5_isDone_274
            · have hf := ifn h63 hf
              refine lv_aload_n hx hb dX5_isDone_261 rfl (lv_at hl 4 rfl) ?_
              refine lv_iload_n hx hb dX5_isDone_262 rfl (lv_at hl 3 rfl) ?_
              obtain ⟨y64, σ66, u65, hf⟩ := b2_e hf
              refine mV (k := 193) (q := (5, 0)) (C := RX5) (T := TX5) (N := 14) (ci := 5) (n := 1) (As := [.int (σ 201 (((5 * p1) + 1)).toNatClampNeg)]) (rest := []) (c_X5_passes l D t b σ (σ 201 (((5 * p1) + 1)).toNatClampNeg) y64 σ66 u65) sh_193 (by decide) rfl rfl hx hb hml hown hts hE hW hS q1384 q1386 q56 q96 q1387 hy_X5_passes ⟨rfl, rfl⟩ ⟨Nat.le_of_ble_eq_true rfl, Nat.le_of_ble_eq_true rfl⟩ rfl rfl hl.1 (Nat.le_of_ble_eq_true rfl) ⟨Nat.zero_le _, Nat.zero_le _⟩ dX5_isDone_263 (fun H locs hW hS => ?_)
              refine lv_if_lt (tgt := 273) hx hb dX5_isDone_266 (by decide) (fun h67 => ?_) (fun h67 => ?_)
              · have hf := ifp h67 hf
                refine lv_iconst (v := 0) hx hb dX5_isDone_273 (by decide) ?_
                cases hf
                exact W.zret (ty := .boolean) hx hb hr (by decide) (fun u hu _ => ⟨⟨rfl, by rw [hu]; exact hW⟩, hS.F hu⟩) hS.2.2 dX5_isDone_274
              · have hf := ifn h67 hf
                refine lv_iconst (v := 1) hx hb dX5_isDone_269 (by decide) ?_
                refine lv_goto (tgt := 274) hx hb dX5_isDone_270 (by decide) ?_
                cases hf
                exact W.zret (ty := .boolean) hx hb hr (by decide) (fun u hu _ => ⟨⟨rfl, by rw [hu]; exact hW⟩, hS.F hu⟩) hS.2.2 dX5_isDone_274
def l_X5_carries_15 : Nat → Sg → Int32 → Option (Int32 × Sg)
  | 0, _, _ => none
  | n + 1, τ, x1 => if (τ 193 13) ≤ x1 then (if x1 = (τ 193 13) then (some ((-1), τ)) else (some (x1, τ))) else (b2 (f_X5_isDone τ x1) fun y6 σ8 => if y6 = 0 then (if x1 = (σ8 193 13) then (some ((-1), σ8)) else (some (x1, σ8))) else (l_X5_carries_15 n σ8 (x1 + 1)))
def f_X5_carries (σ : Sg) : Option (Int32 × Sg) := b1 (f_X5_lays 194 1785 198 1785 σ 0 0) fun σ3 => l_X5_carries_15 10000 σ3 0
set_option maxHeartbeats 4000000 in
set_option maxRecDepth 100000 in
theorem c_X5_carries (l : Launch) (D : va_G) (t : Nat → ClassId) (b : Nat) (σ : Sg) (r : Int32) (σr : Sg) (hf : f_X5_carries σ = some (r, σr)) : Met l yX5_carries (Cond.code yX5_carries cX5_carries 2 (some .int) :: ALL) ({ frames := 9, cells := 0, slots := 0, locals := 206 }) (PM D t b σ [.ref (b + 193)]) (QG D t b σr (some (.int r))) 0 0 (geA b) := by
  refine Met.ofW (cc := cX5_carries) (maxL := 2) (ret := (some .int)) (by decide) rfl ?_
  intro p e s m args below meth c s₁ B hml hv
  obtain ⟨rfl, hW, hE⟩ := hv
  have hx := B.exec
  have hb := B.bytes
  have hr := B.returns
  have hts := atoms_spec (ws := Cond.code yX5_carries cX5_carries 2 (some .int) :: ALL) B.pre
  have hta := fun w h => hts w (List.mem_cons_of_mem _ h)
  have hown : s.vm.findClass RX5 = some m.cls := findClass_of_methodNamed B.named
  have hlocks := B.notSynchronized
  have hS : va_S (geA b) s.heap s.heap [] := va_S.rf
  have hl := lv_entry ([.ref (b + 193)]) (n := 2) (Nat.le_of_ble_eq_true rfl)
  rw [lg_entry_eq]
  generalize (lg_sl ([.ref (b + 193)]) ++ List.replicate (2 - (lg_sl ([.ref (b + 193)])).length) Slot.unset).toArray = ls at hl ⊢
  have hl : lv_has ls 2 [(0, .ref (b + 193))] := hl
  unfold f_X5_carries at hf
  refine lv_aload_n hx hb dX5_carries_0 rfl (lv_at hl 0 rfl) ?_
  refine getM hx hb hta hown hE.1 hW 0 (by decide) q1181 rfl dX5_carries_1 ?_
  refine lv_iconst (v := 0) hx hb dX5_carries_4 (by decide) ?_
  refine lv_aload_n hx hb dX5_carries_5 rfl (lv_at hl 0 rfl) ?_
  refine getM hx hb hta hown hE.1 hW 6 (by decide) q1187 rfl dX5_carries_6 ?_
  refine lv_iconst (v := 0) hx hb dX5_carries_9 (by decide) ?_
  obtain ⟨σ3, u2, hf⟩ := b1_e hf
  refine mS (n := 4) (As := [.ref (b + 194), .int 0, .ref (b + 198), .int 0]) (rest := []) (c_X5_lays l D t b 194 1785 198 1785 σ 0 0 σ3 sh_194 sh_198 u2) hx hb hml hown hts hE hW hS q1260 q1261 q96 q1262 hs_X5_lays ⟨rfl, rfl⟩ ⟨Nat.le_of_ble_eq_true rfl, Nat.le_of_ble_eq_true rfl⟩ rfl rfl hl.1 (Nat.le_of_ble_eq_true rfl) ⟨Nat.zero_le _, Nat.zero_le _⟩ dX5_carries_10 (fun H locs hW hS => ?_)
  refine lv_iconst (v := 0) hx hb dX5_carries_13 (by decide) ?_
  refine lv_istore_n (lv' := [(1, .int 0), (0, .ref (b + 193))]) hx hb dX5_carries_14 rfl hl (by decide) rfl (fun ls hl => ?_)
  have key_15 : ∀ (n : Nat) (τ : Sg) (x1 : Int32) (H : Heap) (locs : List Loc) (ls : Array Slot), l_X5_carries_15 n τ x1 = some (r, σr) → wd D t b τ H → va_S (geA b) s.heap H locs → lv_has ls 2 [(0, .ref (b + 193)), (1, .int x1)] → W p l e (headSpec (Cond.code yX5_carries cX5_carries 2 (some .int) :: ALL) ({ frames := 9, cells := 0, slots := 0, locals := 206 })).room s m (([.ref (b + 193)] : List Value).toArray) below meth c H locs 0 0 (MQ below (QG D t b σr (some (.int r))) (([.ref (b + 193)] : List Value).toArray) s 0 0 (geA b)) (F0 m 15 ls []) := by
    intro n
    induction n with
    | zero =>
      intro τ x1 H locs ls hf
      rw [l_X5_carries_15.eq_1] at hf
      cases hf
    | succ n ih_15 =>
      intro τ x1 H locs ls hf hW hS hl
      rw [l_X5_carries_15.eq_2] at hf
      refine lv_iload_n hx hb dX5_carries_15 rfl (lv_at hl 1 rfl) ?_
      refine lv_aload_n hx hb dX5_carries_16 rfl (lv_at hl 0 rfl) ?_
      refine getM hx hb hta hown hE.1 hW 13 (by decide) q1194 rfl dX5_carries_17 ?_
      refine lv_icmp_ge (tgt := 37) hx hb dX5_carries_20 (by decide) (fun h4 => ?_) (fun h4 => ?_)
      · have hf := ifp h4 hf
        refine lv_iload_n hx hb dX5_carries_37 rfl (lv_at hl 1 rfl) ?_
        refine lv_aload_n hx hb dX5_carries_38 rfl (lv_at hl 0 rfl) ?_
        refine getM hx hb hta hown hE.1 hW 13 (by decide) q1194 rfl dX5_carries_39 ?_
        refine lv_icmp_ne (tgt := 49) hx hb dX5_carries_42 (by decide) (fun h5 => ?_) (fun h5 => ?_)
        · have hf := ifn h5 hf
          refine lv_iload_n hx hb dX5_carries_49 rfl (lv_at hl 1 rfl) ?_
          cases hf
          exact W.iret hx hb hr (fun u hu _ => ⟨⟨rfl, by rw [hu]; exact hW⟩, hS.F hu⟩) hS.2.2 dX5_carries_50
        · have hf := ifp h5 hf
          refine lv_iconst (v := (-1)) hx hb dX5_carries_45 (by decide) ?_
          refine lv_goto (tgt := 50) hx hb dX5_carries_46 (by decide) ?_
          cases hf
          exact W.iret hx hb hr (fun u hu _ => ⟨⟨rfl, by rw [hu]; exact hW⟩, hS.F hu⟩) hS.2.2 dX5_carries_50
      · have hf := ifn h4 hf
        refine lv_aload_n hx hb dX5_carries_23 rfl (lv_at hl 0 rfl) ?_
        refine lv_iload_n hx hb dX5_carries_24 rfl (lv_at hl 1 rfl) ?_
        obtain ⟨y6, σ8, u7, hf⟩ := b2_e hf
        refine mV (k := 193) (q := (5, 0)) (C := RX5) (T := TX5) (N := 14) (ci := 5) (n := 1) (As := [.int x1]) (rest := []) (c_X5_isDone l D t b τ x1 y6 σ8 u7) sh_193 (by decide) rfl rfl hx hb hml hown hts hE hW hS q1508 q1510 q80 q96 q1511 hy_X5_isDone ⟨rfl, rfl⟩ ⟨Nat.le_of_ble_eq_true rfl, Nat.le_of_ble_eq_true rfl⟩ rfl rfl hl.1 (Nat.le_of_ble_eq_true rfl) ⟨Nat.zero_le _, Nat.zero_le _⟩ dX5_carries_25 (fun H locs hW hS => ?_)
        refine lv_if_eq (tgt := 37) hx hb dX5_carries_28 (by decide) (fun h9 => ?_) (fun h9 => ?_)
        · have hf := ifp h9 hf
          refine lv_iload_n hx hb dX5_carries_37 rfl (lv_at hl 1 rfl) ?_
          refine lv_aload_n hx hb dX5_carries_38 rfl (lv_at hl 0 rfl) ?_
          refine getM hx hb hta hown hE.1 hW 13 (by decide) q1194 rfl dX5_carries_39 ?_
          refine lv_icmp_ne (tgt := 49) hx hb dX5_carries_42 (by decide) (fun h10 => ?_) (fun h10 => ?_)
          · have hf := ifn h10 hf
            refine lv_iload_n hx hb dX5_carries_49 rfl (lv_at hl 1 rfl) ?_
            cases hf
            exact W.iret hx hb hr (fun u hu _ => ⟨⟨rfl, by rw [hu]; exact hW⟩, hS.F hu⟩) hS.2.2 dX5_carries_50
          · have hf := ifp h10 hf
            refine lv_iconst (v := (-1)) hx hb dX5_carries_45 (by decide) ?_
            refine lv_goto (tgt := 50) hx hb dX5_carries_46 (by decide) ?_
            cases hf
            exact W.iret hx hb hr (fun u hu _ => ⟨⟨rfl, by rw [hu]; exact hW⟩, hS.F hu⟩) hS.2.2 dX5_carries_50
        · have hf := ifn h9 hf
          refine lv_iinc (v := (x1 + 1)) (lv' := [(1, .int (x1 + 1)), (0, .ref (b + 193))]) hx hb dX5_carries_31 hl (k := 1) rfl (by rfl) (by decide) rfl (fun ls hl => ?_)
          refine lv_goto (tgt := 15) hx hb dX5_carries_34 (by decide) ?_
          exact ih_15 σ8 (x1 + 1) _ _ _ hf hW hS (lv_sub hl [1, 0] rfl)
  exact key_15 10000 σ3 0 _ _ _ hf hW hS (lv_sub hl [1, 0] rfl)
def f_X5_impossibleOrder (σ : Sg) : Option (Int32 × Sg) := b2 (f_X5_isWhole σ) fun y1 σ3 => if y1 = 0 then (st (u2 σ3 193 10 1) fun σ5 => if (σ5 193 10) ≤ 0 then (b2 (f_X5_carries σ5) fun y8 σ10 => b1 (f_X5_lays 198 1785 194 1785 σ10 0 0) fun σ13 => some (y8, σ13)) else (some (0, σ5))) else (st (u2 σ3 193 10 0) fun σ14 => if (σ14 193 10) ≤ 0 then (b2 (f_X5_carries σ14) fun y17 σ19 => b1 (f_X5_lays 198 1785 194 1785 σ19 0 0) fun σ22 => some (y17, σ22)) else (some (0, σ14)))
set_option maxHeartbeats 4000000 in
set_option maxRecDepth 100000 in
theorem c_X5_impossibleOrder (l : Launch) (D : va_G) (t : Nat → ClassId) (b : Nat) (σ : Sg) (r : Int32) (σr : Sg) (hf : f_X5_impossibleOrder σ = some (r, σr)) : Met l yX5_impossibleOrder (Cond.code yX5_impossibleOrder cX5_impossibleOrder 2 (some .int) :: ALL) ({ frames := 10, cells := 0, slots := 0, locals := 227 }) (PM D t b σ [.ref (b + 193)]) (QG D t b σr (some (.int r))) 0 0 (geA b) := by
  refine Met.ofW (cc := cX5_impossibleOrder) (maxL := 2) (ret := (some .int)) (by decide) rfl ?_
  intro p e s m args below meth c s₁ B hml hv
  obtain ⟨rfl, hW, hE⟩ := hv
  have hx := B.exec
  have hb := B.bytes
  have hr := B.returns
  have hts := atoms_spec (ws := Cond.code yX5_impossibleOrder cX5_impossibleOrder 2 (some .int) :: ALL) B.pre
  have hta := fun w h => hts w (List.mem_cons_of_mem _ h)
  have hown : s.vm.findClass RX5 = some m.cls := findClass_of_methodNamed B.named
  have hlocks := B.notSynchronized
  have hS : va_S (geA b) s.heap s.heap [] := va_S.rf
  have hl := lv_entry ([.ref (b + 193)]) (n := 2) (Nat.le_of_ble_eq_true rfl)
  rw [lg_entry_eq]
  generalize (lg_sl ([.ref (b + 193)]) ++ List.replicate (2 - (lg_sl ([.ref (b + 193)])).length) Slot.unset).toArray = ls at hl ⊢
  have hl : lv_has ls 2 [(0, .ref (b + 193))] := hl
  unfold f_X5_impossibleOrder at hf
  refine lv_aload_n hx hb dX5_impossibleOrder_0 rfl (lv_at hl 0 rfl) ?_
  refine lv_aload_n hx hb dX5_impossibleOrder_1 rfl (lv_at hl 0 rfl) ?_
  obtain ⟨y1, σ3, u2, hf⟩ := b2_e hf
  refine mV (k := 193) (q := (5, 0)) (C := RX5) (T := TX5) (N := 14) (ci := 5) (n := 0) (As := []) (rest := [.ref (b + 193)]) (c_X5_isWhole l D t b σ y1 σ3 u2) sh_193 (by decide) rfl rfl hx hb hml hown hts hE hW hS q1472 q1474 q72 q96 q1475 hy_X5_isWhole ⟨rfl, rfl⟩ ⟨Nat.le_of_ble_eq_true rfl, Nat.le_of_ble_eq_true rfl⟩ rfl rfl hl.1 (Nat.le_of_ble_eq_true rfl) ⟨Nat.zero_le _, Nat.zero_le _⟩ dX5_impossibleOrder_2 (fun H locs hW hS => ?_)
  refine lv_if_eq (tgt := 12) hx hb dX5_impossibleOrder_5 (by decide) (fun h4 => ?_) (fun h4 => ?_)
  · have hf := ifp h4 hf
    refine lv_iconst (v := 1) hx hb dX5_impossibleOrder_12 (by decide) ?_
    refine putX (k := 193) (q := (5, 0)) (ci := 5) (x := 1) inA5 tyX5_ok nmX5 rfl (by decide) rfl hx hb hta hown hE.1 hW hS sh_193 10 (by decide) q1191 rfl rfl rfl (Nat.le_of_ble_eq_true rfl) rfl dX5_impossibleOrder_13 (fun H locs hW hS => ?_)
    obtain ⟨σ5, e6, hf⟩ := st_e hf
    rw [e6] at hW
    refine lv_aload_n hx hb dX5_impossibleOrder_16 rfl (lv_at hl 0 rfl) ?_
    refine getM hx hb hta hown hE.1 hW 10 (by decide) q1191 rfl dX5_impossibleOrder_17 ?_
    refine lv_if_le (tgt := 25) hx hb dX5_impossibleOrder_20 (by decide) (fun h7 => ?_) (fun h7 => ?_)
    · have hf := ifp h7 hf
      refine lv_aload_n hx hb dX5_impossibleOrder_25 rfl (lv_at hl 0 rfl) ?_
      obtain ⟨y8, σ10, u9, hf⟩ := b2_e hf
      refine mV (k := 193) (q := (5, 0)) (C := RX5) (T := TX5) (N := 14) (ci := 5) (n := 0) (As := []) (rest := []) (c_X5_carries l D t b σ5 y8 σ10 u9) sh_193 (by decide) rfl rfl hx hb hml hown hts hE hW hS q1504 q1506 q79 q96 q1507 hy_X5_carries ⟨rfl, rfl⟩ ⟨Nat.le_of_ble_eq_true rfl, Nat.le_of_ble_eq_true rfl⟩ rfl rfl hl.1 (Nat.le_of_ble_eq_true rfl) ⟨Nat.zero_le _, Nat.zero_le _⟩ dX5_impossibleOrder_26 (fun H locs hW hS => ?_)
      refine lv_istore_n (lv' := [(1, .int y8), (0, .ref (b + 193))]) hx hb dX5_impossibleOrder_29 rfl hl (by decide) rfl (fun ls hl => ?_)
      refine lv_aload_n hx hb dX5_impossibleOrder_30 rfl (lv_at hl 1 rfl) ?_
      refine getM hx hb hta hown hE.1 hW 6 (by decide) q1187 rfl dX5_impossibleOrder_31 ?_
      refine lv_iconst (v := 0) hx hb dX5_impossibleOrder_34 (by decide) ?_
      refine lv_aload_n hx hb dX5_impossibleOrder_35 rfl (lv_at hl 1 rfl) ?_
      refine getM hx hb hta hown hE.1 hW 0 (by decide) q1181 rfl dX5_impossibleOrder_36 ?_
      refine lv_iconst (v := 0) hx hb dX5_impossibleOrder_39 (by decide) ?_
      obtain ⟨σ13, u12, hf⟩ := b1_e hf
      refine mS (n := 4) (As := [.ref (b + 198), .int 0, .ref (b + 194), .int 0]) (rest := []) (c_X5_lays l D t b 198 1785 194 1785 σ10 0 0 σ13 sh_198 sh_194 u12) hx hb hml hown hts hE hW hS q1260 q1261 q96 q1262 hs_X5_lays ⟨rfl, rfl⟩ ⟨Nat.le_of_ble_eq_true rfl, Nat.le_of_ble_eq_true rfl⟩ rfl rfl hl.1 (Nat.le_of_ble_eq_true rfl) ⟨Nat.zero_le _, Nat.zero_le _⟩ dX5_impossibleOrder_40 (fun H locs hW hS => ?_)
      refine lv_iload_n hx hb dX5_impossibleOrder_43 rfl (lv_at hl 0 rfl) ?_
      cases hf
      exact W.iret hx hb hr (fun u hu _ => ⟨⟨rfl, by rw [hu]; exact hW⟩, hS.F hu⟩) hS.2.2 dX5_impossibleOrder_44
    · have hf := ifn h7 hf
      refine lv_iconst (v := 0) hx hb dX5_impossibleOrder_23 (by decide) ?_
      cases hf
      exact W.iret hx hb hr (fun u hu _ => ⟨⟨rfl, by rw [hu]; exact hW⟩, hS.F hu⟩) hS.2.2 dX5_impossibleOrder_24
  · have hf := ifn h4 hf
    refine lv_iconst (v := 0) hx hb dX5_impossibleOrder_8 (by decide) ?_
    refine lv_goto (tgt := 13) hx hb dX5_impossibleOrder_9 (by decide) ?_
    refine putX (k := 193) (q := (5, 0)) (ci := 5) (x := 0) inA5 tyX5_ok nmX5 rfl (by decide) rfl hx hb hta hown hE.1 hW hS sh_193 10 (by decide) q1191 rfl rfl rfl (Nat.le_of_ble_eq_true rfl) rfl dX5_impossibleOrder_13 (fun H locs hW hS => ?_)
    obtain ⟨σ14, e15, hf⟩ := st_e hf
    rw [e15] at hW
    refine lv_aload_n hx hb dX5_impossibleOrder_16 rfl (lv_at hl 0 rfl) ?_
    refine getM hx hb hta hown hE.1 hW 10 (by decide) q1191 rfl dX5_impossibleOrder_17 ?_
    refine lv_if_le (tgt := 25) hx hb dX5_impossibleOrder_20 (by decide) (fun h16 => ?_) (fun h16 => ?_)
    · have hf := ifp h16 hf
      refine lv_aload_n hx hb dX5_impossibleOrder_25 rfl (lv_at hl 0 rfl) ?_
      obtain ⟨y17, σ19, u18, hf⟩ := b2_e hf
      refine mV (k := 193) (q := (5, 0)) (C := RX5) (T := TX5) (N := 14) (ci := 5) (n := 0) (As := []) (rest := []) (c_X5_carries l D t b σ14 y17 σ19 u18) sh_193 (by decide) rfl rfl hx hb hml hown hts hE hW hS q1504 q1506 q79 q96 q1507 hy_X5_carries ⟨rfl, rfl⟩ ⟨Nat.le_of_ble_eq_true rfl, Nat.le_of_ble_eq_true rfl⟩ rfl rfl hl.1 (Nat.le_of_ble_eq_true rfl) ⟨Nat.zero_le _, Nat.zero_le _⟩ dX5_impossibleOrder_26 (fun H locs hW hS => ?_)
      refine lv_istore_n (lv' := [(1, .int y17), (0, .ref (b + 193))]) hx hb dX5_impossibleOrder_29 rfl hl (by decide) rfl (fun ls hl => ?_)
      refine lv_aload_n hx hb dX5_impossibleOrder_30 rfl (lv_at hl 1 rfl) ?_
      refine getM hx hb hta hown hE.1 hW 6 (by decide) q1187 rfl dX5_impossibleOrder_31 ?_
      refine lv_iconst (v := 0) hx hb dX5_impossibleOrder_34 (by decide) ?_
      refine lv_aload_n hx hb dX5_impossibleOrder_35 rfl (lv_at hl 1 rfl) ?_
      refine getM hx hb hta hown hE.1 hW 0 (by decide) q1181 rfl dX5_impossibleOrder_36 ?_
      refine lv_iconst (v := 0) hx hb dX5_impossibleOrder_39 (by decide) ?_
      obtain ⟨σ22, u21, hf⟩ := b1_e hf
      refine mS (n := 4) (As := [.ref (b + 198), .int 0, .ref (b + 194), .int 0]) (rest := []) (c_X5_lays l D t b 198 1785 194 1785 σ19 0 0 σ22 sh_198 sh_194 u21) hx hb hml hown hts hE hW hS q1260 q1261 q96 q1262 hs_X5_lays ⟨rfl, rfl⟩ ⟨Nat.le_of_ble_eq_true rfl, Nat.le_of_ble_eq_true rfl⟩ rfl rfl hl.1 (Nat.le_of_ble_eq_true rfl) ⟨Nat.zero_le _, Nat.zero_le _⟩ dX5_impossibleOrder_40 (fun H locs hW hS => ?_)
      refine lv_iload_n hx hb dX5_impossibleOrder_43 rfl (lv_at hl 0 rfl) ?_
      cases hf
      exact W.iret hx hb hr (fun u hu _ => ⟨⟨rfl, by rw [hu]; exact hW⟩, hS.F hu⟩) hS.2.2 dX5_impossibleOrder_44
    · have hf := ifn h16 hf
      refine lv_iconst (v := 0) hx hb dX5_impossibleOrder_23 (by decide) ?_
      cases hf
      exact W.iret hx hb hr (fun u hu _ => ⟨⟨rfl, by rw [hu]; exact hW⟩, hS.F hu⟩) hS.2.2 dX5_impossibleOrder_24
def f_X5_carryOut (σ : Sg) : Option (Int32 × Sg) := b2 (f_X5_isWhole σ) fun y1 σ3 => if y1 = 0 then (st (u2 σ3 193 10 1) fun σ5 => if (σ5 193 10) ≤ 0 then (b2 (f_X5_carries σ5) fun y8 σ10 => if y8 = (-1) then (b1 (f_X5_saves 198 1785 σ10) fun σ14 => some ((σ14 193 13), σ14)) else (b1 (f_X5_lays 198 1785 194 1785 σ10 0 0) fun σ17 => b2 (f_X5_refuses σ17 1) fun y18 σ20 => some (y18, σ20))) else (some (0, σ5))) else (st (u2 σ3 193 10 0) fun σ21 => if (σ21 193 10) ≤ 0 then (b2 (f_X5_carries σ21) fun y24 σ26 => if y24 = (-1) then (b1 (f_X5_saves 198 1785 σ26) fun σ30 => some ((σ30 193 13), σ30)) else (b1 (f_X5_lays 198 1785 194 1785 σ26 0 0) fun σ33 => b2 (f_X5_refuses σ33 1) fun y34 σ36 => some (y34, σ36))) else (some (0, σ21)))
set_option maxHeartbeats 4000000 in
set_option maxRecDepth 100000 in
theorem c_X5_carryOut (l : Launch) (D : va_G) (t : Nat → ClassId) (b : Nat) (σ : Sg) (r : Int32) (σr : Sg) (hf : f_X5_carryOut σ = some (r, σr)) : Met l yX5_carryOut (Cond.code yX5_carryOut cX5_carryOut 1 (some .int) :: ALL) ({ frames := 10, cells := 0, slots := 0, locals := 227 }) (PM D t b σ [.ref (b + 193)]) (QG D t b σr (some (.int r))) 0 0 (geA b) := by
  refine Met.ofW (cc := cX5_carryOut) (maxL := 1) (ret := (some .int)) (by decide) rfl ?_
  intro p e s m args below meth c s₁ B hml hv
  obtain ⟨rfl, hW, hE⟩ := hv
  have hx := B.exec
  have hb := B.bytes
  have hr := B.returns
  have hts := atoms_spec (ws := Cond.code yX5_carryOut cX5_carryOut 1 (some .int) :: ALL) B.pre
  have hta := fun w h => hts w (List.mem_cons_of_mem _ h)
  have hown : s.vm.findClass RX5 = some m.cls := findClass_of_methodNamed B.named
  have hlocks := B.notSynchronized
  have hS : va_S (geA b) s.heap s.heap [] := va_S.rf
  have hl := lv_entry ([.ref (b + 193)]) (n := 1) (Nat.le_of_ble_eq_true rfl)
  rw [lg_entry_eq]
  generalize (lg_sl ([.ref (b + 193)]) ++ List.replicate (1 - (lg_sl ([.ref (b + 193)])).length) Slot.unset).toArray = ls at hl ⊢
  have hl : lv_has ls 1 [(0, .ref (b + 193))] := hl
  unfold f_X5_carryOut at hf
  refine lv_aload_n hx hb dX5_carryOut_0 rfl (lv_at hl 0 rfl) ?_
  refine lv_aload_n hx hb dX5_carryOut_1 rfl (lv_at hl 0 rfl) ?_
  obtain ⟨y1, σ3, u2, hf⟩ := b2_e hf
  refine mV (k := 193) (q := (5, 0)) (C := RX5) (T := TX5) (N := 14) (ci := 5) (n := 0) (As := []) (rest := [.ref (b + 193)]) (c_X5_isWhole l D t b σ y1 σ3 u2) sh_193 (by decide) rfl rfl hx hb hml hown hts hE hW hS q1472 q1474 q72 q96 q1475 hy_X5_isWhole ⟨rfl, rfl⟩ ⟨Nat.le_of_ble_eq_true rfl, Nat.le_of_ble_eq_true rfl⟩ rfl rfl hl.1 (Nat.le_of_ble_eq_true rfl) ⟨Nat.zero_le _, Nat.zero_le _⟩ dX5_carryOut_2 (fun H locs hW hS => ?_)
  refine lv_if_eq (tgt := 12) hx hb dX5_carryOut_5 (by decide) (fun h4 => ?_) (fun h4 => ?_)
  · have hf := ifp h4 hf
    refine lv_iconst (v := 1) hx hb dX5_carryOut_12 (by decide) ?_
    refine putX (k := 193) (q := (5, 0)) (ci := 5) (x := 1) inA5 tyX5_ok nmX5 rfl (by decide) rfl hx hb hta hown hE.1 hW hS sh_193 10 (by decide) q1191 rfl rfl rfl (Nat.le_of_ble_eq_true rfl) rfl dX5_carryOut_13 (fun H locs hW hS => ?_)
    obtain ⟨σ5, e6, hf⟩ := st_e hf
    rw [e6] at hW
    refine lv_aload_n hx hb dX5_carryOut_16 rfl (lv_at hl 0 rfl) ?_
    refine getM hx hb hta hown hE.1 hW 10 (by decide) q1191 rfl dX5_carryOut_17 ?_
    refine lv_if_le (tgt := 25) hx hb dX5_carryOut_20 (by decide) (fun h7 => ?_) (fun h7 => ?_)
    · have hf := ifp h7 hf
      refine lv_aload_n hx hb dX5_carryOut_25 rfl (lv_at hl 0 rfl) ?_
      obtain ⟨y8, σ10, u9, hf⟩ := b2_e hf
      refine mV (k := 193) (q := (5, 0)) (C := RX5) (T := TX5) (N := 14) (ci := 5) (n := 0) (As := []) (rest := []) (c_X5_carries l D t b σ5 y8 σ10 u9) sh_193 (by decide) rfl rfl hx hb hml hown hts hE hW hS q1504 q1506 q79 q96 q1507 hy_X5_carries ⟨rfl, rfl⟩ ⟨Nat.le_of_ble_eq_true rfl, Nat.le_of_ble_eq_true rfl⟩ rfl rfl hl.1 (Nat.le_of_ble_eq_true rfl) ⟨Nat.zero_le _, Nat.zero_le _⟩ dX5_carryOut_26 (fun H locs hW hS => ?_)
      refine lv_iconst (v := (-1)) hx hb dX5_carryOut_29 (by decide) ?_
      refine lv_icmp_eq (tgt := 52) hx hb dX5_carryOut_30 (by decide) (fun h11 => ?_) (fun h11 => ?_)
      · have hf := ifp h11 hf
        refine lv_aload_n hx hb dX5_carryOut_52 rfl (lv_at hl 0 rfl) ?_
        refine lv_aload_n hx hb dX5_carryOut_53 rfl (lv_at hl 0 rfl) ?_
        refine getM hx hb hta hown hE.1 hW 6 (by decide) q1187 rfl dX5_carryOut_54 ?_
        obtain ⟨σ14, u13, hf⟩ := b1_e hf
        refine mV (k := 193) (q := (5, 0)) (C := RX5) (T := TX5) (N := 14) (ci := 5) (n := 1) (As := [.ref (b + 198)]) (rest := []) (c_X5_saves l D t b 198 1785 σ10 σ14 sh_198 u13) sh_193 (by decide) rfl rfl hx hb hml hown hts hE hW hS q1256 q1258 q36 q96 q1259 hy_X5_saves ⟨rfl, rfl⟩ ⟨Nat.le_of_ble_eq_true rfl, Nat.le_of_ble_eq_true rfl⟩ rfl rfl hl.1 (Nat.le_of_ble_eq_true rfl) ⟨Nat.zero_le _, Nat.zero_le _⟩ dX5_carryOut_57 (fun H locs hW hS => ?_)
        refine lv_aload_n hx hb dX5_carryOut_60 rfl (lv_at hl 0 rfl) ?_
        refine getM hx hb hta hown hE.1 hW 13 (by decide) q1194 rfl dX5_carryOut_61 ?_
        cases hf
        exact W.iret hx hb hr (fun u hu _ => ⟨⟨rfl, by rw [hu]; exact hW⟩, hS.F hu⟩) hS.2.2 dX5_carryOut_64
      · have hf := ifn h11 hf
        refine lv_aload_n hx hb dX5_carryOut_33 rfl (lv_at hl 0 rfl) ?_
        refine getM hx hb hta hown hE.1 hW 6 (by decide) q1187 rfl dX5_carryOut_34 ?_
        refine lv_iconst (v := 0) hx hb dX5_carryOut_37 (by decide) ?_
        refine lv_aload_n hx hb dX5_carryOut_38 rfl (lv_at hl 0 rfl) ?_
        refine getM hx hb hta hown hE.1 hW 0 (by decide) q1181 rfl dX5_carryOut_39 ?_
        refine lv_iconst (v := 0) hx hb dX5_carryOut_42 (by decide) ?_
        obtain ⟨σ17, u16, hf⟩ := b1_e hf
        refine mS (n := 4) (As := [.ref (b + 198), .int 0, .ref (b + 194), .int 0]) (rest := []) (c_X5_lays l D t b 198 1785 194 1785 σ10 0 0 σ17 sh_198 sh_194 u16) hx hb hml hown hts hE hW hS q1260 q1261 q96 q1262 hs_X5_lays ⟨rfl, rfl⟩ ⟨Nat.le_of_ble_eq_true rfl, Nat.le_of_ble_eq_true rfl⟩ rfl rfl hl.1 (Nat.le_of_ble_eq_true rfl) ⟨Nat.zero_le _, Nat.zero_le _⟩ dX5_carryOut_43 (fun H locs hW hS => ?_)
        refine lv_aload_n hx hb dX5_carryOut_46 rfl (lv_at hl 0 rfl) ?_
        refine lv_iconst (v := 1) hx hb dX5_carryOut_47 (by decide) ?_
        obtain ⟨y18, σ20, u19, hf⟩ := b2_e hf
        refine mV (k := 193) (q := (5, 0)) (C := RX5) (T := TX5) (N := 14) (ci := 5) (n := 1) (As := [.int 1]) (rest := []) (c_X5_refuses l D t b σ17 1 y18 σ20 u19) sh_193 (by decide) rfl rfl hx hb hml hown hts hE hW hS q1516 q1518 q81 q96 q1519 hy_X5_refuses ⟨rfl, rfl⟩ ⟨Nat.le_of_ble_eq_true rfl, Nat.le_of_ble_eq_true rfl⟩ rfl rfl hl.1 (Nat.le_of_ble_eq_true rfl) ⟨Nat.zero_le _, Nat.zero_le _⟩ dX5_carryOut_48 (fun H locs hW hS => ?_)
        cases hf
        exact W.iret hx hb hr (fun u hu _ => ⟨⟨rfl, by rw [hu]; exact hW⟩, hS.F hu⟩) hS.2.2 dX5_carryOut_51
    · have hf := ifn h7 hf
      refine lv_iconst (v := 0) hx hb dX5_carryOut_23 (by decide) ?_
      cases hf
      exact W.iret hx hb hr (fun u hu _ => ⟨⟨rfl, by rw [hu]; exact hW⟩, hS.F hu⟩) hS.2.2 dX5_carryOut_24
  · have hf := ifn h4 hf
    refine lv_iconst (v := 0) hx hb dX5_carryOut_8 (by decide) ?_
    refine lv_goto (tgt := 13) hx hb dX5_carryOut_9 (by decide) ?_
    refine putX (k := 193) (q := (5, 0)) (ci := 5) (x := 0) inA5 tyX5_ok nmX5 rfl (by decide) rfl hx hb hta hown hE.1 hW hS sh_193 10 (by decide) q1191 rfl rfl rfl (Nat.le_of_ble_eq_true rfl) rfl dX5_carryOut_13 (fun H locs hW hS => ?_)
    obtain ⟨σ21, e22, hf⟩ := st_e hf
    rw [e22] at hW
    refine lv_aload_n hx hb dX5_carryOut_16 rfl (lv_at hl 0 rfl) ?_
    refine getM hx hb hta hown hE.1 hW 10 (by decide) q1191 rfl dX5_carryOut_17 ?_
    refine lv_if_le (tgt := 25) hx hb dX5_carryOut_20 (by decide) (fun h23 => ?_) (fun h23 => ?_)
    · have hf := ifp h23 hf
      refine lv_aload_n hx hb dX5_carryOut_25 rfl (lv_at hl 0 rfl) ?_
      obtain ⟨y24, σ26, u25, hf⟩ := b2_e hf
      refine mV (k := 193) (q := (5, 0)) (C := RX5) (T := TX5) (N := 14) (ci := 5) (n := 0) (As := []) (rest := []) (c_X5_carries l D t b σ21 y24 σ26 u25) sh_193 (by decide) rfl rfl hx hb hml hown hts hE hW hS q1504 q1506 q79 q96 q1507 hy_X5_carries ⟨rfl, rfl⟩ ⟨Nat.le_of_ble_eq_true rfl, Nat.le_of_ble_eq_true rfl⟩ rfl rfl hl.1 (Nat.le_of_ble_eq_true rfl) ⟨Nat.zero_le _, Nat.zero_le _⟩ dX5_carryOut_26 (fun H locs hW hS => ?_)
      refine lv_iconst (v := (-1)) hx hb dX5_carryOut_29 (by decide) ?_
      refine lv_icmp_eq (tgt := 52) hx hb dX5_carryOut_30 (by decide) (fun h27 => ?_) (fun h27 => ?_)
      · have hf := ifp h27 hf
        refine lv_aload_n hx hb dX5_carryOut_52 rfl (lv_at hl 0 rfl) ?_
        refine lv_aload_n hx hb dX5_carryOut_53 rfl (lv_at hl 0 rfl) ?_
        refine getM hx hb hta hown hE.1 hW 6 (by decide) q1187 rfl dX5_carryOut_54 ?_
        obtain ⟨σ30, u29, hf⟩ := b1_e hf
        refine mV (k := 193) (q := (5, 0)) (C := RX5) (T := TX5) (N := 14) (ci := 5) (n := 1) (As := [.ref (b + 198)]) (rest := []) (c_X5_saves l D t b 198 1785 σ26 σ30 sh_198 u29) sh_193 (by decide) rfl rfl hx hb hml hown hts hE hW hS q1256 q1258 q36 q96 q1259 hy_X5_saves ⟨rfl, rfl⟩ ⟨Nat.le_of_ble_eq_true rfl, Nat.le_of_ble_eq_true rfl⟩ rfl rfl hl.1 (Nat.le_of_ble_eq_true rfl) ⟨Nat.zero_le _, Nat.zero_le _⟩ dX5_carryOut_57 (fun H locs hW hS => ?_)
        refine lv_aload_n hx hb dX5_carryOut_60 rfl (lv_at hl 0 rfl) ?_
        refine getM hx hb hta hown hE.1 hW 13 (by decide) q1194 rfl dX5_carryOut_61 ?_
        cases hf
        exact W.iret hx hb hr (fun u hu _ => ⟨⟨rfl, by rw [hu]; exact hW⟩, hS.F hu⟩) hS.2.2 dX5_carryOut_64
      · have hf := ifn h27 hf
        refine lv_aload_n hx hb dX5_carryOut_33 rfl (lv_at hl 0 rfl) ?_
        refine getM hx hb hta hown hE.1 hW 6 (by decide) q1187 rfl dX5_carryOut_34 ?_
        refine lv_iconst (v := 0) hx hb dX5_carryOut_37 (by decide) ?_
        refine lv_aload_n hx hb dX5_carryOut_38 rfl (lv_at hl 0 rfl) ?_
        refine getM hx hb hta hown hE.1 hW 0 (by decide) q1181 rfl dX5_carryOut_39 ?_
        refine lv_iconst (v := 0) hx hb dX5_carryOut_42 (by decide) ?_
        obtain ⟨σ33, u32, hf⟩ := b1_e hf
        refine mS (n := 4) (As := [.ref (b + 198), .int 0, .ref (b + 194), .int 0]) (rest := []) (c_X5_lays l D t b 198 1785 194 1785 σ26 0 0 σ33 sh_198 sh_194 u32) hx hb hml hown hts hE hW hS q1260 q1261 q96 q1262 hs_X5_lays ⟨rfl, rfl⟩ ⟨Nat.le_of_ble_eq_true rfl, Nat.le_of_ble_eq_true rfl⟩ rfl rfl hl.1 (Nat.le_of_ble_eq_true rfl) ⟨Nat.zero_le _, Nat.zero_le _⟩ dX5_carryOut_43 (fun H locs hW hS => ?_)
        refine lv_aload_n hx hb dX5_carryOut_46 rfl (lv_at hl 0 rfl) ?_
        refine lv_iconst (v := 1) hx hb dX5_carryOut_47 (by decide) ?_
        obtain ⟨y34, σ36, u35, hf⟩ := b2_e hf
        refine mV (k := 193) (q := (5, 0)) (C := RX5) (T := TX5) (N := 14) (ci := 5) (n := 1) (As := [.int 1]) (rest := []) (c_X5_refuses l D t b σ33 1 y34 σ36 u35) sh_193 (by decide) rfl rfl hx hb hml hown hts hE hW hS q1516 q1518 q81 q96 q1519 hy_X5_refuses ⟨rfl, rfl⟩ ⟨Nat.le_of_ble_eq_true rfl, Nat.le_of_ble_eq_true rfl⟩ rfl rfl hl.1 (Nat.le_of_ble_eq_true rfl) ⟨Nat.zero_le _, Nat.zero_le _⟩ dX5_carryOut_48 (fun H locs hW hS => ?_)
        cases hf
        exact W.iret hx hb hr (fun u hu _ => ⟨⟨rfl, by rw [hu]; exact hW⟩, hS.F hu⟩) hS.2.2 dX5_carryOut_51
    · have hf := ifn h23 hf
      refine lv_iconst (v := 0) hx hb dX5_carryOut_23 (by decide) ?_
      cases hf
      exact W.iret hx hb hr (fun u hu _ => ⟨⟨rfl, by rw [hu]; exact hW⟩, hS.F hu⟩) hS.2.2 dX5_carryOut_24
def f_X5_undo (σ : Sg) : Option (Int32 × Sg) := if (σ 193 2) = 0 then (st (u2 σ 193 10 1) fun σ2 => if (σ2 193 10) ≤ 0 then (st (u2 σ2 193 2 ((σ2 193 2) - 1)) fun σ5 => b1 (f_X5_lays 195 7140 194 1785 σ5 (1785 * (σ5 193 2)) 0) fun σ9 => some ((σ9 193 2), σ9)) else (some (0, σ2))) else (st (u2 σ 193 10 0) fun σ10 => if (σ10 193 10) ≤ 0 then (st (u2 σ10 193 2 ((σ10 193 2) - 1)) fun σ13 => b1 (f_X5_lays 195 7140 194 1785 σ13 (1785 * (σ13 193 2)) 0) fun σ17 => some ((σ17 193 2), σ17)) else (some (0, σ10)))
set_option maxHeartbeats 4000000 in
set_option maxRecDepth 100000 in
theorem c_X5_undo (l : Launch) (D : va_G) (t : Nat → ClassId) (b : Nat) (σ : Sg) (r : Int32) (σr : Sg) (hf : f_X5_undo σ = some (r, σr)) : Met l yX5_undo (Cond.code yX5_undo cX5_undo 1 (some .int) :: ALL) ({ frames := 1, cells := 0, slots := 0, locals := 24 }) (PM D t b σ [.ref (b + 193)]) (QG D t b σr (some (.int r))) 0 0 (geA b) := by
  refine Met.ofW (cc := cX5_undo) (maxL := 1) (ret := (some .int)) (by decide) rfl ?_
  intro p e s m args below meth c s₁ B hml hv
  obtain ⟨rfl, hW, hE⟩ := hv
  have hx := B.exec
  have hb := B.bytes
  have hr := B.returns
  have hts := atoms_spec (ws := Cond.code yX5_undo cX5_undo 1 (some .int) :: ALL) B.pre
  have hta := fun w h => hts w (List.mem_cons_of_mem _ h)
  have hown : s.vm.findClass RX5 = some m.cls := findClass_of_methodNamed B.named
  have hlocks := B.notSynchronized
  have hS : va_S (geA b) s.heap s.heap [] := va_S.rf
  have hl := lv_entry ([.ref (b + 193)]) (n := 1) (Nat.le_of_ble_eq_true rfl)
  rw [lg_entry_eq]
  generalize (lg_sl ([.ref (b + 193)]) ++ List.replicate (1 - (lg_sl ([.ref (b + 193)])).length) Slot.unset).toArray = ls at hl ⊢
  have hl : lv_has ls 1 [(0, .ref (b + 193))] := hl
  unfold f_X5_undo at hf
  refine lv_aload_n hx hb dX5_undo_0 rfl (lv_at hl 0 rfl) ?_
  refine lv_aload_n hx hb dX5_undo_1 rfl (lv_at hl 0 rfl) ?_
  refine getM hx hb hta hown hE.1 hW 2 (by decide) q1183 rfl dX5_undo_2 ?_
  refine lv_if_ne (tgt := 12) hx hb dX5_undo_5 (by decide) (fun h1 => ?_) (fun h1 => ?_)
  · have hf := ifn h1 hf
    refine lv_iconst (v := 0) hx hb dX5_undo_12 (by decide) ?_
    refine putX (k := 193) (q := (5, 0)) (ci := 5) (x := 0) inA5 tyX5_ok nmX5 rfl (by decide) rfl hx hb hta hown hE.1 hW hS sh_193 10 (by decide) q1191 rfl rfl rfl (Nat.le_of_ble_eq_true rfl) rfl dX5_undo_13 (fun H locs hW hS => ?_)
    obtain ⟨σ10, e11, hf⟩ := st_e hf
    rw [e11] at hW
    refine lv_aload_n hx hb dX5_undo_16 rfl (lv_at hl 0 rfl) ?_
    refine getM hx hb hta hown hE.1 hW 10 (by decide) q1191 rfl dX5_undo_17 ?_
    refine lv_if_le (tgt := 25) hx hb dX5_undo_20 (by decide) (fun h12 => ?_) (fun h12 => ?_)
    · have hf := ifp h12 hf
      refine lv_aload_n hx hb dX5_undo_25 rfl (lv_at hl 0 rfl) ?_
      refine lv_dup hx hb dX5_undo_26 rfl ?_
      refine getM hx hb hta hown hE.1 hW 2 (by decide) q1183 rfl dX5_undo_27 ?_
      refine lv_iconst (v := 1) hx hb dX5_undo_30 (by decide) ?_
      refine lv_isub hx hb dX5_undo_31 ?_
      refine putX (k := 193) (q := (5, 0)) (ci := 5) (x := ((σ10 193 2) - 1)) inA5 tyX5_ok nmX5 rfl (by decide) rfl hx hb hta hown hE.1 hW hS sh_193 2 (by decide) q1183 rfl rfl rfl (Nat.le_of_ble_eq_true rfl) rfl dX5_undo_32 (fun H locs hW hS => ?_)
      obtain ⟨σ13, e14, hf⟩ := st_e hf
      rw [e14] at hW
      refine lv_aload_n hx hb dX5_undo_35 rfl (lv_at hl 0 rfl) ?_
      refine getM hx hb hta hown hE.1 hW 1 (by decide) q1182 rfl dX5_undo_36 ?_
      refine lv_sipush (v := 1785) hx hb dX5_undo_39 (by decide) ?_
      refine lv_aload_n hx hb dX5_undo_42 rfl (lv_at hl 0 rfl) ?_
      refine getM hx hb hta hown hE.1 hW 2 (by decide) q1183 rfl dX5_undo_43 ?_
      refine lv_imul hx hb dX5_undo_46 ?_
      refine lv_aload_n hx hb dX5_undo_47 rfl (lv_at hl 0 rfl) ?_
      refine getM hx hb hta hown hE.1 hW 0 (by decide) q1181 rfl dX5_undo_48 ?_
      refine lv_iconst (v := 0) hx hb dX5_undo_51 (by decide) ?_
      obtain ⟨σ17, u16, hf⟩ := b1_e hf
      refine mS (n := 4) (As := [.ref (b + 195), .int (1785 * (σ13 193 2)), .ref (b + 194), .int 0]) (rest := []) (c_X5_lays l D t b 195 7140 194 1785 σ13 (1785 * (σ13 193 2)) 0 σ17 sh_195 sh_194 u16) hx hb hml hown hts hE hW hS q1260 q1261 q96 q1262 hs_X5_lays ⟨rfl, rfl⟩ ⟨Nat.le_of_ble_eq_true rfl, Nat.le_of_ble_eq_true rfl⟩ rfl rfl hl.1 (Nat.le_of_ble_eq_true rfl) ⟨Nat.zero_le _, Nat.zero_le _⟩ dX5_undo_52 (fun H locs hW hS => ?_)
      refine lv_aload_n hx hb dX5_undo_55 rfl (lv_at hl 0 rfl) ?_
      refine getM hx hb hta hown hE.1 hW 2 (by decide) q1183 rfl dX5_undo_56 ?_
      cases hf
      exact W.iret hx hb hr (fun u hu _ => ⟨⟨rfl, by rw [hu]; exact hW⟩, hS.F hu⟩) hS.2.2 dX5_undo_59
    · have hf := ifn h12 hf
      refine lv_iconst (v := 0) hx hb dX5_undo_23 (by decide) ?_
      cases hf
      exact W.iret hx hb hr (fun u hu _ => ⟨⟨rfl, by rw [hu]; exact hW⟩, hS.F hu⟩) hS.2.2 dX5_undo_24
  · have hf := ifp h1 hf
    refine lv_iconst (v := 1) hx hb dX5_undo_8 (by decide) ?_
    refine lv_goto (tgt := 13) hx hb dX5_undo_9 (by decide) ?_
    refine putX (k := 193) (q := (5, 0)) (ci := 5) (x := 1) inA5 tyX5_ok nmX5 rfl (by decide) rfl hx hb hta hown hE.1 hW hS sh_193 10 (by decide) q1191 rfl rfl rfl (Nat.le_of_ble_eq_true rfl) rfl dX5_undo_13 (fun H locs hW hS => ?_)
    obtain ⟨σ2, e3, hf⟩ := st_e hf
    rw [e3] at hW
    refine lv_aload_n hx hb dX5_undo_16 rfl (lv_at hl 0 rfl) ?_
    refine getM hx hb hta hown hE.1 hW 10 (by decide) q1191 rfl dX5_undo_17 ?_
    refine lv_if_le (tgt := 25) hx hb dX5_undo_20 (by decide) (fun h4 => ?_) (fun h4 => ?_)
    · have hf := ifp h4 hf
      refine lv_aload_n hx hb dX5_undo_25 rfl (lv_at hl 0 rfl) ?_
      refine lv_dup hx hb dX5_undo_26 rfl ?_
      refine getM hx hb hta hown hE.1 hW 2 (by decide) q1183 rfl dX5_undo_27 ?_
      refine lv_iconst (v := 1) hx hb dX5_undo_30 (by decide) ?_
      refine lv_isub hx hb dX5_undo_31 ?_
      refine putX (k := 193) (q := (5, 0)) (ci := 5) (x := ((σ2 193 2) - 1)) inA5 tyX5_ok nmX5 rfl (by decide) rfl hx hb hta hown hE.1 hW hS sh_193 2 (by decide) q1183 rfl rfl rfl (Nat.le_of_ble_eq_true rfl) rfl dX5_undo_32 (fun H locs hW hS => ?_)
      obtain ⟨σ5, e6, hf⟩ := st_e hf
      rw [e6] at hW
      refine lv_aload_n hx hb dX5_undo_35 rfl (lv_at hl 0 rfl) ?_
      refine getM hx hb hta hown hE.1 hW 1 (by decide) q1182 rfl dX5_undo_36 ?_
      refine lv_sipush (v := 1785) hx hb dX5_undo_39 (by decide) ?_
      refine lv_aload_n hx hb dX5_undo_42 rfl (lv_at hl 0 rfl) ?_
      refine getM hx hb hta hown hE.1 hW 2 (by decide) q1183 rfl dX5_undo_43 ?_
      refine lv_imul hx hb dX5_undo_46 ?_
      refine lv_aload_n hx hb dX5_undo_47 rfl (lv_at hl 0 rfl) ?_
      refine getM hx hb hta hown hE.1 hW 0 (by decide) q1181 rfl dX5_undo_48 ?_
      refine lv_iconst (v := 0) hx hb dX5_undo_51 (by decide) ?_
      obtain ⟨σ9, u8, hf⟩ := b1_e hf
      refine mS (n := 4) (As := [.ref (b + 195), .int (1785 * (σ5 193 2)), .ref (b + 194), .int 0]) (rest := []) (c_X5_lays l D t b 195 7140 194 1785 σ5 (1785 * (σ5 193 2)) 0 σ9 sh_195 sh_194 u8) hx hb hml hown hts hE hW hS q1260 q1261 q96 q1262 hs_X5_lays ⟨rfl, rfl⟩ ⟨Nat.le_of_ble_eq_true rfl, Nat.le_of_ble_eq_true rfl⟩ rfl rfl hl.1 (Nat.le_of_ble_eq_true rfl) ⟨Nat.zero_le _, Nat.zero_le _⟩ dX5_undo_52 (fun H locs hW hS => ?_)
      refine lv_aload_n hx hb dX5_undo_55 rfl (lv_at hl 0 rfl) ?_
      refine getM hx hb hta hown hE.1 hW 2 (by decide) q1183 rfl dX5_undo_56 ?_
      cases hf
      exact W.iret hx hb hr (fun u hu _ => ⟨⟨rfl, by rw [hu]; exact hW⟩, hS.F hu⟩) hS.2.2 dX5_undo_59
    · have hf := ifn h4 hf
      refine lv_iconst (v := 0) hx hb dX5_undo_23 (by decide) ?_
      cases hf
      exact W.iret hx hb hr (fun u hu _ => ⟨⟨rfl, by rw [hu]; exact hW⟩, hS.F hu⟩) hS.2.2 dX5_undo_24
def f_X5_takeSnapshot (σ : Sg) : Option (Int32 × Sg) := st (u2 σ 193 10 0) fun σ1 => b1 (f_X5_lays 194 1785 196 1785 σ1 0 0) fun σ5 => st (u2 σ5 193 4 1) fun σ6 => some ((σ6 194 (0 : Int32).toNatClampNeg), σ6)
set_option maxHeartbeats 4000000 in
set_option maxRecDepth 100000 in
theorem c_X5_takeSnapshot (l : Launch) (D : va_G) (t : Nat → ClassId) (b : Nat) (σ : Sg) (r : Int32) (σr : Sg) (hf : f_X5_takeSnapshot σ = some (r, σr)) : Met l yX5_takeSnapshot (Cond.code yX5_takeSnapshot cX5_takeSnapshot 1 (some .int) :: ALL) ({ frames := 1, cells := 0, slots := 0, locals := 24 }) (PM D t b σ [.ref (b + 193)]) (QG D t b σr (some (.int r))) 0 0 (geA b) := by
  refine Met.ofW (cc := cX5_takeSnapshot) (maxL := 1) (ret := (some .int)) (by decide) rfl ?_
  intro p e s m args below meth c s₁ B hml hv
  obtain ⟨rfl, hW, hE⟩ := hv
  have hx := B.exec
  have hb := B.bytes
  have hr := B.returns
  have hts := atoms_spec (ws := Cond.code yX5_takeSnapshot cX5_takeSnapshot 1 (some .int) :: ALL) B.pre
  have hta := fun w h => hts w (List.mem_cons_of_mem _ h)
  have hown : s.vm.findClass RX5 = some m.cls := findClass_of_methodNamed B.named
  have hlocks := B.notSynchronized
  have hS : va_S (geA b) s.heap s.heap [] := va_S.rf
  have hl := lv_entry ([.ref (b + 193)]) (n := 1) (Nat.le_of_ble_eq_true rfl)
  rw [lg_entry_eq]
  generalize (lg_sl ([.ref (b + 193)]) ++ List.replicate (1 - (lg_sl ([.ref (b + 193)])).length) Slot.unset).toArray = ls at hl ⊢
  have hl : lv_has ls 1 [(0, .ref (b + 193))] := hl
  unfold f_X5_takeSnapshot at hf
  refine lv_aload_n hx hb dX5_takeSnapshot_0 rfl (lv_at hl 0 rfl) ?_
  refine lv_iconst (v := 0) hx hb dX5_takeSnapshot_1 (by decide) ?_
  refine putX (k := 193) (q := (5, 0)) (ci := 5) (x := 0) inA5 tyX5_ok nmX5 rfl (by decide) rfl hx hb hta hown hE.1 hW hS sh_193 10 (by decide) q1191 rfl rfl rfl (Nat.le_of_ble_eq_true rfl) rfl dX5_takeSnapshot_2 (fun H locs hW hS => ?_)
  obtain ⟨σ1, e2, hf⟩ := st_e hf
  rw [e2] at hW
  refine lv_aload_n hx hb dX5_takeSnapshot_5 rfl (lv_at hl 0 rfl) ?_
  refine getM hx hb hta hown hE.1 hW 0 (by decide) q1181 rfl dX5_takeSnapshot_6 ?_
  refine lv_iconst (v := 0) hx hb dX5_takeSnapshot_9 (by decide) ?_
  refine lv_aload_n hx hb dX5_takeSnapshot_10 rfl (lv_at hl 0 rfl) ?_
  refine getM hx hb hta hown hE.1 hW 3 (by decide) q1184 rfl dX5_takeSnapshot_11 ?_
  refine lv_iconst (v := 0) hx hb dX5_takeSnapshot_14 (by decide) ?_
  obtain ⟨σ5, u4, hf⟩ := b1_e hf
  refine mS (n := 4) (As := [.ref (b + 194), .int 0, .ref (b + 196), .int 0]) (rest := []) (c_X5_lays l D t b 194 1785 196 1785 σ1 0 0 σ5 sh_194 sh_196 u4) hx hb hml hown hts hE hW hS q1260 q1261 q96 q1262 hs_X5_lays ⟨rfl, rfl⟩ ⟨Nat.le_of_ble_eq_true rfl, Nat.le_of_ble_eq_true rfl⟩ rfl rfl hl.1 (Nat.le_of_ble_eq_true rfl) ⟨Nat.zero_le _, Nat.zero_le _⟩ dX5_takeSnapshot_15 (fun H locs hW hS => ?_)
  refine lv_aload_n hx hb dX5_takeSnapshot_18 rfl (lv_at hl 0 rfl) ?_
  refine lv_iconst (v := 1) hx hb dX5_takeSnapshot_19 (by decide) ?_
  refine putX (k := 193) (q := (5, 0)) (ci := 5) (x := 1) inA5 tyX5_ok nmX5 rfl (by decide) rfl hx hb hta hown hE.1 hW hS sh_193 4 (by decide) q1185 rfl rfl rfl (Nat.le_of_ble_eq_true rfl) rfl dX5_takeSnapshot_20 (fun H locs hW hS => ?_)
  obtain ⟨σ6, e7, hf⟩ := st_e hf
  rw [e7] at hW
  refine lv_aload_n hx hb dX5_takeSnapshot_23 rfl (lv_at hl 0 rfl) ?_
  refine getM hx hb hta hown hE.1 hW 0 (by decide) q1181 rfl dX5_takeSnapshot_24 ?_
  refine lv_iconst (v := 0) hx hb dX5_takeSnapshot_27 (by decide) ?_
  refine iald hx hb hE.1 hW sh_194 (vp_lit (by decide +kernel)) dX5_takeSnapshot_28 ?_
  cases hf
  exact W.iret hx hb hr (fun u hu _ => ⟨⟨rfl, by rw [hu]; exact hW⟩, hS.F hu⟩) hS.2.2 dX5_takeSnapshot_29
def f_X5_restoreSnapshot (σ : Sg) : Option (Int32 × Sg) := if (σ 193 4) = 0 then (st (u2 σ 193 10 1) fun σ2 => if (σ2 193 10) ≤ 0 then (b1 (f_X5_saves 194 1785 σ2) fun σ7 => b1 (f_X5_lays 196 1785 194 1785 σ7 0 0) fun σ10 => some ((σ10 194 (0 : Int32).toNatClampNeg), σ10)) else (some (0, σ2))) else (st (u2 σ 193 10 0) fun σ11 => if (σ11 193 10) ≤ 0 then (b1 (f_X5_saves 194 1785 σ11) fun σ16 => b1 (f_X5_lays 196 1785 194 1785 σ16 0 0) fun σ19 => some ((σ19 194 (0 : Int32).toNatClampNeg), σ19)) else (some (0, σ11)))
set_option maxHeartbeats 4000000 in
set_option maxRecDepth 100000 in
theorem c_X5_restoreSnapshot (l : Launch) (D : va_G) (t : Nat → ClassId) (b : Nat) (σ : Sg) (r : Int32) (σr : Sg) (hf : f_X5_restoreSnapshot σ = some (r, σr)) : Met l yX5_restoreSnapshot (Cond.code yX5_restoreSnapshot cX5_restoreSnapshot 1 (some .int) :: ALL) ({ frames := 2, cells := 0, slots := 0, locals := 46 }) (PM D t b σ [.ref (b + 193)]) (QG D t b σr (some (.int r))) 0 0 (geA b) := by
  refine Met.ofW (cc := cX5_restoreSnapshot) (maxL := 1) (ret := (some .int)) (by decide) rfl ?_
  intro p e s m args below meth c s₁ B hml hv
  obtain ⟨rfl, hW, hE⟩ := hv
  have hx := B.exec
  have hb := B.bytes
  have hr := B.returns
  have hts := atoms_spec (ws := Cond.code yX5_restoreSnapshot cX5_restoreSnapshot 1 (some .int) :: ALL) B.pre
  have hta := fun w h => hts w (List.mem_cons_of_mem _ h)
  have hown : s.vm.findClass RX5 = some m.cls := findClass_of_methodNamed B.named
  have hlocks := B.notSynchronized
  have hS : va_S (geA b) s.heap s.heap [] := va_S.rf
  have hl := lv_entry ([.ref (b + 193)]) (n := 1) (Nat.le_of_ble_eq_true rfl)
  rw [lg_entry_eq]
  generalize (lg_sl ([.ref (b + 193)]) ++ List.replicate (1 - (lg_sl ([.ref (b + 193)])).length) Slot.unset).toArray = ls at hl ⊢
  have hl : lv_has ls 1 [(0, .ref (b + 193))] := hl
  unfold f_X5_restoreSnapshot at hf
  refine lv_aload_n hx hb dX5_restoreSnapshot_0 rfl (lv_at hl 0 rfl) ?_
  refine lv_aload_n hx hb dX5_restoreSnapshot_1 rfl (lv_at hl 0 rfl) ?_
  refine getM hx hb hta hown hE.1 hW 4 (by decide) q1185 rfl dX5_restoreSnapshot_2 ?_
  refine lv_if_ne (tgt := 12) hx hb dX5_restoreSnapshot_5 (by decide) (fun h1 => ?_) (fun h1 => ?_)
  · have hf := ifn h1 hf
    refine lv_iconst (v := 0) hx hb dX5_restoreSnapshot_12 (by decide) ?_
    refine putX (k := 193) (q := (5, 0)) (ci := 5) (x := 0) inA5 tyX5_ok nmX5 rfl (by decide) rfl hx hb hta hown hE.1 hW hS sh_193 10 (by decide) q1191 rfl rfl rfl (Nat.le_of_ble_eq_true rfl) rfl dX5_restoreSnapshot_13 (fun H locs hW hS => ?_)
    obtain ⟨σ11, e12, hf⟩ := st_e hf
    rw [e12] at hW
    refine lv_aload_n hx hb dX5_restoreSnapshot_16 rfl (lv_at hl 0 rfl) ?_
    refine getM hx hb hta hown hE.1 hW 10 (by decide) q1191 rfl dX5_restoreSnapshot_17 ?_
    refine lv_if_le (tgt := 25) hx hb dX5_restoreSnapshot_20 (by decide) (fun h13 => ?_) (fun h13 => ?_)
    · have hf := ifp h13 hf
      refine lv_aload_n hx hb dX5_restoreSnapshot_25 rfl (lv_at hl 0 rfl) ?_
      refine lv_aload_n hx hb dX5_restoreSnapshot_26 rfl (lv_at hl 0 rfl) ?_
      refine getM hx hb hta hown hE.1 hW 0 (by decide) q1181 rfl dX5_restoreSnapshot_27 ?_
      obtain ⟨σ16, u15, hf⟩ := b1_e hf
      refine mV (k := 193) (q := (5, 0)) (C := RX5) (T := TX5) (N := 14) (ci := 5) (n := 1) (As := [.ref (b + 194)]) (rest := []) (c_X5_saves l D t b 194 1785 σ11 σ16 sh_194 u15) sh_193 (by decide) rfl rfl hx hb hml hown hts hE hW hS q1256 q1258 q36 q96 q1259 hy_X5_saves ⟨rfl, rfl⟩ ⟨Nat.le_of_ble_eq_true rfl, Nat.le_of_ble_eq_true rfl⟩ rfl rfl hl.1 (Nat.le_of_ble_eq_true rfl) ⟨Nat.zero_le _, Nat.zero_le _⟩ dX5_restoreSnapshot_30 (fun H locs hW hS => ?_)
      refine lv_aload_n hx hb dX5_restoreSnapshot_33 rfl (lv_at hl 0 rfl) ?_
      refine getM hx hb hta hown hE.1 hW 3 (by decide) q1184 rfl dX5_restoreSnapshot_34 ?_
      refine lv_iconst (v := 0) hx hb dX5_restoreSnapshot_37 (by decide) ?_
      refine lv_aload_n hx hb dX5_restoreSnapshot_38 rfl (lv_at hl 0 rfl) ?_
      refine getM hx hb hta hown hE.1 hW 0 (by decide) q1181 rfl dX5_restoreSnapshot_39 ?_
      refine lv_iconst (v := 0) hx hb dX5_restoreSnapshot_42 (by decide) ?_
      obtain ⟨σ19, u18, hf⟩ := b1_e hf
      refine mS (n := 4) (As := [.ref (b + 196), .int 0, .ref (b + 194), .int 0]) (rest := []) (c_X5_lays l D t b 196 1785 194 1785 σ16 0 0 σ19 sh_196 sh_194 u18) hx hb hml hown hts hE hW hS q1260 q1261 q96 q1262 hs_X5_lays ⟨rfl, rfl⟩ ⟨Nat.le_of_ble_eq_true rfl, Nat.le_of_ble_eq_true rfl⟩ rfl rfl hl.1 (Nat.le_of_ble_eq_true rfl) ⟨Nat.zero_le _, Nat.zero_le _⟩ dX5_restoreSnapshot_43 (fun H locs hW hS => ?_)
      refine lv_aload_n hx hb dX5_restoreSnapshot_46 rfl (lv_at hl 0 rfl) ?_
      refine getM hx hb hta hown hE.1 hW 0 (by decide) q1181 rfl dX5_restoreSnapshot_47 ?_
      refine lv_iconst (v := 0) hx hb dX5_restoreSnapshot_50 (by decide) ?_
      refine iald hx hb hE.1 hW sh_194 (vp_lit (by decide +kernel)) dX5_restoreSnapshot_51 ?_
      cases hf
      exact W.iret hx hb hr (fun u hu _ => ⟨⟨rfl, by rw [hu]; exact hW⟩, hS.F hu⟩) hS.2.2 dX5_restoreSnapshot_52
    · have hf := ifn h13 hf
      refine lv_iconst (v := 0) hx hb dX5_restoreSnapshot_23 (by decide) ?_
      cases hf
      exact W.iret hx hb hr (fun u hu _ => ⟨⟨rfl, by rw [hu]; exact hW⟩, hS.F hu⟩) hS.2.2 dX5_restoreSnapshot_24
  · have hf := ifp h1 hf
    refine lv_iconst (v := 1) hx hb dX5_restoreSnapshot_8 (by decide) ?_
    refine lv_goto (tgt := 13) hx hb dX5_restoreSnapshot_9 (by decide) ?_
    refine putX (k := 193) (q := (5, 0)) (ci := 5) (x := 1) inA5 tyX5_ok nmX5 rfl (by decide) rfl hx hb hta hown hE.1 hW hS sh_193 10 (by decide) q1191 rfl rfl rfl (Nat.le_of_ble_eq_true rfl) rfl dX5_restoreSnapshot_13 (fun H locs hW hS => ?_)
    obtain ⟨σ2, e3, hf⟩ := st_e hf
    rw [e3] at hW
    refine lv_aload_n hx hb dX5_restoreSnapshot_16 rfl (lv_at hl 0 rfl) ?_
    refine getM hx hb hta hown hE.1 hW 10 (by decide) q1191 rfl dX5_restoreSnapshot_17 ?_
    refine lv_if_le (tgt := 25) hx hb dX5_restoreSnapshot_20 (by decide) (fun h4 => ?_) (fun h4 => ?_)
    · have hf := ifp h4 hf
      refine lv_aload_n hx hb dX5_restoreSnapshot_25 rfl (lv_at hl 0 rfl) ?_
      refine lv_aload_n hx hb dX5_restoreSnapshot_26 rfl (lv_at hl 0 rfl) ?_
      refine getM hx hb hta hown hE.1 hW 0 (by decide) q1181 rfl dX5_restoreSnapshot_27 ?_
      obtain ⟨σ7, u6, hf⟩ := b1_e hf
      refine mV (k := 193) (q := (5, 0)) (C := RX5) (T := TX5) (N := 14) (ci := 5) (n := 1) (As := [.ref (b + 194)]) (rest := []) (c_X5_saves l D t b 194 1785 σ2 σ7 sh_194 u6) sh_193 (by decide) rfl rfl hx hb hml hown hts hE hW hS q1256 q1258 q36 q96 q1259 hy_X5_saves ⟨rfl, rfl⟩ ⟨Nat.le_of_ble_eq_true rfl, Nat.le_of_ble_eq_true rfl⟩ rfl rfl hl.1 (Nat.le_of_ble_eq_true rfl) ⟨Nat.zero_le _, Nat.zero_le _⟩ dX5_restoreSnapshot_30 (fun H locs hW hS => ?_)
      refine lv_aload_n hx hb dX5_restoreSnapshot_33 rfl (lv_at hl 0 rfl) ?_
      refine getM hx hb hta hown hE.1 hW 3 (by decide) q1184 rfl dX5_restoreSnapshot_34 ?_
      refine lv_iconst (v := 0) hx hb dX5_restoreSnapshot_37 (by decide) ?_
      refine lv_aload_n hx hb dX5_restoreSnapshot_38 rfl (lv_at hl 0 rfl) ?_
      refine getM hx hb hta hown hE.1 hW 0 (by decide) q1181 rfl dX5_restoreSnapshot_39 ?_
      refine lv_iconst (v := 0) hx hb dX5_restoreSnapshot_42 (by decide) ?_
      obtain ⟨σ10, u9, hf⟩ := b1_e hf
      refine mS (n := 4) (As := [.ref (b + 196), .int 0, .ref (b + 194), .int 0]) (rest := []) (c_X5_lays l D t b 196 1785 194 1785 σ7 0 0 σ10 sh_196 sh_194 u9) hx hb hml hown hts hE hW hS q1260 q1261 q96 q1262 hs_X5_lays ⟨rfl, rfl⟩ ⟨Nat.le_of_ble_eq_true rfl, Nat.le_of_ble_eq_true rfl⟩ rfl rfl hl.1 (Nat.le_of_ble_eq_true rfl) ⟨Nat.zero_le _, Nat.zero_le _⟩ dX5_restoreSnapshot_43 (fun H locs hW hS => ?_)
      refine lv_aload_n hx hb dX5_restoreSnapshot_46 rfl (lv_at hl 0 rfl) ?_
      refine getM hx hb hta hown hE.1 hW 0 (by decide) q1181 rfl dX5_restoreSnapshot_47 ?_
      refine lv_iconst (v := 0) hx hb dX5_restoreSnapshot_50 (by decide) ?_
      refine iald hx hb hE.1 hW sh_194 (vp_lit (by decide +kernel)) dX5_restoreSnapshot_51 ?_
      cases hf
      exact W.iret hx hb hr (fun u hu _ => ⟨⟨rfl, by rw [hu]; exact hW⟩, hS.F hu⟩) hS.2.2 dX5_restoreSnapshot_52
    · have hf := ifn h4 hf
      refine lv_iconst (v := 0) hx hb dX5_restoreSnapshot_23 (by decide) ?_
      cases hf
      exact W.iret hx hb hr (fun u hu _ => ⟨⟨rfl, by rw [hu]; exact hW⟩, hS.F hu⟩) hS.2.2 dX5_restoreSnapshot_24
def f_X5_count (σ : Sg) (p1 : Int32) : Option (Int32 × Sg) := st (u2 σ 193 10 0) fun σ1 => gd p1 1785 (some ((σ1 194 (p1).toNatClampNeg), σ1))
set_option maxHeartbeats 4000000 in
set_option maxRecDepth 100000 in
theorem c_X5_count (l : Launch) (D : va_G) (t : Nat → ClassId) (b : Nat) (σ : Sg) (p1 : Int32) (r : Int32) (σr : Sg) (hf : f_X5_count σ p1 = some (r, σr)) : Met l yX5_count (Cond.code yX5_count cX5_count 2 (some .int) :: ALL) ({ frames := 0, cells := 0, slots := 0, locals := 0 }) (PM D t b σ [.ref (b + 193), .int p1]) (QG D t b σr (some (.int r))) 0 0 (geA b) := by
  refine Met.ofW (cc := cX5_count) (maxL := 2) (ret := (some .int)) (by decide) rfl ?_
  intro p e s m args below meth c s₁ B hml hv
  obtain ⟨rfl, hW, hE⟩ := hv
  have hx := B.exec
  have hb := B.bytes
  have hr := B.returns
  have hts := atoms_spec (ws := Cond.code yX5_count cX5_count 2 (some .int) :: ALL) B.pre
  have hta := fun w h => hts w (List.mem_cons_of_mem _ h)
  have hown : s.vm.findClass RX5 = some m.cls := findClass_of_methodNamed B.named
  have hlocks := B.notSynchronized
  have hS : va_S (geA b) s.heap s.heap [] := va_S.rf
  have hl := lv_entry ([.ref (b + 193), .int p1]) (n := 2) (Nat.le_of_ble_eq_true rfl)
  rw [lg_entry_eq]
  generalize (lg_sl ([.ref (b + 193), .int p1]) ++ List.replicate (2 - (lg_sl ([.ref (b + 193), .int p1])).length) Slot.unset).toArray = ls at hl ⊢
  have hl : lv_has ls 2 [(0, .ref (b + 193)), (1, .int p1)] := hl
  unfold f_X5_count at hf
  refine lv_aload_n hx hb dX5_count_0 rfl (lv_at hl 0 rfl) ?_
  refine lv_iconst (v := 0) hx hb dX5_count_1 (by decide) ?_
  refine putX (k := 193) (q := (5, 0)) (ci := 5) (x := 0) inA5 tyX5_ok nmX5 rfl (by decide) rfl hx hb hta hown hE.1 hW hS sh_193 10 (by decide) q1191 rfl rfl rfl (Nat.le_of_ble_eq_true rfl) rfl dX5_count_2 (fun H locs hW hS => ?_)
  obtain ⟨σ1, e2, hf⟩ := st_e hf
  rw [e2] at hW
  refine lv_aload_n hx hb dX5_count_5 rfl (lv_at hl 0 rfl) ?_
  refine getM hx hb hta hown hE.1 hW 0 (by decide) q1181 rfl dX5_count_6 ?_
  refine lv_iload_n hx hb dX5_count_9 rfl (lv_at hl 1 rfl) ?_
  obtain ⟨g3, hf⟩ := gd_e hf
  refine iald hx hb hE.1 hW sh_194 g3 dX5_count_10 ?_
  cases hf
  exact W.iret hx hb hr (fun u hu _ => ⟨⟨rfl, by rw [hu]; exact hW⟩, hS.F hu⟩) hS.2.2 dX5_count_11
def f_X5_stalls (σ : Sg) : Option (Int32 × Sg) := b2 (f_X5_count σ 8) fun y1 σ3 => some (y1, σ3)
set_option maxHeartbeats 4000000 in
set_option maxRecDepth 100000 in
theorem c_X5_stalls (l : Launch) (D : va_G) (t : Nat → ClassId) (b : Nat) (σ : Sg) (r : Int32) (σr : Sg) (hf : f_X5_stalls σ = some (r, σr)) : Met l yX5_stalls (Cond.code yX5_stalls cX5_stalls 1 (some .int) :: ALL) ({ frames := 1, cells := 0, slots := 0, locals := 21 }) (PM D t b σ [.ref (b + 193)]) (QG D t b σr (some (.int r))) 0 0 (geA b) := by
  refine Met.ofW (cc := cX5_stalls) (maxL := 1) (ret := (some .int)) (by decide) rfl ?_
  intro p e s m args below meth c s₁ B hml hv
  obtain ⟨rfl, hW, hE⟩ := hv
  have hx := B.exec
  have hb := B.bytes
  have hr := B.returns
  have hts := atoms_spec (ws := Cond.code yX5_stalls cX5_stalls 1 (some .int) :: ALL) B.pre
  have hta := fun w h => hts w (List.mem_cons_of_mem _ h)
  have hown : s.vm.findClass RX5 = some m.cls := findClass_of_methodNamed B.named
  have hlocks := B.notSynchronized
  have hS : va_S (geA b) s.heap s.heap [] := va_S.rf
  have hl := lv_entry ([.ref (b + 193)]) (n := 1) (Nat.le_of_ble_eq_true rfl)
  rw [lg_entry_eq]
  generalize (lg_sl ([.ref (b + 193)]) ++ List.replicate (1 - (lg_sl ([.ref (b + 193)])).length) Slot.unset).toArray = ls at hl ⊢
  have hl : lv_has ls 1 [(0, .ref (b + 193))] := hl
  unfold f_X5_stalls at hf
  refine lv_aload_n hx hb dX5_stalls_0 rfl (lv_at hl 0 rfl) ?_
  refine lv_bipush (v := 8) hx hb dX5_stalls_1 (by decide) ?_
  obtain ⟨y1, σ3, u2, hf⟩ := b2_e hf
  refine mV (k := 193) (q := (5, 0)) (C := RX5) (T := TX5) (N := 14) (ci := 5) (n := 1) (As := [.int 8]) (rest := []) (c_X5_count l D t b σ 8 y1 σ3 u2) sh_193 (by decide) rfl rfl hx hb hml hown hts hE hW hS q1536 q1538 q82 q96 q1539 hy_X5_count ⟨rfl, rfl⟩ ⟨Nat.le_of_ble_eq_true rfl, Nat.le_of_ble_eq_true rfl⟩ rfl rfl hl.1 (Nat.le_of_ble_eq_true rfl) ⟨Nat.zero_le _, Nat.zero_le _⟩ dX5_stalls_3 (fun H locs hW hS => ?_)
  cases hf
  exact W.iret hx hb hr (fun u hu _ => ⟨⟨rfl, by rw [hu]; exact hW⟩, hS.F hu⟩) hS.2.2 dX5_stalls_6
def f_X5_tells (σ : Sg) (p1 : Int32) (p2 : Int32) : Option (Int32 × Sg) := b1 (f_X5_isStall σ p1) fun y1 => if y1 = 0 then (st (u2 σ 193 10 1) fun σ4 => if (σ4 193 10) ≤ 0 then (b1 (f_X5_its σ4 p1 p2) fun y7 => some (y7, σ4)) else (some (0, σ4))) else (st (u2 σ 193 10 0) fun σ9 => if (σ9 193 10) ≤ 0 then (b1 (f_X5_its σ9 p1 p2) fun y12 => some (y12, σ9)) else (some (0, σ9)))
set_option maxHeartbeats 4000000 in
set_option maxRecDepth 100000 in
theorem c_X5_tells (l : Launch) (D : va_G) (t : Nat → ClassId) (b : Nat) (σ : Sg) (p1 : Int32) (p2 : Int32) (r : Int32) (σr : Sg) (hf : f_X5_tells σ p1 p2 = some (r, σr)) : Met l yX5_tells (Cond.code yX5_tells cX5_tells 3 (some .int) :: ALL) ({ frames := 2, cells := 0, slots := 0, locals := 43 }) (PM D t b σ [.ref (b + 193), .int p1, .int p2]) (QG D t b σr (some (.int r))) 0 0 (geA b) := by
  refine Met.ofW (cc := cX5_tells) (maxL := 3) (ret := (some .int)) (by decide) rfl ?_
  intro p e s m args below meth c s₁ B hml hv
  obtain ⟨rfl, hW, hE⟩ := hv
  have hx := B.exec
  have hb := B.bytes
  have hr := B.returns
  have hts := atoms_spec (ws := Cond.code yX5_tells cX5_tells 3 (some .int) :: ALL) B.pre
  have hta := fun w h => hts w (List.mem_cons_of_mem _ h)
  have hown : s.vm.findClass RX5 = some m.cls := findClass_of_methodNamed B.named
  have hlocks := B.notSynchronized
  have hS : va_S (geA b) s.heap s.heap [] := va_S.rf
  have hl := lv_entry ([.ref (b + 193), .int p1, .int p2]) (n := 3) (Nat.le_of_ble_eq_true rfl)
  rw [lg_entry_eq]
  generalize (lg_sl ([.ref (b + 193), .int p1, .int p2]) ++ List.replicate (3 - (lg_sl ([.ref (b + 193), .int p1, .int p2])).length) Slot.unset).toArray = ls at hl ⊢
  have hl : lv_has ls 3 [(0, .ref (b + 193)), (1, .int p1), (2, .int p2)] := hl
  unfold f_X5_tells at hf
  refine lv_aload_n hx hb dX5_tells_0 rfl (lv_at hl 0 rfl) ?_
  refine lv_aload_n hx hb dX5_tells_1 rfl (lv_at hl 0 rfl) ?_
  refine lv_iload_n hx hb dX5_tells_2 rfl (lv_at hl 1 rfl) ?_
  obtain ⟨y1, u2, hf⟩ := b1_e hf
  refine mV (k := 193) (q := (5, 0)) (C := RX5) (T := TX5) (N := 14) (ci := 5) (n := 1) (As := [.int p1]) (rest := [.ref (b + 193)]) (c_X5_isStall l D t b σ p1 y1 u2) sh_193 (by decide) rfl rfl hx hb hml hown hts hE hW hS q1279 q1281 q40 q96 q1282 hy_X5_isStall ⟨rfl, rfl⟩ ⟨Nat.le_of_ble_eq_true rfl, Nat.le_of_ble_eq_true rfl⟩ rfl rfl hl.1 (Nat.le_of_ble_eq_true rfl) ⟨Nat.zero_le _, Nat.zero_le _⟩ dX5_tells_3 (fun H locs hW hS => ?_)
  refine lv_if_eq (tgt := 13) hx hb dX5_tells_6 (by decide) (fun h3 => ?_) (fun h3 => ?_)
  · have hf := ifp h3 hf
    refine lv_iconst (v := 1) hx hb dX5_tells_13 (by decide) ?_
    refine putX (k := 193) (q := (5, 0)) (ci := 5) (x := 1) inA5 tyX5_ok nmX5 rfl (by decide) rfl hx hb hta hown hE.1 hW hS sh_193 10 (by decide) q1191 rfl rfl rfl (Nat.le_of_ble_eq_true rfl) rfl dX5_tells_14 (fun H locs hW hS => ?_)
    obtain ⟨σ4, e5, hf⟩ := st_e hf
    rw [e5] at hW
    refine lv_aload_n hx hb dX5_tells_17 rfl (lv_at hl 0 rfl) ?_
    refine getM hx hb hta hown hE.1 hW 10 (by decide) q1191 rfl dX5_tells_18 ?_
    refine lv_if_le (tgt := 28) hx hb dX5_tells_21 (by decide) (fun h6 => ?_) (fun h6 => ?_)
    · have hf := ifp h6 hf
      refine lv_aload_n hx hb dX5_tells_28 rfl (lv_at hl 0 rfl) ?_
      refine lv_iload_n hx hb dX5_tells_29 rfl (lv_at hl 1 rfl) ?_
      refine lv_iload_n hx hb dX5_tells_30 rfl (lv_at hl 2 rfl) ?_
      obtain ⟨y7, u8, hf⟩ := b1_e hf
      refine mV (k := 193) (q := (5, 0)) (C := RX5) (T := TX5) (N := 14) (ci := 5) (n := 2) (As := [.int p1, .int p2]) (rest := []) (c_X5_its l D t b σ4 p1 p2 y7 u8) sh_193 (by decide) rfl rfl hx hb hml hown hts hE hW hS q1252 q1254 q35 q96 q1255 hy_X5_its ⟨rfl, rfl⟩ ⟨Nat.le_of_ble_eq_true rfl, Nat.le_of_ble_eq_true rfl⟩ rfl rfl hl.1 (Nat.le_of_ble_eq_true rfl) ⟨Nat.zero_le _, Nat.zero_le _⟩ dX5_tells_31 (fun H locs hW hS => ?_)
      cases hf
      exact W.iret hx hb hr (fun u hu _ => ⟨⟨rfl, by rw [hu]; exact hW⟩, hS.F hu⟩) hS.2.2 dX5_tells_34
    · have hf := ifn h6 hf
      refine lv_iconst (v := 0) hx hb dX5_tells_24 (by decide) ?_
      refine lv_goto (tgt := 34) hx hb dX5_tells_25 (by decide) ?_
      cases hf
      exact W.iret hx hb hr (fun u hu _ => ⟨⟨rfl, by rw [hu]; exact hW⟩, hS.F hu⟩) hS.2.2 dX5_tells_34
  · have hf := ifn h3 hf
    refine lv_iconst (v := 0) hx hb dX5_tells_9 (by decide) ?_
    refine lv_goto (tgt := 14) hx hb dX5_tells_10 (by decide) ?_
    refine putX (k := 193) (q := (5, 0)) (ci := 5) (x := 0) inA5 tyX5_ok nmX5 rfl (by decide) rfl hx hb hta hown hE.1 hW hS sh_193 10 (by decide) q1191 rfl rfl rfl (Nat.le_of_ble_eq_true rfl) rfl dX5_tells_14 (fun H locs hW hS => ?_)
    obtain ⟨σ9, e10, hf⟩ := st_e hf
    rw [e10] at hW
    refine lv_aload_n hx hb dX5_tells_17 rfl (lv_at hl 0 rfl) ?_
    refine getM hx hb hta hown hE.1 hW 10 (by decide) q1191 rfl dX5_tells_18 ?_
    refine lv_if_le (tgt := 28) hx hb dX5_tells_21 (by decide) (fun h11 => ?_) (fun h11 => ?_)
    · have hf := ifp h11 hf
      refine lv_aload_n hx hb dX5_tells_28 rfl (lv_at hl 0 rfl) ?_
      refine lv_iload_n hx hb dX5_tells_29 rfl (lv_at hl 1 rfl) ?_
      refine lv_iload_n hx hb dX5_tells_30 rfl (lv_at hl 2 rfl) ?_
      obtain ⟨y12, u13, hf⟩ := b1_e hf
      refine mV (k := 193) (q := (5, 0)) (C := RX5) (T := TX5) (N := 14) (ci := 5) (n := 2) (As := [.int p1, .int p2]) (rest := []) (c_X5_its l D t b σ9 p1 p2 y12 u13) sh_193 (by decide) rfl rfl hx hb hml hown hts hE hW hS q1252 q1254 q35 q96 q1255 hy_X5_its ⟨rfl, rfl⟩ ⟨Nat.le_of_ble_eq_true rfl, Nat.le_of_ble_eq_true rfl⟩ rfl rfl hl.1 (Nat.le_of_ble_eq_true rfl) ⟨Nat.zero_le _, Nat.zero_le _⟩ dX5_tells_31 (fun H locs hW hS => ?_)
      cases hf
      exact W.iret hx hb hr (fun u hu _ => ⟨⟨rfl, by rw [hu]; exact hW⟩, hS.F hu⟩) hS.2.2 dX5_tells_34
    · have hf := ifn h11 hf
      refine lv_iconst (v := 0) hx hb dX5_tells_24 (by decide) ?_
      refine lv_goto (tgt := 34) hx hb dX5_tells_25 (by decide) ?_
      cases hf
      exact W.iret hx hb hr (fun u hu _ => ⟨⟨rfl, by rw [hu]; exact hW⟩, hS.F hu⟩) hS.2.2 dX5_tells_34
def f_X5_pitchOf (σ : Sg) (p1 : Int32) : Option (Int32 × Sg) := b2 (f_X5_tells σ p1 0) fun y1 σ3 => some (y1, σ3)
set_option maxHeartbeats 4000000 in
set_option maxRecDepth 100000 in
theorem c_X5_pitchOf (l : Launch) (D : va_G) (t : Nat → ClassId) (b : Nat) (σ : Sg) (p1 : Int32) (r : Int32) (σr : Sg) (hf : f_X5_pitchOf σ p1 = some (r, σr)) : Met l yX5_pitchOf (Cond.code yX5_pitchOf cX5_pitchOf 2 (some .int) :: ALL) ({ frames := 3, cells := 0, slots := 0, locals := 65 }) (PM D t b σ [.ref (b + 193), .int p1]) (QG D t b σr (some (.int r))) 0 0 (geA b) := by
  refine Met.ofW (cc := cX5_pitchOf) (maxL := 2) (ret := (some .int)) (by decide) rfl ?_
  intro p e s m args below meth c s₁ B hml hv
  obtain ⟨rfl, hW, hE⟩ := hv
  have hx := B.exec
  have hb := B.bytes
  have hr := B.returns
  have hts := atoms_spec (ws := Cond.code yX5_pitchOf cX5_pitchOf 2 (some .int) :: ALL) B.pre
  have hta := fun w h => hts w (List.mem_cons_of_mem _ h)
  have hown : s.vm.findClass RX5 = some m.cls := findClass_of_methodNamed B.named
  have hlocks := B.notSynchronized
  have hS : va_S (geA b) s.heap s.heap [] := va_S.rf
  have hl := lv_entry ([.ref (b + 193), .int p1]) (n := 2) (Nat.le_of_ble_eq_true rfl)
  rw [lg_entry_eq]
  generalize (lg_sl ([.ref (b + 193), .int p1]) ++ List.replicate (2 - (lg_sl ([.ref (b + 193), .int p1])).length) Slot.unset).toArray = ls at hl ⊢
  have hl : lv_has ls 2 [(0, .ref (b + 193)), (1, .int p1)] := hl
  unfold f_X5_pitchOf at hf
  refine lv_aload_n hx hb dX5_pitchOf_0 rfl (lv_at hl 0 rfl) ?_
  refine lv_iload_n hx hb dX5_pitchOf_1 rfl (lv_at hl 1 rfl) ?_
  refine lv_iconst (v := 0) hx hb dX5_pitchOf_2 (by decide) ?_
  obtain ⟨y1, σ3, u2, hf⟩ := b2_e hf
  refine mV (k := 193) (q := (5, 0)) (C := RX5) (T := TX5) (N := 14) (ci := 5) (n := 2) (As := [.int p1, .int 0]) (rest := []) (c_X5_tells l D t b σ p1 0 y1 σ3 u2) sh_193 (by decide) rfl rfl hx hb hml hown hts hE hW hS q1544 q1546 q83 q96 q1547 hy_X5_tells ⟨rfl, rfl⟩ ⟨Nat.le_of_ble_eq_true rfl, Nat.le_of_ble_eq_true rfl⟩ rfl rfl hl.1 (Nat.le_of_ble_eq_true rfl) ⟨Nat.zero_le _, Nat.zero_le _⟩ dX5_pitchOf_3 (fun H locs hW hS => ?_)
  cases hf
  exact W.iret hx hb hr (fun u hu _ => ⟨⟨rfl, by rw [hu]; exact hW⟩, hS.F hu⟩) hS.2.2 dX5_pitchOf_6
def f_X5_stallOn (σ : Sg) (p1 : Int32) : Option (Int32 × Sg) := b1 (f_X5_isPitch σ p1) fun y1 => if y1 = 0 then (st (u2 σ 193 10 1) fun σ4 => if (σ4 193 10) ≤ 0 then (b1 (f_X5_on σ4 p1) fun y7 => some (y7, σ4)) else (some (0, σ4))) else (st (u2 σ 193 10 0) fun σ9 => if (σ9 193 10) ≤ 0 then (b1 (f_X5_on σ9 p1) fun y12 => some (y12, σ9)) else (some (0, σ9)))
set_option maxHeartbeats 4000000 in
set_option maxRecDepth 100000 in
theorem c_X5_stallOn (l : Launch) (D : va_G) (t : Nat → ClassId) (b : Nat) (σ : Sg) (p1 : Int32) (r : Int32) (σr : Sg) (hf : f_X5_stallOn σ p1 = some (r, σr)) : Met l yX5_stallOn (Cond.code yX5_stallOn cX5_stallOn 2 (some .int) :: ALL) ({ frames := 2, cells := 0, slots := 0, locals := 44 }) (PM D t b σ [.ref (b + 193), .int p1]) (QG D t b σr (some (.int r))) 0 0 (geA b) := by
  refine Met.ofW (cc := cX5_stallOn) (maxL := 2) (ret := (some .int)) (by decide) rfl ?_
  intro p e s m args below meth c s₁ B hml hv
  obtain ⟨rfl, hW, hE⟩ := hv
  have hx := B.exec
  have hb := B.bytes
  have hr := B.returns
  have hts := atoms_spec (ws := Cond.code yX5_stallOn cX5_stallOn 2 (some .int) :: ALL) B.pre
  have hta := fun w h => hts w (List.mem_cons_of_mem _ h)
  have hown : s.vm.findClass RX5 = some m.cls := findClass_of_methodNamed B.named
  have hlocks := B.notSynchronized
  have hS : va_S (geA b) s.heap s.heap [] := va_S.rf
  have hl := lv_entry ([.ref (b + 193), .int p1]) (n := 2) (Nat.le_of_ble_eq_true rfl)
  rw [lg_entry_eq]
  generalize (lg_sl ([.ref (b + 193), .int p1]) ++ List.replicate (2 - (lg_sl ([.ref (b + 193), .int p1])).length) Slot.unset).toArray = ls at hl ⊢
  have hl : lv_has ls 2 [(0, .ref (b + 193)), (1, .int p1)] := hl
  unfold f_X5_stallOn at hf
  refine lv_aload_n hx hb dX5_stallOn_0 rfl (lv_at hl 0 rfl) ?_
  refine lv_iload_n hx hb dX5_stallOn_1 rfl (lv_at hl 1 rfl) ?_
  obtain ⟨y1, u2, hf⟩ := b1_e hf
  refine mS (n := 1) (As := [.int p1]) (rest := [.ref (b + 193)]) (c_X5_isPitch l D t b σ p1 y1 u2) hx hb hml hown hts hE hW hS q1236 q1237 q96 q1238 hs_X5_isPitch ⟨rfl, rfl⟩ ⟨Nat.le_of_ble_eq_true rfl, Nat.le_of_ble_eq_true rfl⟩ rfl rfl hl.1 (Nat.le_of_ble_eq_true rfl) ⟨Nat.zero_le _, Nat.zero_le _⟩ dX5_stallOn_2 (fun H locs hW hS => ?_)
  refine lv_if_eq (tgt := 12) hx hb dX5_stallOn_5 (by decide) (fun h3 => ?_) (fun h3 => ?_)
  · have hf := ifp h3 hf
    refine lv_iconst (v := 1) hx hb dX5_stallOn_12 (by decide) ?_
    refine putX (k := 193) (q := (5, 0)) (ci := 5) (x := 1) inA5 tyX5_ok nmX5 rfl (by decide) rfl hx hb hta hown hE.1 hW hS sh_193 10 (by decide) q1191 rfl rfl rfl (Nat.le_of_ble_eq_true rfl) rfl dX5_stallOn_13 (fun H locs hW hS => ?_)
    obtain ⟨σ4, e5, hf⟩ := st_e hf
    rw [e5] at hW
    refine lv_aload_n hx hb dX5_stallOn_16 rfl (lv_at hl 0 rfl) ?_
    refine getM hx hb hta hown hE.1 hW 10 (by decide) q1191 rfl dX5_stallOn_17 ?_
    refine lv_if_le (tgt := 27) hx hb dX5_stallOn_20 (by decide) (fun h6 => ?_) (fun h6 => ?_)
    · have hf := ifp h6 hf
      refine lv_aload_n hx hb dX5_stallOn_27 rfl (lv_at hl 0 rfl) ?_
      refine lv_iload_n hx hb dX5_stallOn_28 rfl (lv_at hl 1 rfl) ?_
      obtain ⟨y7, u8, hf⟩ := b1_e hf
      refine mV (k := 193) (q := (5, 0)) (C := RX5) (T := TX5) (N := 14) (ci := 5) (n := 1) (As := [.int p1]) (rest := []) (c_X5_on l D t b σ4 p1 y7 u8) sh_193 (by decide) rfl rfl hx hb hml hown hts hE hW hS q1248 q1250 q34 q96 q1251 hy_X5_on ⟨rfl, rfl⟩ ⟨Nat.le_of_ble_eq_true rfl, Nat.le_of_ble_eq_true rfl⟩ rfl rfl hl.1 (Nat.le_of_ble_eq_true rfl) ⟨Nat.zero_le _, Nat.zero_le _⟩ dX5_stallOn_29 (fun H locs hW hS => ?_)
      cases hf
      exact W.iret hx hb hr (fun u hu _ => ⟨⟨rfl, by rw [hu]; exact hW⟩, hS.F hu⟩) hS.2.2 dX5_stallOn_32
    · have hf := ifn h6 hf
      refine lv_iconst (v := 0) hx hb dX5_stallOn_23 (by decide) ?_
      refine lv_goto (tgt := 32) hx hb dX5_stallOn_24 (by decide) ?_
      cases hf
      exact W.iret hx hb hr (fun u hu _ => ⟨⟨rfl, by rw [hu]; exact hW⟩, hS.F hu⟩) hS.2.2 dX5_stallOn_32
  · have hf := ifn h3 hf
    refine lv_iconst (v := 0) hx hb dX5_stallOn_8 (by decide) ?_
    refine lv_goto (tgt := 13) hx hb dX5_stallOn_9 (by decide) ?_
    refine putX (k := 193) (q := (5, 0)) (ci := 5) (x := 0) inA5 tyX5_ok nmX5 rfl (by decide) rfl hx hb hta hown hE.1 hW hS sh_193 10 (by decide) q1191 rfl rfl rfl (Nat.le_of_ble_eq_true rfl) rfl dX5_stallOn_13 (fun H locs hW hS => ?_)
    obtain ⟨σ9, e10, hf⟩ := st_e hf
    rw [e10] at hW
    refine lv_aload_n hx hb dX5_stallOn_16 rfl (lv_at hl 0 rfl) ?_
    refine getM hx hb hta hown hE.1 hW 10 (by decide) q1191 rfl dX5_stallOn_17 ?_
    refine lv_if_le (tgt := 27) hx hb dX5_stallOn_20 (by decide) (fun h11 => ?_) (fun h11 => ?_)
    · have hf := ifp h11 hf
      refine lv_aload_n hx hb dX5_stallOn_27 rfl (lv_at hl 0 rfl) ?_
      refine lv_iload_n hx hb dX5_stallOn_28 rfl (lv_at hl 1 rfl) ?_
      obtain ⟨y12, u13, hf⟩ := b1_e hf
      refine mV (k := 193) (q := (5, 0)) (C := RX5) (T := TX5) (N := 14) (ci := 5) (n := 1) (As := [.int p1]) (rest := []) (c_X5_on l D t b σ9 p1 y12 u13) sh_193 (by decide) rfl rfl hx hb hml hown hts hE hW hS q1248 q1250 q34 q96 q1251 hy_X5_on ⟨rfl, rfl⟩ ⟨Nat.le_of_ble_eq_true rfl, Nat.le_of_ble_eq_true rfl⟩ rfl rfl hl.1 (Nat.le_of_ble_eq_true rfl) ⟨Nat.zero_le _, Nat.zero_le _⟩ dX5_stallOn_29 (fun H locs hW hS => ?_)
      cases hf
      exact W.iret hx hb hr (fun u hu _ => ⟨⟨rfl, by rw [hu]; exact hW⟩, hS.F hu⟩) hS.2.2 dX5_stallOn_32
    · have hf := ifn h11 hf
      refine lv_iconst (v := 0) hx hb dX5_stallOn_23 (by decide) ?_
      refine lv_goto (tgt := 32) hx hb dX5_stallOn_24 (by decide) ?_
      cases hf
      exact W.iret hx hb hr (fun u hu _ => ⟨⟨rfl, by rw [hu]; exact hW⟩, hS.F hu⟩) hS.2.2 dX5_stallOn_32
def f_X5_priceOf (σ : Sg) (p1 : Int32) : Option (Int32 × Sg) := b2 (f_X5_tells σ p1 2) fun y1 σ3 => some (y1, σ3)
set_option maxHeartbeats 4000000 in
set_option maxRecDepth 100000 in
theorem c_X5_priceOf (l : Launch) (D : va_G) (t : Nat → ClassId) (b : Nat) (σ : Sg) (p1 : Int32) (r : Int32) (σr : Sg) (hf : f_X5_priceOf σ p1 = some (r, σr)) : Met l yX5_priceOf (Cond.code yX5_priceOf cX5_priceOf 2 (some .int) :: ALL) ({ frames := 3, cells := 0, slots := 0, locals := 65 }) (PM D t b σ [.ref (b + 193), .int p1]) (QG D t b σr (some (.int r))) 0 0 (geA b) := by
  refine Met.ofW (cc := cX5_priceOf) (maxL := 2) (ret := (some .int)) (by decide) rfl ?_
  intro p e s m args below meth c s₁ B hml hv
  obtain ⟨rfl, hW, hE⟩ := hv
  have hx := B.exec
  have hb := B.bytes
  have hr := B.returns
  have hts := atoms_spec (ws := Cond.code yX5_priceOf cX5_priceOf 2 (some .int) :: ALL) B.pre
  have hta := fun w h => hts w (List.mem_cons_of_mem _ h)
  have hown : s.vm.findClass RX5 = some m.cls := findClass_of_methodNamed B.named
  have hlocks := B.notSynchronized
  have hS : va_S (geA b) s.heap s.heap [] := va_S.rf
  have hl := lv_entry ([.ref (b + 193), .int p1]) (n := 2) (Nat.le_of_ble_eq_true rfl)
  rw [lg_entry_eq]
  generalize (lg_sl ([.ref (b + 193), .int p1]) ++ List.replicate (2 - (lg_sl ([.ref (b + 193), .int p1])).length) Slot.unset).toArray = ls at hl ⊢
  have hl : lv_has ls 2 [(0, .ref (b + 193)), (1, .int p1)] := hl
  unfold f_X5_priceOf at hf
  refine lv_aload_n hx hb dX5_priceOf_0 rfl (lv_at hl 0 rfl) ?_
  refine lv_iload_n hx hb dX5_priceOf_1 rfl (lv_at hl 1 rfl) ?_
  refine lv_iconst (v := 2) hx hb dX5_priceOf_2 (by decide) ?_
  obtain ⟨y1, σ3, u2, hf⟩ := b2_e hf
  refine mV (k := 193) (q := (5, 0)) (C := RX5) (T := TX5) (N := 14) (ci := 5) (n := 2) (As := [.int p1, .int 2]) (rest := []) (c_X5_tells l D t b σ p1 2 y1 σ3 u2) sh_193 (by decide) rfl rfl hx hb hml hown hts hE hW hS q1544 q1546 q83 q96 q1547 hy_X5_tells ⟨rfl, rfl⟩ ⟨Nat.le_of_ble_eq_true rfl, Nat.le_of_ble_eq_true rfl⟩ rfl rfl hl.1 (Nat.le_of_ble_eq_true rfl) ⟨Nat.zero_le _, Nat.zero_le _⟩ dX5_priceOf_3 (fun H locs hW hS => ?_)
  cases hf
  exact W.iret hx hb hr (fun u hu _ => ⟨⟨rfl, by rw [hu]; exact hW⟩, hS.F hu⟩) hS.2.2 dX5_priceOf_6
def f_X5_isOpen (σ : Sg) (p1 : Int32) : Option (Int32 × Sg) := b2 (f_X5_tells σ p1 6) fun y1 σ3 => if y1 = 1 then (some (1, σ3)) else (some (0, σ3))
set_option maxHeartbeats 4000000 in
set_option maxRecDepth 100000 in
theorem c_X5_isOpen (l : Launch) (D : va_G) (t : Nat → ClassId) (b : Nat) (σ : Sg) (p1 : Int32) (r : Int32) (σr : Sg) (hf : f_X5_isOpen σ p1 = some (r, σr)) : Met l yX5_isOpen (Cond.code yX5_isOpen cX5_isOpen 2 (some .boolean) :: ALL) ({ frames := 3, cells := 0, slots := 0, locals := 65 }) (PM D t b σ [.ref (b + 193), .int p1]) (QG D t b σr (some (.int r))) 0 0 (geA b) := by
  refine Met.ofW (cc := cX5_isOpen) (maxL := 2) (ret := (some .boolean)) (by decide) rfl ?_
  intro p e s m args below meth c s₁ B hml hv
  obtain ⟨rfl, hW, hE⟩ := hv
  have hx := B.exec
  have hb := B.bytes
  have hr := B.returns
  have hts := atoms_spec (ws := Cond.code yX5_isOpen cX5_isOpen 2 (some .boolean) :: ALL) B.pre
  have hta := fun w h => hts w (List.mem_cons_of_mem _ h)
  have hown : s.vm.findClass RX5 = some m.cls := findClass_of_methodNamed B.named
  have hlocks := B.notSynchronized
  have hS : va_S (geA b) s.heap s.heap [] := va_S.rf
  have hl := lv_entry ([.ref (b + 193), .int p1]) (n := 2) (Nat.le_of_ble_eq_true rfl)
  rw [lg_entry_eq]
  generalize (lg_sl ([.ref (b + 193), .int p1]) ++ List.replicate (2 - (lg_sl ([.ref (b + 193), .int p1])).length) Slot.unset).toArray = ls at hl ⊢
  have hl : lv_has ls 2 [(0, .ref (b + 193)), (1, .int p1)] := hl
  unfold f_X5_isOpen at hf
  refine lv_aload_n hx hb dX5_isOpen_0 rfl (lv_at hl 0 rfl) ?_
  refine lv_iload_n hx hb dX5_isOpen_1 rfl (lv_at hl 1 rfl) ?_
  refine lv_bipush (v := 6) hx hb dX5_isOpen_2 (by decide) ?_
  obtain ⟨y1, σ3, u2, hf⟩ := b2_e hf
  refine mV (k := 193) (q := (5, 0)) (C := RX5) (T := TX5) (N := 14) (ci := 5) (n := 2) (As := [.int p1, .int 6]) (rest := []) (c_X5_tells l D t b σ p1 6 y1 σ3 u2) sh_193 (by decide) rfl rfl hx hb hml hown hts hE hW hS q1544 q1546 q83 q96 q1547 hy_X5_tells ⟨rfl, rfl⟩ ⟨Nat.le_of_ble_eq_true rfl, Nat.le_of_ble_eq_true rfl⟩ rfl rfl hl.1 (Nat.le_of_ble_eq_true rfl) ⟨Nat.zero_le _, Nat.zero_le _⟩ dX5_isOpen_4 (fun H locs hW hS => ?_)
  refine lv_iconst (v := 1) hx hb dX5_isOpen_7 (by decide) ?_
  refine lv_icmp_ne (tgt := 15) hx hb dX5_isOpen_8 (by decide) (fun h4 => ?_) (fun h4 => ?_)
  · have hf := ifn h4 hf
    refine lv_iconst (v := 0) hx hb dX5_isOpen_15 (by decide) ?_
    cases hf
    exact W.zret (ty := .boolean) hx hb hr (by decide) (fun u hu _ => ⟨⟨rfl, by rw [hu]; exact hW⟩, hS.F hu⟩) hS.2.2 dX5_isOpen_16
  · have hf := ifp h4 hf
    refine lv_iconst (v := 1) hx hb dX5_isOpen_11 (by decide) ?_
    refine lv_goto (tgt := 16) hx hb dX5_isOpen_12 (by decide) ?_
    cases hf
    exact W.zret (ty := .boolean) hx hb hr (by decide) (fun u hu _ => ⟨⟨rfl, by rw [hu]; exact hW⟩, hS.F hu⟩) hS.2.2 dX5_isOpen_16
def f_X5_purseOfStall (σ : Sg) (p1 : Int32) : Option (Int32 × Sg) := b2 (f_X5_tells σ p1 4) fun y1 σ3 => some (y1, σ3)
set_option maxHeartbeats 4000000 in
set_option maxRecDepth 100000 in
theorem c_X5_purseOfStall (l : Launch) (D : va_G) (t : Nat → ClassId) (b : Nat) (σ : Sg) (p1 : Int32) (r : Int32) (σr : Sg) (hf : f_X5_purseOfStall σ p1 = some (r, σr)) : Met l yX5_purseOfStall (Cond.code yX5_purseOfStall cX5_purseOfStall 2 (some .int) :: ALL) ({ frames := 3, cells := 0, slots := 0, locals := 65 }) (PM D t b σ [.ref (b + 193), .int p1]) (QG D t b σr (some (.int r))) 0 0 (geA b) := by
  refine Met.ofW (cc := cX5_purseOfStall) (maxL := 2) (ret := (some .int)) (by decide) rfl ?_
  intro p e s m args below meth c s₁ B hml hv
  obtain ⟨rfl, hW, hE⟩ := hv
  have hx := B.exec
  have hb := B.bytes
  have hr := B.returns
  have hts := atoms_spec (ws := Cond.code yX5_purseOfStall cX5_purseOfStall 2 (some .int) :: ALL) B.pre
  have hta := fun w h => hts w (List.mem_cons_of_mem _ h)
  have hown : s.vm.findClass RX5 = some m.cls := findClass_of_methodNamed B.named
  have hlocks := B.notSynchronized
  have hS : va_S (geA b) s.heap s.heap [] := va_S.rf
  have hl := lv_entry ([.ref (b + 193), .int p1]) (n := 2) (Nat.le_of_ble_eq_true rfl)
  rw [lg_entry_eq]
  generalize (lg_sl ([.ref (b + 193), .int p1]) ++ List.replicate (2 - (lg_sl ([.ref (b + 193), .int p1])).length) Slot.unset).toArray = ls at hl ⊢
  have hl : lv_has ls 2 [(0, .ref (b + 193)), (1, .int p1)] := hl
  unfold f_X5_purseOfStall at hf
  refine lv_aload_n hx hb dX5_purseOfStall_0 rfl (lv_at hl 0 rfl) ?_
  refine lv_iload_n hx hb dX5_purseOfStall_1 rfl (lv_at hl 1 rfl) ?_
  refine lv_iconst (v := 4) hx hb dX5_purseOfStall_2 (by decide) ?_
  obtain ⟨y1, σ3, u2, hf⟩ := b2_e hf
  refine mV (k := 193) (q := (5, 0)) (C := RX5) (T := TX5) (N := 14) (ci := 5) (n := 2) (As := [.int p1, .int 4]) (rest := []) (c_X5_tells l D t b σ p1 4 y1 σ3 u2) sh_193 (by decide) rfl rfl hx hb hml hown hts hE hW hS q1544 q1546 q83 q96 q1547 hy_X5_tells ⟨rfl, rfl⟩ ⟨Nat.le_of_ble_eq_true rfl, Nat.le_of_ble_eq_true rfl⟩ rfl rfl hl.1 (Nat.le_of_ble_eq_true rfl) ⟨Nat.zero_le _, Nat.zero_le _⟩ dX5_purseOfStall_3 (fun H locs hW hS => ?_)
  cases hf
  exact W.iret hx hb hr (fun u hu _ => ⟨⟨rfl, by rw [hu]; exact hW⟩, hS.F hu⟩) hS.2.2 dX5_purseOfStall_6
def f_X5_playsOf (σ : Sg) (p1 : Int32) : Option (Int32 × Sg) := b2 (f_X5_tells σ p1 5) fun y1 σ3 => some (y1, σ3)
set_option maxHeartbeats 4000000 in
set_option maxRecDepth 100000 in
theorem c_X5_playsOf (l : Launch) (D : va_G) (t : Nat → ClassId) (b : Nat) (σ : Sg) (p1 : Int32) (r : Int32) (σr : Sg) (hf : f_X5_playsOf σ p1 = some (r, σr)) : Met l yX5_playsOf (Cond.code yX5_playsOf cX5_playsOf 2 (some .int) :: ALL) ({ frames := 3, cells := 0, slots := 0, locals := 65 }) (PM D t b σ [.ref (b + 193), .int p1]) (QG D t b σr (some (.int r))) 0 0 (geA b) := by
  refine Met.ofW (cc := cX5_playsOf) (maxL := 2) (ret := (some .int)) (by decide) rfl ?_
  intro p e s m args below meth c s₁ B hml hv
  obtain ⟨rfl, hW, hE⟩ := hv
  have hx := B.exec
  have hb := B.bytes
  have hr := B.returns
  have hts := atoms_spec (ws := Cond.code yX5_playsOf cX5_playsOf 2 (some .int) :: ALL) B.pre
  have hta := fun w h => hts w (List.mem_cons_of_mem _ h)
  have hown : s.vm.findClass RX5 = some m.cls := findClass_of_methodNamed B.named
  have hlocks := B.notSynchronized
  have hS : va_S (geA b) s.heap s.heap [] := va_S.rf
  have hl := lv_entry ([.ref (b + 193), .int p1]) (n := 2) (Nat.le_of_ble_eq_true rfl)
  rw [lg_entry_eq]
  generalize (lg_sl ([.ref (b + 193), .int p1]) ++ List.replicate (2 - (lg_sl ([.ref (b + 193), .int p1])).length) Slot.unset).toArray = ls at hl ⊢
  have hl : lv_has ls 2 [(0, .ref (b + 193)), (1, .int p1)] := hl
  unfold f_X5_playsOf at hf
  refine lv_aload_n hx hb dX5_playsOf_0 rfl (lv_at hl 0 rfl) ?_
  refine lv_iload_n hx hb dX5_playsOf_1 rfl (lv_at hl 1 rfl) ?_
  refine lv_iconst (v := 5) hx hb dX5_playsOf_2 (by decide) ?_
  obtain ⟨y1, σ3, u2, hf⟩ := b2_e hf
  refine mV (k := 193) (q := (5, 0)) (C := RX5) (T := TX5) (N := 14) (ci := 5) (n := 2) (As := [.int p1, .int 5]) (rest := []) (c_X5_tells l D t b σ p1 5 y1 σ3 u2) sh_193 (by decide) rfl rfl hx hb hml hown hts hE hW hS q1544 q1546 q83 q96 q1547 hy_X5_tells ⟨rfl, rfl⟩ ⟨Nat.le_of_ble_eq_true rfl, Nat.le_of_ble_eq_true rfl⟩ rfl rfl hl.1 (Nat.le_of_ble_eq_true rfl) ⟨Nat.zero_le _, Nat.zero_le _⟩ dX5_playsOf_3 (fun H locs hW hS => ?_)
  cases hf
  exact W.iret hx hb hr (fun u hu _ => ⟨⟨rfl, by rw [hu]; exact hW⟩, hS.F hu⟩) hS.2.2 dX5_playsOf_6
def f_X5_rentOf (σ : Sg) (p1 : Int32) : Option (Int32 × Sg) := b1 (f_X5_isStall σ p1) fun y1 => if y1 = 0 then (st (u2 σ 193 10 1) fun σ4 => if (σ4 193 10) ≤ 0 then (b1 (f_X5_its σ4 p1 0) fun y7 => b1 (f_X5_rent σ4 y7) fun y9 => some (y9, σ4)) else (some (0, σ4))) else (st (u2 σ 193 10 0) fun σ11 => if (σ11 193 10) ≤ 0 then (b1 (f_X5_its σ11 p1 0) fun y14 => b1 (f_X5_rent σ11 y14) fun y16 => some (y16, σ11)) else (some (0, σ11)))
set_option maxHeartbeats 4000000 in
set_option maxRecDepth 100000 in
theorem c_X5_rentOf (l : Launch) (D : va_G) (t : Nat → ClassId) (b : Nat) (σ : Sg) (p1 : Int32) (r : Int32) (σr : Sg) (hf : f_X5_rentOf σ p1 = some (r, σr)) : Met l yX5_rentOf (Cond.code yX5_rentOf cX5_rentOf 2 (some .int) :: ALL) ({ frames := 2, cells := 0, slots := 0, locals := 43 }) (PM D t b σ [.ref (b + 193), .int p1]) (QG D t b σr (some (.int r))) 0 0 (geA b) := by
  refine Met.ofW (cc := cX5_rentOf) (maxL := 2) (ret := (some .int)) (by decide) rfl ?_
  intro p e s m args below meth c s₁ B hml hv
  obtain ⟨rfl, hW, hE⟩ := hv
  have hx := B.exec
  have hb := B.bytes
  have hr := B.returns
  have hts := atoms_spec (ws := Cond.code yX5_rentOf cX5_rentOf 2 (some .int) :: ALL) B.pre
  have hta := fun w h => hts w (List.mem_cons_of_mem _ h)
  have hown : s.vm.findClass RX5 = some m.cls := findClass_of_methodNamed B.named
  have hlocks := B.notSynchronized
  have hS : va_S (geA b) s.heap s.heap [] := va_S.rf
  have hl := lv_entry ([.ref (b + 193), .int p1]) (n := 2) (Nat.le_of_ble_eq_true rfl)
  rw [lg_entry_eq]
  generalize (lg_sl ([.ref (b + 193), .int p1]) ++ List.replicate (2 - (lg_sl ([.ref (b + 193), .int p1])).length) Slot.unset).toArray = ls at hl ⊢
  have hl : lv_has ls 2 [(0, .ref (b + 193)), (1, .int p1)] := hl
  unfold f_X5_rentOf at hf
  refine lv_aload_n hx hb dX5_rentOf_0 rfl (lv_at hl 0 rfl) ?_
  refine lv_aload_n hx hb dX5_rentOf_1 rfl (lv_at hl 0 rfl) ?_
  refine lv_iload_n hx hb dX5_rentOf_2 rfl (lv_at hl 1 rfl) ?_
  obtain ⟨y1, u2, hf⟩ := b1_e hf
  refine mV (k := 193) (q := (5, 0)) (C := RX5) (T := TX5) (N := 14) (ci := 5) (n := 1) (As := [.int p1]) (rest := [.ref (b + 193)]) (c_X5_isStall l D t b σ p1 y1 u2) sh_193 (by decide) rfl rfl hx hb hml hown hts hE hW hS q1279 q1281 q40 q96 q1282 hy_X5_isStall ⟨rfl, rfl⟩ ⟨Nat.le_of_ble_eq_true rfl, Nat.le_of_ble_eq_true rfl⟩ rfl rfl hl.1 (Nat.le_of_ble_eq_true rfl) ⟨Nat.zero_le _, Nat.zero_le _⟩ dX5_rentOf_3 (fun H locs hW hS => ?_)
  refine lv_if_eq (tgt := 13) hx hb dX5_rentOf_6 (by decide) (fun h3 => ?_) (fun h3 => ?_)
  · have hf := ifp h3 hf
    refine lv_iconst (v := 1) hx hb dX5_rentOf_13 (by decide) ?_
    refine putX (k := 193) (q := (5, 0)) (ci := 5) (x := 1) inA5 tyX5_ok nmX5 rfl (by decide) rfl hx hb hta hown hE.1 hW hS sh_193 10 (by decide) q1191 rfl rfl rfl (Nat.le_of_ble_eq_true rfl) rfl dX5_rentOf_14 (fun H locs hW hS => ?_)
    obtain ⟨σ4, e5, hf⟩ := st_e hf
    rw [e5] at hW
    refine lv_aload_n hx hb dX5_rentOf_17 rfl (lv_at hl 0 rfl) ?_
    refine getM hx hb hta hown hE.1 hW 10 (by decide) q1191 rfl dX5_rentOf_18 ?_
    refine lv_if_le (tgt := 28) hx hb dX5_rentOf_21 (by decide) (fun h6 => ?_) (fun h6 => ?_)
    · have hf := ifp h6 hf
      refine lv_aload_n hx hb dX5_rentOf_28 rfl (lv_at hl 0 rfl) ?_
      refine lv_iload_n hx hb dX5_rentOf_29 rfl (lv_at hl 1 rfl) ?_
      refine lv_iconst (v := 0) hx hb dX5_rentOf_30 (by decide) ?_
      obtain ⟨y7, u8, hf⟩ := b1_e hf
      refine mV (k := 193) (q := (5, 0)) (C := RX5) (T := TX5) (N := 14) (ci := 5) (n := 2) (As := [.int p1, .int 0]) (rest := []) (c_X5_its l D t b σ4 p1 0 y7 u8) sh_193 (by decide) rfl rfl hx hb hml hown hts hE hW hS q1252 q1254 q35 q96 q1255 hy_X5_its ⟨rfl, rfl⟩ ⟨Nat.le_of_ble_eq_true rfl, Nat.le_of_ble_eq_true rfl⟩ rfl rfl hl.1 (Nat.le_of_ble_eq_true rfl) ⟨Nat.zero_le _, Nat.zero_le _⟩ dX5_rentOf_31 (fun H locs hW hS => ?_)
      obtain ⟨y9, u10, hf⟩ := b1_e hf
      refine mS (n := 1) (As := [.int y7]) (rest := []) (c_X5_rent l D t b σ4 y7 y9 u10) hx hb hml hown hts hE hW hS q1457 q1458 q96 q1459 hs_X5_rent ⟨rfl, rfl⟩ ⟨Nat.le_of_ble_eq_true rfl, Nat.le_of_ble_eq_true rfl⟩ rfl rfl hl.1 (Nat.le_of_ble_eq_true rfl) ⟨Nat.zero_le _, Nat.zero_le _⟩ dX5_rentOf_34 (fun H locs hW hS => ?_)
      cases hf
      exact W.iret hx hb hr (fun u hu _ => ⟨⟨rfl, by rw [hu]; exact hW⟩, hS.F hu⟩) hS.2.2 dX5_rentOf_37
    · have hf := ifn h6 hf
      refine lv_iconst (v := 0) hx hb dX5_rentOf_24 (by decide) ?_
      refine lv_goto (tgt := 37) hx hb dX5_rentOf_25 (by decide) ?_
      cases hf
      exact W.iret hx hb hr (fun u hu _ => ⟨⟨rfl, by rw [hu]; exact hW⟩, hS.F hu⟩) hS.2.2 dX5_rentOf_37
  · have hf := ifn h3 hf
    refine lv_iconst (v := 0) hx hb dX5_rentOf_9 (by decide) ?_
    refine lv_goto (tgt := 14) hx hb dX5_rentOf_10 (by decide) ?_
    refine putX (k := 193) (q := (5, 0)) (ci := 5) (x := 0) inA5 tyX5_ok nmX5 rfl (by decide) rfl hx hb hta hown hE.1 hW hS sh_193 10 (by decide) q1191 rfl rfl rfl (Nat.le_of_ble_eq_true rfl) rfl dX5_rentOf_14 (fun H locs hW hS => ?_)
    obtain ⟨σ11, e12, hf⟩ := st_e hf
    rw [e12] at hW
    refine lv_aload_n hx hb dX5_rentOf_17 rfl (lv_at hl 0 rfl) ?_
    refine getM hx hb hta hown hE.1 hW 10 (by decide) q1191 rfl dX5_rentOf_18 ?_
    refine lv_if_le (tgt := 28) hx hb dX5_rentOf_21 (by decide) (fun h13 => ?_) (fun h13 => ?_)
    · have hf := ifp h13 hf
      refine lv_aload_n hx hb dX5_rentOf_28 rfl (lv_at hl 0 rfl) ?_
      refine lv_iload_n hx hb dX5_rentOf_29 rfl (lv_at hl 1 rfl) ?_
      refine lv_iconst (v := 0) hx hb dX5_rentOf_30 (by decide) ?_
      obtain ⟨y14, u15, hf⟩ := b1_e hf
      refine mV (k := 193) (q := (5, 0)) (C := RX5) (T := TX5) (N := 14) (ci := 5) (n := 2) (As := [.int p1, .int 0]) (rest := []) (c_X5_its l D t b σ11 p1 0 y14 u15) sh_193 (by decide) rfl rfl hx hb hml hown hts hE hW hS q1252 q1254 q35 q96 q1255 hy_X5_its ⟨rfl, rfl⟩ ⟨Nat.le_of_ble_eq_true rfl, Nat.le_of_ble_eq_true rfl⟩ rfl rfl hl.1 (Nat.le_of_ble_eq_true rfl) ⟨Nat.zero_le _, Nat.zero_le _⟩ dX5_rentOf_31 (fun H locs hW hS => ?_)
      obtain ⟨y16, u17, hf⟩ := b1_e hf
      refine mS (n := 1) (As := [.int y14]) (rest := []) (c_X5_rent l D t b σ11 y14 y16 u17) hx hb hml hown hts hE hW hS q1457 q1458 q96 q1459 hs_X5_rent ⟨rfl, rfl⟩ ⟨Nat.le_of_ble_eq_true rfl, Nat.le_of_ble_eq_true rfl⟩ rfl rfl hl.1 (Nat.le_of_ble_eq_true rfl) ⟨Nat.zero_le _, Nat.zero_le _⟩ dX5_rentOf_34 (fun H locs hW hS => ?_)
      cases hf
      exact W.iret hx hb hr (fun u hu _ => ⟨⟨rfl, by rw [hu]; exact hW⟩, hS.F hu⟩) hS.2.2 dX5_rentOf_37
    · have hf := ifn h13 hf
      refine lv_iconst (v := 0) hx hb dX5_rentOf_24 (by decide) ?_
      refine lv_goto (tgt := 37) hx hb dX5_rentOf_25 (by decide) ?_
      cases hf
      exact W.iret hx hb hr (fun u hu _ => ⟨⟨rfl, by rw [hu]; exact hW⟩, hS.F hu⟩) hS.2.2 dX5_rentOf_37
def f_X5_playsToWin (σ : Sg) (p1 : Int32) : Option (Int32 × Sg) := b1 (f_X5_isStall σ p1) fun y1 => if y1 = 0 then (st (u2 σ 193 10 1) fun σ4 => if (σ4 193 10) ≤ 0 then (b1 (f_X5_its σ4 p1 1) fun y7 => b1 (f_X5_every σ4 y7) fun y9 => if (σ4 193 10) ≤ 0 then (if y9 = 0 then (some ((-1), σ4)) else (b1 (f_X5_its σ4 p1 5) fun y13 => nz y9 (some ((y9 - (y13 - y13 / y9 * y9)), σ4)))) else (some (0, σ4))) else (if (σ4 193 10) ≤ 0 then (some ((-1), σ4)) else (some (0, σ4)))) else (st (u2 σ 193 10 0) fun σ18 => if (σ18 193 10) ≤ 0 then (b1 (f_X5_its σ18 p1 1) fun y21 => b1 (f_X5_every σ18 y21) fun y23 => if (σ18 193 10) ≤ 0 then (if y23 = 0 then (some ((-1), σ18)) else (b1 (f_X5_its σ18 p1 5) fun y27 => nz y23 (some ((y23 - (y27 - y27 / y23 * y23)), σ18)))) else (some (0, σ18))) else (if (σ18 193 10) ≤ 0 then (some ((-1), σ18)) else (some (0, σ18))))
set_option maxHeartbeats 4000000 in
set_option maxRecDepth 100000 in
theorem c_X5_playsToWin (l : Launch) (D : va_G) (t : Nat → ClassId) (b : Nat) (σ : Sg) (p1 : Int32) (r : Int32) (σr : Sg) (hf : f_X5_playsToWin σ p1 = some (r, σr)) : Met l yX5_playsToWin (Cond.code yX5_playsToWin cX5_playsToWin 3 (some .int) :: ALL) ({ frames := 2, cells := 0, slots := 0, locals := 43 }) (PM D t b σ [.ref (b + 193), .int p1]) (QG D t b σr (some (.int r))) 0 0 (geA b) := by
  refine Met.ofW (cc := cX5_playsToWin) (maxL := 3) (ret := (some .int)) (by decide) rfl ?_
  intro p e s m args below meth c s₁ B hml hv
  obtain ⟨rfl, hW, hE⟩ := hv
  have hx := B.exec
  have hb := B.bytes
  have hr := B.returns
  have hts := atoms_spec (ws := Cond.code yX5_playsToWin cX5_playsToWin 3 (some .int) :: ALL) B.pre
  have hta := fun w h => hts w (List.mem_cons_of_mem _ h)
  have hown : s.vm.findClass RX5 = some m.cls := findClass_of_methodNamed B.named
  have hlocks := B.notSynchronized
  have hS : va_S (geA b) s.heap s.heap [] := va_S.rf
  have hl := lv_entry ([.ref (b + 193), .int p1]) (n := 3) (Nat.le_of_ble_eq_true rfl)
  rw [lg_entry_eq]
  generalize (lg_sl ([.ref (b + 193), .int p1]) ++ List.replicate (3 - (lg_sl ([.ref (b + 193), .int p1])).length) Slot.unset).toArray = ls at hl ⊢
  have hl : lv_has ls 3 [(0, .ref (b + 193)), (1, .int p1)] := hl
  unfold f_X5_playsToWin at hf
  refine lv_aload_n hx hb dX5_playsToWin_0 rfl (lv_at hl 0 rfl) ?_
  refine lv_aload_n hx hb dX5_playsToWin_1 rfl (lv_at hl 0 rfl) ?_
  refine lv_iload_n hx hb dX5_playsToWin_2 rfl (lv_at hl 1 rfl) ?_
  obtain ⟨y1, u2, hf⟩ := b1_e hf
  refine mV (k := 193) (q := (5, 0)) (C := RX5) (T := TX5) (N := 14) (ci := 5) (n := 1) (As := [.int p1]) (rest := [.ref (b + 193)]) (c_X5_isStall l D t b σ p1 y1 u2) sh_193 (by decide) rfl rfl hx hb hml hown hts hE hW hS q1279 q1281 q40 q96 q1282 hy_X5_isStall ⟨rfl, rfl⟩ ⟨Nat.le_of_ble_eq_true rfl, Nat.le_of_ble_eq_true rfl⟩ rfl rfl hl.1 (Nat.le_of_ble_eq_true rfl) ⟨Nat.zero_le _, Nat.zero_le _⟩ dX5_playsToWin_3 (fun H locs hW hS => ?_)
  refine lv_if_eq (tgt := 13) hx hb dX5_playsToWin_6 (by decide) (fun h3 => ?_) (fun h3 => ?_)
  · have hf := ifp h3 hf
    refine lv_iconst (v := 1) hx hb dX5_playsToWin_13 (by decide) ?_
    refine putX (k := 193) (q := (5, 0)) (ci := 5) (x := 1) inA5 tyX5_ok nmX5 rfl (by decide) rfl hx hb hta hown hE.1 hW hS sh_193 10 (by decide) q1191 rfl rfl rfl (Nat.le_of_ble_eq_true rfl) rfl dX5_playsToWin_14 (fun H locs hW hS => ?_)
    obtain ⟨σ4, e5, hf⟩ := st_e hf
    rw [e5] at hW
    refine lv_aload_n hx hb dX5_playsToWin_17 rfl (lv_at hl 0 rfl) ?_
    refine getM hx hb hta hown hE.1 hW 10 (by decide) q1191 rfl dX5_playsToWin_18 ?_
    refine lv_if_le (tgt := 28) hx hb dX5_playsToWin_21 (by decide) (fun h6 => ?_) (fun h6 => ?_)
    · have hf := ifp h6 hf
      refine lv_aload_n hx hb dX5_playsToWin_28 rfl (lv_at hl 0 rfl) ?_
      refine lv_iload_n hx hb dX5_playsToWin_29 rfl (lv_at hl 1 rfl) ?_
      refine lv_iconst (v := 1) hx hb dX5_playsToWin_30 (by decide) ?_
      obtain ⟨y7, u8, hf⟩ := b1_e hf
      refine mV (k := 193) (q := (5, 0)) (C := RX5) (T := TX5) (N := 14) (ci := 5) (n := 2) (As := [.int p1, .int 1]) (rest := []) (c_X5_its l D t b σ4 p1 1 y7 u8) sh_193 (by decide) rfl rfl hx hb hml hown hts hE hW hS q1252 q1254 q35 q96 q1255 hy_X5_its ⟨rfl, rfl⟩ ⟨Nat.le_of_ble_eq_true rfl, Nat.le_of_ble_eq_true rfl⟩ rfl rfl hl.1 (Nat.le_of_ble_eq_true rfl) ⟨Nat.zero_le _, Nat.zero_le _⟩ dX5_playsToWin_31 (fun H locs hW hS => ?_)
      obtain ⟨y9, u10, hf⟩ := b1_e hf
      refine mS (n := 1) (As := [.int y7]) (rest := []) (c_X5_every l D t b σ4 y7 y9 u10) hx hb hml hown hts hE hW hS q1431 q1432 q96 q1433 hs_X5_every ⟨rfl, rfl⟩ ⟨Nat.le_of_ble_eq_true rfl, Nat.le_of_ble_eq_true rfl⟩ rfl rfl hl.1 (Nat.le_of_ble_eq_true rfl) ⟨Nat.zero_le _, Nat.zero_le _⟩ dX5_playsToWin_34 (fun H locs hW hS => ?_)
      refine lv_istore_n (lv' := [(2, .int y9), (0, .ref (b + 193)), (1, .int p1)]) hx hb dX5_playsToWin_37 rfl hl (by decide) rfl (fun ls hl => ?_)
      refine lv_aload_n hx hb dX5_playsToWin_38 rfl (lv_at hl 1 rfl) ?_
      refine getM hx hb hta hown hE.1 hW 10 (by decide) q1191 rfl dX5_playsToWin_39 ?_
      refine lv_if_le (tgt := 49) hx hb dX5_playsToWin_42 (by decide) (fun h11 => ?_) (fun h11 => ?_)
      · have hf := ifp h11 hf
        refine lv_iload_n hx hb dX5_playsToWin_49 rfl (lv_at hl 0 rfl) ?_
        refine lv_if_ne (tgt := 57) hx hb dX5_playsToWin_50 (by decide) (fun h12 => ?_) (fun h12 => ?_)
        · have hf := ifn h12 hf
          refine lv_iload_n hx hb dX5_playsToWin_57 rfl (lv_at hl 0 rfl) ?_
          refine lv_aload_n hx hb dX5_playsToWin_58 rfl (lv_at hl 1 rfl) ?_
          refine lv_iload_n hx hb dX5_playsToWin_59 rfl (lv_at hl 2 rfl) ?_
          refine lv_iconst (v := 5) hx hb dX5_playsToWin_60 (by decide) ?_
          obtain ⟨y13, u14, hf⟩ := b1_e hf
          refine mV (k := 193) (q := (5, 0)) (C := RX5) (T := TX5) (N := 14) (ci := 5) (n := 2) (As := [.int p1, .int 5]) (rest := [.int y9]) (c_X5_its l D t b σ4 p1 5 y13 u14) sh_193 (by decide) rfl rfl hx hb hml hown hts hE hW hS q1252 q1254 q35 q96 q1255 hy_X5_its ⟨rfl, rfl⟩ ⟨Nat.le_of_ble_eq_true rfl, Nat.le_of_ble_eq_true rfl⟩ rfl rfl hl.1 (Nat.le_of_ble_eq_true rfl) ⟨Nat.zero_le _, Nat.zero_le _⟩ dX5_playsToWin_61 (fun H locs hW hS => ?_)
          refine lv_iload_n hx hb dX5_playsToWin_64 rfl (lv_at hl 0 rfl) ?_
          obtain ⟨g15, hf⟩ := nz_e hf
          refine lv_irem hx hb dX5_playsToWin_65 g15 ?_
          refine lv_isub hx hb dX5_playsToWin_66 ?_
          cases hf
          exact W.iret hx hb hr (fun u hu _ => ⟨⟨rfl, by rw [hu]; exact hW⟩, hS.F hu⟩) hS.2.2 dX5_playsToWin_67
        · have hf := ifp h12 hf
          refine lv_iconst (v := (-1)) hx hb dX5_playsToWin_53 (by decide) ?_
          refine lv_goto (tgt := 67) hx hb dX5_playsToWin_54 (by decide) ?_
          cases hf
          exact W.iret hx hb hr (fun u hu _ => ⟨⟨rfl, by rw [hu]; exact hW⟩, hS.F hu⟩) hS.2.2 dX5_playsToWin_67
      · have hf := ifn h11 hf
        refine lv_iconst (v := 0) hx hb dX5_playsToWin_45 (by decide) ?_
        refine lv_goto (tgt := 67) hx hb dX5_playsToWin_46 (by decide) ?_
        cases hf
        exact W.iret hx hb hr (fun u hu _ => ⟨⟨rfl, by rw [hu]; exact hW⟩, hS.F hu⟩) hS.2.2 dX5_playsToWin_67
    · have hf := ifn h6 hf
      refine lv_iconst (v := 0) hx hb dX5_playsToWin_24 (by decide) ?_
      refine lv_goto (tgt := 37) hx hb dX5_playsToWin_25 (by decide) ?_
      refine lv_istore_n (lv' := [(2, .int 0), (0, .ref (b + 193)), (1, .int p1)]) hx hb dX5_playsToWin_37 rfl hl (by decide) rfl (fun ls hl => ?_)
      refine lv_aload_n hx hb dX5_playsToWin_38 rfl (lv_at hl 1 rfl) ?_
      refine getM hx hb hta hown hE.1 hW 10 (by decide) q1191 rfl dX5_playsToWin_39 ?_
      refine lv_if_le (tgt := 49) hx hb dX5_playsToWin_42 (by decide) (fun h16 => ?_) (fun h16 => ?_)
      · have hf := ifp h16 hf
        refine lv_iload_n hx hb dX5_playsToWin_49 rfl (lv_at hl 0 rfl) ?_
        refine lv_if_ne (tgt := 57) hx hb dX5_playsToWin_50 (by decide) (fun h17 => absurd h17 (by decide)) (fun h17 => ?_)
        refine lv_iconst (v := (-1)) hx hb dX5_playsToWin_53 (by decide) ?_
        refine lv_goto (tgt := 67) hx hb dX5_playsToWin_54 (by decide) ?_
        cases hf
        exact W.iret hx hb hr (fun u hu _ => ⟨⟨rfl, by rw [hu]; exact hW⟩, hS.F hu⟩) hS.2.2 dX5_playsToWin_67
      · have hf := ifn h16 hf
        refine lv_iconst (v := 0) hx hb dX5_playsToWin_45 (by decide) ?_
        refine lv_goto (tgt := 67) hx hb dX5_playsToWin_46 (by decide) ?_
        cases hf
        exact W.iret hx hb hr (fun u hu _ => ⟨⟨rfl, by rw [hu]; exact hW⟩, hS.F hu⟩) hS.2.2 dX5_playsToWin_67
  · have hf := ifn h3 hf
    refine lv_iconst (v := 0) hx hb dX5_playsToWin_9 (by decide) ?_
    refine lv_goto (tgt := 14) hx hb dX5_playsToWin_10 (by decide) ?_
    refine putX (k := 193) (q := (5, 0)) (ci := 5) (x := 0) inA5 tyX5_ok nmX5 rfl (by decide) rfl hx hb hta hown hE.1 hW hS sh_193 10 (by decide) q1191 rfl rfl rfl (Nat.le_of_ble_eq_true rfl) rfl dX5_playsToWin_14 (fun H locs hW hS => ?_)
    obtain ⟨σ18, e19, hf⟩ := st_e hf
    rw [e19] at hW
    refine lv_aload_n hx hb dX5_playsToWin_17 rfl (lv_at hl 0 rfl) ?_
    refine getM hx hb hta hown hE.1 hW 10 (by decide) q1191 rfl dX5_playsToWin_18 ?_
    refine lv_if_le (tgt := 28) hx hb dX5_playsToWin_21 (by decide) (fun h20 => ?_) (fun h20 => ?_)
    · have hf := ifp h20 hf
      refine lv_aload_n hx hb dX5_playsToWin_28 rfl (lv_at hl 0 rfl) ?_
      refine lv_iload_n hx hb dX5_playsToWin_29 rfl (lv_at hl 1 rfl) ?_
      refine lv_iconst (v := 1) hx hb dX5_playsToWin_30 (by decide) ?_
      obtain ⟨y21, u22, hf⟩ := b1_e hf
      refine mV (k := 193) (q := (5, 0)) (C := RX5) (T := TX5) (N := 14) (ci := 5) (n := 2) (As := [.int p1, .int 1]) (rest := []) (c_X5_its l D t b σ18 p1 1 y21 u22) sh_193 (by decide) rfl rfl hx hb hml hown hts hE hW hS q1252 q1254 q35 q96 q1255 hy_X5_its ⟨rfl, rfl⟩ ⟨Nat.le_of_ble_eq_true rfl, Nat.le_of_ble_eq_true rfl⟩ rfl rfl hl.1 (Nat.le_of_ble_eq_true rfl) ⟨Nat.zero_le _, Nat.zero_le _⟩ dX5_playsToWin_31 (fun H locs hW hS => ?_)
      obtain ⟨y23, u24, hf⟩ := b1_e hf
      refine mS (n := 1) (As := [.int y21]) (rest := []) (c_X5_every l D t b σ18 y21 y23 u24) hx hb hml hown hts hE hW hS q1431 q1432 q96 q1433 hs_X5_every ⟨rfl, rfl⟩ ⟨Nat.le_of_ble_eq_true rfl, Nat.le_of_ble_eq_true rfl⟩ rfl rfl hl.1 (Nat.le_of_ble_eq_true rfl) ⟨Nat.zero_le _, Nat.zero_le _⟩ dX5_playsToWin_34 (fun H locs hW hS => ?_)
      refine lv_istore_n (lv' := [(2, .int y23), (0, .ref (b + 193)), (1, .int p1)]) hx hb dX5_playsToWin_37 rfl hl (by decide) rfl (fun ls hl => ?_)
      refine lv_aload_n hx hb dX5_playsToWin_38 rfl (lv_at hl 1 rfl) ?_
      refine getM hx hb hta hown hE.1 hW 10 (by decide) q1191 rfl dX5_playsToWin_39 ?_
      refine lv_if_le (tgt := 49) hx hb dX5_playsToWin_42 (by decide) (fun h25 => ?_) (fun h25 => ?_)
      · have hf := ifp h25 hf
        refine lv_iload_n hx hb dX5_playsToWin_49 rfl (lv_at hl 0 rfl) ?_
        refine lv_if_ne (tgt := 57) hx hb dX5_playsToWin_50 (by decide) (fun h26 => ?_) (fun h26 => ?_)
        · have hf := ifn h26 hf
          refine lv_iload_n hx hb dX5_playsToWin_57 rfl (lv_at hl 0 rfl) ?_
          refine lv_aload_n hx hb dX5_playsToWin_58 rfl (lv_at hl 1 rfl) ?_
          refine lv_iload_n hx hb dX5_playsToWin_59 rfl (lv_at hl 2 rfl) ?_
          refine lv_iconst (v := 5) hx hb dX5_playsToWin_60 (by decide) ?_
          obtain ⟨y27, u28, hf⟩ := b1_e hf
          refine mV (k := 193) (q := (5, 0)) (C := RX5) (T := TX5) (N := 14) (ci := 5) (n := 2) (As := [.int p1, .int 5]) (rest := [.int y23]) (c_X5_its l D t b σ18 p1 5 y27 u28) sh_193 (by decide) rfl rfl hx hb hml hown hts hE hW hS q1252 q1254 q35 q96 q1255 hy_X5_its ⟨rfl, rfl⟩ ⟨Nat.le_of_ble_eq_true rfl, Nat.le_of_ble_eq_true rfl⟩ rfl rfl hl.1 (Nat.le_of_ble_eq_true rfl) ⟨Nat.zero_le _, Nat.zero_le _⟩ dX5_playsToWin_61 (fun H locs hW hS => ?_)
          refine lv_iload_n hx hb dX5_playsToWin_64 rfl (lv_at hl 0 rfl) ?_
          obtain ⟨g29, hf⟩ := nz_e hf
          refine lv_irem hx hb dX5_playsToWin_65 g29 ?_
          refine lv_isub hx hb dX5_playsToWin_66 ?_
          cases hf
          exact W.iret hx hb hr (fun u hu _ => ⟨⟨rfl, by rw [hu]; exact hW⟩, hS.F hu⟩) hS.2.2 dX5_playsToWin_67
        · have hf := ifp h26 hf
          refine lv_iconst (v := (-1)) hx hb dX5_playsToWin_53 (by decide) ?_
          refine lv_goto (tgt := 67) hx hb dX5_playsToWin_54 (by decide) ?_
          cases hf
          exact W.iret hx hb hr (fun u hu _ => ⟨⟨rfl, by rw [hu]; exact hW⟩, hS.F hu⟩) hS.2.2 dX5_playsToWin_67
      · have hf := ifn h25 hf
        refine lv_iconst (v := 0) hx hb dX5_playsToWin_45 (by decide) ?_
        refine lv_goto (tgt := 67) hx hb dX5_playsToWin_46 (by decide) ?_
        cases hf
        exact W.iret hx hb hr (fun u hu _ => ⟨⟨rfl, by rw [hu]; exact hW⟩, hS.F hu⟩) hS.2.2 dX5_playsToWin_67
    · have hf := ifn h20 hf
      refine lv_iconst (v := 0) hx hb dX5_playsToWin_24 (by decide) ?_
      refine lv_goto (tgt := 37) hx hb dX5_playsToWin_25 (by decide) ?_
      refine lv_istore_n (lv' := [(2, .int 0), (0, .ref (b + 193)), (1, .int p1)]) hx hb dX5_playsToWin_37 rfl hl (by decide) rfl (fun ls hl => ?_)
      refine lv_aload_n hx hb dX5_playsToWin_38 rfl (lv_at hl 1 rfl) ?_
      refine getM hx hb hta hown hE.1 hW 10 (by decide) q1191 rfl dX5_playsToWin_39 ?_
      refine lv_if_le (tgt := 49) hx hb dX5_playsToWin_42 (by decide) (fun h30 => ?_) (fun h30 => ?_)
      · have hf := ifp h30 hf
        refine lv_iload_n hx hb dX5_playsToWin_49 rfl (lv_at hl 0 rfl) ?_
        refine lv_if_ne (tgt := 57) hx hb dX5_playsToWin_50 (by decide) (fun h31 => absurd h31 (by decide)) (fun h31 => ?_)
        refine lv_iconst (v := (-1)) hx hb dX5_playsToWin_53 (by decide) ?_
        refine lv_goto (tgt := 67) hx hb dX5_playsToWin_54 (by decide) ?_
        cases hf
        exact W.iret hx hb hr (fun u hu _ => ⟨⟨rfl, by rw [hu]; exact hW⟩, hS.F hu⟩) hS.2.2 dX5_playsToWin_67
      · have hf := ifn h30 hf
        refine lv_iconst (v := 0) hx hb dX5_playsToWin_45 (by decide) ?_
        refine lv_goto (tgt := 67) hx hb dX5_playsToWin_46 (by decide) ?_
        cases hf
        exact W.iret hx hb hr (fun u hu _ => ⟨⟨rfl, by rw [hu]; exact hW⟩, hS.F hu⟩) hS.2.2 dX5_playsToWin_67
def f_X5_prizesOn (σ : Sg) (p1 : Int32) (p2 : Int32) (p3 : Int32) : Option (Int32 × Sg) := b1 (f_X5_isStall σ p1) fun y1 => if y1 = 0 then (st (u2 σ 193 10 1) fun σ4 => if (σ4 193 10) ≤ 0 then (b1 (f_X5_prizes σ4 p1 p2 p3) fun y7 => some (y7, σ4)) else (some (0, σ4))) else (b1 (f_X5_isFour σ p2) fun y9 => if y9 = 0 then (st (u2 σ 193 10 1) fun σ12 => if (σ12 193 10) ≤ 0 then (b1 (f_X5_prizes σ12 p1 p2 p3) fun y15 => some (y15, σ12)) else (some (0, σ12))) else (b1 (f_X5_isFour σ p3) fun y17 => if y17 = 0 then (st (u2 σ 193 10 1) fun σ20 => if (σ20 193 10) ≤ 0 then (b1 (f_X5_prizes σ20 p1 p2 p3) fun y23 => some (y23, σ20)) else (some (0, σ20))) else (st (u2 σ 193 10 0) fun σ25 => if (σ25 193 10) ≤ 0 then (b1 (f_X5_prizes σ25 p1 p2 p3) fun y28 => some (y28, σ25)) else (some (0, σ25)))))
set_option maxHeartbeats 4000000 in
set_option maxRecDepth 100000 in
theorem c_X5_prizesOn (l : Launch) (D : va_G) (t : Nat → ClassId) (b : Nat) (σ : Sg) (p1 : Int32) (p2 : Int32) (p3 : Int32) (r : Int32) (σr : Sg) (hf : f_X5_prizesOn σ p1 p2 p3 = some (r, σr)) : Met l yX5_prizesOn (Cond.code yX5_prizesOn cX5_prizesOn 4 (some .int) :: ALL) ({ frames := 2, cells := 0, slots := 0, locals := 45 }) (PM D t b σ [.ref (b + 193), .int p1, .int p2, .int p3]) (QG D t b σr (some (.int r))) 0 0 (geA b) := by
  refine Met.ofW (cc := cX5_prizesOn) (maxL := 4) (ret := (some .int)) (by decide) rfl ?_
  intro p e s m args below meth c s₁ B hml hv
  obtain ⟨rfl, hW, hE⟩ := hv
  have hx := B.exec
  have hb := B.bytes
  have hr := B.returns
  have hts := atoms_spec (ws := Cond.code yX5_prizesOn cX5_prizesOn 4 (some .int) :: ALL) B.pre
  have hta := fun w h => hts w (List.mem_cons_of_mem _ h)
  have hown : s.vm.findClass RX5 = some m.cls := findClass_of_methodNamed B.named
  have hlocks := B.notSynchronized
  have hS : va_S (geA b) s.heap s.heap [] := va_S.rf
  have hl := lv_entry ([.ref (b + 193), .int p1, .int p2, .int p3]) (n := 4) (Nat.le_of_ble_eq_true rfl)
  rw [lg_entry_eq]
  generalize (lg_sl ([.ref (b + 193), .int p1, .int p2, .int p3]) ++ List.replicate (4 - (lg_sl ([.ref (b + 193), .int p1, .int p2, .int p3])).length) Slot.unset).toArray = ls at hl ⊢
  have hl : lv_has ls 4 [(0, .ref (b + 193)), (1, .int p1), (2, .int p2), (3, .int p3)] := hl
  unfold f_X5_prizesOn at hf
  refine lv_aload_n hx hb dX5_prizesOn_0 rfl (lv_at hl 0 rfl) ?_
  refine lv_aload_n hx hb dX5_prizesOn_1 rfl (lv_at hl 0 rfl) ?_
  refine lv_iload_n hx hb dX5_prizesOn_2 rfl (lv_at hl 1 rfl) ?_
  obtain ⟨y1, u2, hf⟩ := b1_e hf
  refine mV (k := 193) (q := (5, 0)) (C := RX5) (T := TX5) (N := 14) (ci := 5) (n := 1) (As := [.int p1]) (rest := [.ref (b + 193)]) (c_X5_isStall l D t b σ p1 y1 u2) sh_193 (by decide) rfl rfl hx hb hml hown hts hE hW hS q1279 q1281 q40 q96 q1282 hy_X5_isStall ⟨rfl, rfl⟩ ⟨Nat.le_of_ble_eq_true rfl, Nat.le_of_ble_eq_true rfl⟩ rfl rfl hl.1 (Nat.le_of_ble_eq_true rfl) ⟨Nat.zero_le _, Nat.zero_le _⟩ dX5_prizesOn_3 (fun H locs hW hS => ?_)
  refine lv_if_eq (tgt := 27) hx hb dX5_prizesOn_6 (by decide) (fun h3 => ?_) (fun h3 => ?_)
  · have hf := ifp h3 hf
    refine lv_iconst (v := 1) hx hb dX5_prizesOn_27 (by decide) ?_
    refine putX (k := 193) (q := (5, 0)) (ci := 5) (x := 1) inA5 tyX5_ok nmX5 rfl (by decide) rfl hx hb hta hown hE.1 hW hS sh_193 10 (by decide) q1191 rfl rfl rfl (Nat.le_of_ble_eq_true rfl) rfl dX5_prizesOn_28 (fun H locs hW hS => ?_)
    obtain ⟨σ4, e5, hf⟩ := st_e hf
    rw [e5] at hW
    refine lv_aload_n hx hb dX5_prizesOn_31 rfl (lv_at hl 0 rfl) ?_
    refine getM hx hb hta hown hE.1 hW 10 (by decide) q1191 rfl dX5_prizesOn_32 ?_
    refine lv_if_le (tgt := 42) hx hb dX5_prizesOn_35 (by decide) (fun h6 => ?_) (fun h6 => ?_)
    · have hf := ifp h6 hf
      refine lv_aload_n hx hb dX5_prizesOn_42 rfl (lv_at hl 0 rfl) ?_
      refine lv_iload_n hx hb dX5_prizesOn_43 rfl (lv_at hl 1 rfl) ?_
      refine lv_iload_n hx hb dX5_prizesOn_44 rfl (lv_at hl 2 rfl) ?_
      refine lv_iload_n hx hb dX5_prizesOn_45 rfl (lv_at hl 3 rfl) ?_
      obtain ⟨y7, u8, hf⟩ := b1_e hf
      refine mV (k := 193) (q := (5, 0)) (C := RX5) (T := TX5) (N := 14) (ci := 5) (n := 3) (As := [.int p1, .int p2, .int p3]) (rest := []) (c_X5_prizes l D t b σ4 p1 p2 p3 y7 u8) sh_193 (by decide) rfl rfl hx hb hml hown hts hE hW hS q1313 q1315 q44 q96 q1316 hy_X5_prizes ⟨rfl, rfl⟩ ⟨Nat.le_of_ble_eq_true rfl, Nat.le_of_ble_eq_true rfl⟩ rfl rfl hl.1 (Nat.le_of_ble_eq_true rfl) ⟨Nat.zero_le _, Nat.zero_le _⟩ dX5_prizesOn_46 (fun H locs hW hS => ?_)
      cases hf
      exact W.iret hx hb hr (fun u hu _ => ⟨⟨rfl, by rw [hu]; exact hW⟩, hS.F hu⟩) hS.2.2 dX5_prizesOn_49
    · have hf := ifn h6 hf
      refine lv_iconst (v := 0) hx hb dX5_prizesOn_38 (by decide) ?_
      refine lv_goto (tgt := 49) hx hb dX5_prizesOn_39 (by decide) ?_
      cases hf
      exact W.iret hx hb hr (fun u hu _ => ⟨⟨rfl, by rw [hu]; exact hW⟩, hS.F hu⟩) hS.2.2 dX5_prizesOn_49
  · have hf := ifn h3 hf
    refine lv_iload_n hx hb dX5_prizesOn_9 rfl (lv_at hl 2 rfl) ?_
    obtain ⟨y9, u10, hf⟩ := b1_e hf
    refine mS (n := 1) (As := [.int p2]) (rest := [.ref (b + 193)]) (c_X5_isFour l D t b σ p2 y9 u10) hx hb hml hown hts hE hW hS q1299 q1300 q96 q1301 hs_X5_isFour ⟨rfl, rfl⟩ ⟨Nat.le_of_ble_eq_true rfl, Nat.le_of_ble_eq_true rfl⟩ rfl rfl hl.1 (Nat.le_of_ble_eq_true rfl) ⟨Nat.zero_le _, Nat.zero_le _⟩ dX5_prizesOn_10 (fun H locs hW hS => ?_)
    refine lv_if_eq (tgt := 27) hx hb dX5_prizesOn_13 (by decide) (fun h11 => ?_) (fun h11 => ?_)
    · have hf := ifp h11 hf
      refine lv_iconst (v := 1) hx hb dX5_prizesOn_27 (by decide) ?_
      refine putX (k := 193) (q := (5, 0)) (ci := 5) (x := 1) inA5 tyX5_ok nmX5 rfl (by decide) rfl hx hb hta hown hE.1 hW hS sh_193 10 (by decide) q1191 rfl rfl rfl (Nat.le_of_ble_eq_true rfl) rfl dX5_prizesOn_28 (fun H locs hW hS => ?_)
      obtain ⟨σ12, e13, hf⟩ := st_e hf
      rw [e13] at hW
      refine lv_aload_n hx hb dX5_prizesOn_31 rfl (lv_at hl 0 rfl) ?_
      refine getM hx hb hta hown hE.1 hW 10 (by decide) q1191 rfl dX5_prizesOn_32 ?_
      refine lv_if_le (tgt := 42) hx hb dX5_prizesOn_35 (by decide) (fun h14 => ?_) (fun h14 => ?_)
      · have hf := ifp h14 hf
        refine lv_aload_n hx hb dX5_prizesOn_42 rfl (lv_at hl 0 rfl) ?_
        refine lv_iload_n hx hb dX5_prizesOn_43 rfl (lv_at hl 1 rfl) ?_
        refine lv_iload_n hx hb dX5_prizesOn_44 rfl (lv_at hl 2 rfl) ?_
        refine lv_iload_n hx hb dX5_prizesOn_45 rfl (lv_at hl 3 rfl) ?_
        obtain ⟨y15, u16, hf⟩ := b1_e hf
        refine mV (k := 193) (q := (5, 0)) (C := RX5) (T := TX5) (N := 14) (ci := 5) (n := 3) (As := [.int p1, .int p2, .int p3]) (rest := []) (c_X5_prizes l D t b σ12 p1 p2 p3 y15 u16) sh_193 (by decide) rfl rfl hx hb hml hown hts hE hW hS q1313 q1315 q44 q96 q1316 hy_X5_prizes ⟨rfl, rfl⟩ ⟨Nat.le_of_ble_eq_true rfl, Nat.le_of_ble_eq_true rfl⟩ rfl rfl hl.1 (Nat.le_of_ble_eq_true rfl) ⟨Nat.zero_le _, Nat.zero_le _⟩ dX5_prizesOn_46 (fun H locs hW hS => ?_)
        cases hf
        exact W.iret hx hb hr (fun u hu _ => ⟨⟨rfl, by rw [hu]; exact hW⟩, hS.F hu⟩) hS.2.2 dX5_prizesOn_49
      · have hf := ifn h14 hf
        refine lv_iconst (v := 0) hx hb dX5_prizesOn_38 (by decide) ?_
        refine lv_goto (tgt := 49) hx hb dX5_prizesOn_39 (by decide) ?_
        cases hf
        exact W.iret hx hb hr (fun u hu _ => ⟨⟨rfl, by rw [hu]; exact hW⟩, hS.F hu⟩) hS.2.2 dX5_prizesOn_49
    · have hf := ifn h11 hf
      refine lv_iload_n hx hb dX5_prizesOn_16 rfl (lv_at hl 3 rfl) ?_
      obtain ⟨y17, u18, hf⟩ := b1_e hf
      refine mS (n := 1) (As := [.int p3]) (rest := [.ref (b + 193)]) (c_X5_isFour l D t b σ p3 y17 u18) hx hb hml hown hts hE hW hS q1299 q1300 q96 q1301 hs_X5_isFour ⟨rfl, rfl⟩ ⟨Nat.le_of_ble_eq_true rfl, Nat.le_of_ble_eq_true rfl⟩ rfl rfl hl.1 (Nat.le_of_ble_eq_true rfl) ⟨Nat.zero_le _, Nat.zero_le _⟩ dX5_prizesOn_17 (fun H locs hW hS => ?_)
      refine lv_if_eq (tgt := 27) hx hb dX5_prizesOn_20 (by decide) (fun h19 => ?_) (fun h19 => ?_)
      · have hf := ifp h19 hf
        refine lv_iconst (v := 1) hx hb dX5_prizesOn_27 (by decide) ?_
        refine putX (k := 193) (q := (5, 0)) (ci := 5) (x := 1) inA5 tyX5_ok nmX5 rfl (by decide) rfl hx hb hta hown hE.1 hW hS sh_193 10 (by decide) q1191 rfl rfl rfl (Nat.le_of_ble_eq_true rfl) rfl dX5_prizesOn_28 (fun H locs hW hS => ?_)
        obtain ⟨σ20, e21, hf⟩ := st_e hf
        rw [e21] at hW
        refine lv_aload_n hx hb dX5_prizesOn_31 rfl (lv_at hl 0 rfl) ?_
        refine getM hx hb hta hown hE.1 hW 10 (by decide) q1191 rfl dX5_prizesOn_32 ?_
        refine lv_if_le (tgt := 42) hx hb dX5_prizesOn_35 (by decide) (fun h22 => ?_) (fun h22 => ?_)
        · have hf := ifp h22 hf
          refine lv_aload_n hx hb dX5_prizesOn_42 rfl (lv_at hl 0 rfl) ?_
          refine lv_iload_n hx hb dX5_prizesOn_43 rfl (lv_at hl 1 rfl) ?_
          refine lv_iload_n hx hb dX5_prizesOn_44 rfl (lv_at hl 2 rfl) ?_
          refine lv_iload_n hx hb dX5_prizesOn_45 rfl (lv_at hl 3 rfl) ?_
          obtain ⟨y23, u24, hf⟩ := b1_e hf
          refine mV (k := 193) (q := (5, 0)) (C := RX5) (T := TX5) (N := 14) (ci := 5) (n := 3) (As := [.int p1, .int p2, .int p3]) (rest := []) (c_X5_prizes l D t b σ20 p1 p2 p3 y23 u24) sh_193 (by decide) rfl rfl hx hb hml hown hts hE hW hS q1313 q1315 q44 q96 q1316 hy_X5_prizes ⟨rfl, rfl⟩ ⟨Nat.le_of_ble_eq_true rfl, Nat.le_of_ble_eq_true rfl⟩ rfl rfl hl.1 (Nat.le_of_ble_eq_true rfl) ⟨Nat.zero_le _, Nat.zero_le _⟩ dX5_prizesOn_46 (fun H locs hW hS => ?_)
          cases hf
          exact W.iret hx hb hr (fun u hu _ => ⟨⟨rfl, by rw [hu]; exact hW⟩, hS.F hu⟩) hS.2.2 dX5_prizesOn_49
        · have hf := ifn h22 hf
          refine lv_iconst (v := 0) hx hb dX5_prizesOn_38 (by decide) ?_
          refine lv_goto (tgt := 49) hx hb dX5_prizesOn_39 (by decide) ?_
          cases hf
          exact W.iret hx hb hr (fun u hu _ => ⟨⟨rfl, by rw [hu]; exact hW⟩, hS.F hu⟩) hS.2.2 dX5_prizesOn_49
      · have hf := ifn h19 hf
        refine lv_iconst (v := 0) hx hb dX5_prizesOn_23 (by decide) ?_
        refine lv_goto (tgt := 28) hx hb dX5_prizesOn_24 (by decide) ?_
        refine putX (k := 193) (q := (5, 0)) (ci := 5) (x := 0) inA5 tyX5_ok nmX5 rfl (by decide) rfl hx hb hta hown hE.1 hW hS sh_193 10 (by decide) q1191 rfl rfl rfl (Nat.le_of_ble_eq_true rfl) rfl dX5_prizesOn_28 (fun H locs hW hS => ?_)
        obtain ⟨σ25, e26, hf⟩ := st_e hf
        rw [e26] at hW
        refine lv_aload_n hx hb dX5_prizesOn_31 rfl (lv_at hl 0 rfl) ?_
        refine getM hx hb hta hown hE.1 hW 10 (by decide) q1191 rfl dX5_prizesOn_32 ?_
        refine lv_if_le (tgt := 42) hx hb dX5_prizesOn_35 (by decide) (fun h27 => ?_) (fun h27 => ?_)
        · have hf := ifp h27 hf
          refine lv_aload_n hx hb dX5_prizesOn_42 rfl (lv_at hl 0 rfl) ?_
          refine lv_iload_n hx hb dX5_prizesOn_43 rfl (lv_at hl 1 rfl) ?_
          refine lv_iload_n hx hb dX5_prizesOn_44 rfl (lv_at hl 2 rfl) ?_
          refine lv_iload_n hx hb dX5_prizesOn_45 rfl (lv_at hl 3 rfl) ?_
          obtain ⟨y28, u29, hf⟩ := b1_e hf
          refine mV (k := 193) (q := (5, 0)) (C := RX5) (T := TX5) (N := 14) (ci := 5) (n := 3) (As := [.int p1, .int p2, .int p3]) (rest := []) (c_X5_prizes l D t b σ25 p1 p2 p3 y28 u29) sh_193 (by decide) rfl rfl hx hb hml hown hts hE hW hS q1313 q1315 q44 q96 q1316 hy_X5_prizes ⟨rfl, rfl⟩ ⟨Nat.le_of_ble_eq_true rfl, Nat.le_of_ble_eq_true rfl⟩ rfl rfl hl.1 (Nat.le_of_ble_eq_true rfl) ⟨Nat.zero_le _, Nat.zero_le _⟩ dX5_prizesOn_46 (fun H locs hW hS => ?_)
          cases hf
          exact W.iret hx hb hr (fun u hu _ => ⟨⟨rfl, by rw [hu]; exact hW⟩, hS.F hu⟩) hS.2.2 dX5_prizesOn_49
        · have hf := ifn h27 hf
          refine lv_iconst (v := 0) hx hb dX5_prizesOn_38 (by decide) ?_
          refine lv_goto (tgt := 49) hx hb dX5_prizesOn_39 (by decide) ?_
          cases hf
          exact W.iret hx hb hr (fun u hu _ => ⟨⟨rfl, by rw [hu]; exact hW⟩, hS.F hu⟩) hS.2.2 dX5_prizesOn_49
def f_X5_shelfOf (σ : Sg) (p1 : Int32) : Option (Int32 × Sg) := b1 (f_X5_isStall σ p1) fun y1 => if y1 = 0 then (st (u2 σ 193 10 1) fun σ4 => if (σ4 193 10) ≤ 0 then (b1 (f_X5_onShelf σ4 p1) fun y7 => some (y7, σ4)) else (some (0, σ4))) else (st (u2 σ 193 10 0) fun σ9 => if (σ9 193 10) ≤ 0 then (b1 (f_X5_onShelf σ9 p1) fun y12 => some (y12, σ9)) else (some (0, σ9)))
set_option maxHeartbeats 4000000 in
set_option maxRecDepth 100000 in
theorem c_X5_shelfOf (l : Launch) (D : va_G) (t : Nat → ClassId) (b : Nat) (σ : Sg) (p1 : Int32) (r : Int32) (σr : Sg) (hf : f_X5_shelfOf σ p1 = some (r, σr)) : Met l yX5_shelfOf (Cond.code yX5_shelfOf cX5_shelfOf 2 (some .int) :: ALL) ({ frames := 2, cells := 0, slots := 0, locals := 45 }) (PM D t b σ [.ref (b + 193), .int p1]) (QG D t b σr (some (.int r))) 0 0 (geA b) := by
  refine Met.ofW (cc := cX5_shelfOf) (maxL := 2) (ret := (some .int)) (by decide) rfl ?_
  intro p e s m args below meth c s₁ B hml hv
  obtain ⟨rfl, hW, hE⟩ := hv
  have hx := B.exec
  have hb := B.bytes
  have hr := B.returns
  have hts := atoms_spec (ws := Cond.code yX5_shelfOf cX5_shelfOf 2 (some .int) :: ALL) B.pre
  have hta := fun w h => hts w (List.mem_cons_of_mem _ h)
  have hown : s.vm.findClass RX5 = some m.cls := findClass_of_methodNamed B.named
  have hlocks := B.notSynchronized
  have hS : va_S (geA b) s.heap s.heap [] := va_S.rf
  have hl := lv_entry ([.ref (b + 193), .int p1]) (n := 2) (Nat.le_of_ble_eq_true rfl)
  rw [lg_entry_eq]
  generalize (lg_sl ([.ref (b + 193), .int p1]) ++ List.replicate (2 - (lg_sl ([.ref (b + 193), .int p1])).length) Slot.unset).toArray = ls at hl ⊢
  have hl : lv_has ls 2 [(0, .ref (b + 193)), (1, .int p1)] := hl
  unfold f_X5_shelfOf at hf
  refine lv_aload_n hx hb dX5_shelfOf_0 rfl (lv_at hl 0 rfl) ?_
  refine lv_aload_n hx hb dX5_shelfOf_1 rfl (lv_at hl 0 rfl) ?_
  refine lv_iload_n hx hb dX5_shelfOf_2 rfl (lv_at hl 1 rfl) ?_
  obtain ⟨y1, u2, hf⟩ := b1_e hf
  refine mV (k := 193) (q := (5, 0)) (C := RX5) (T := TX5) (N := 14) (ci := 5) (n := 1) (As := [.int p1]) (rest := [.ref (b + 193)]) (c_X5_isStall l D t b σ p1 y1 u2) sh_193 (by decide) rfl rfl hx hb hml hown hts hE hW hS q1279 q1281 q40 q96 q1282 hy_X5_isStall ⟨rfl, rfl⟩ ⟨Nat.le_of_ble_eq_true rfl, Nat.le_of_ble_eq_true rfl⟩ rfl rfl hl.1 (Nat.le_of_ble_eq_true rfl) ⟨Nat.zero_le _, Nat.zero_le _⟩ dX5_shelfOf_3 (fun H locs hW hS => ?_)
  refine lv_if_eq (tgt := 13) hx hb dX5_shelfOf_6 (by decide) (fun h3 => ?_) (fun h3 => ?_)
  · have hf := ifp h3 hf
    refine lv_iconst (v := 1) hx hb dX5_shelfOf_13 (by decide) ?_
    refine putX (k := 193) (q := (5, 0)) (ci := 5) (x := 1) inA5 tyX5_ok nmX5 rfl (by decide) rfl hx hb hta hown hE.1 hW hS sh_193 10 (by decide) q1191 rfl rfl rfl (Nat.le_of_ble_eq_true rfl) rfl dX5_shelfOf_14 (fun H locs hW hS => ?_)
    obtain ⟨σ4, e5, hf⟩ := st_e hf
    rw [e5] at hW
    refine lv_aload_n hx hb dX5_shelfOf_17 rfl (lv_at hl 0 rfl) ?_
    refine getM hx hb hta hown hE.1 hW 10 (by decide) q1191 rfl dX5_shelfOf_18 ?_
    refine lv_if_le (tgt := 28) hx hb dX5_shelfOf_21 (by decide) (fun h6 => ?_) (fun h6 => ?_)
    · have hf := ifp h6 hf
      refine lv_aload_n hx hb dX5_shelfOf_28 rfl (lv_at hl 0 rfl) ?_
      refine lv_iload_n hx hb dX5_shelfOf_29 rfl (lv_at hl 1 rfl) ?_
      obtain ⟨y7, u8, hf⟩ := b1_e hf
      refine mV (k := 193) (q := (5, 0)) (C := RX5) (T := TX5) (N := 14) (ci := 5) (n := 1) (As := [.int p1]) (rest := []) (c_X5_onShelf l D t b σ4 p1 y7 u8) sh_193 (by decide) rfl rfl hx hb hml hown hts hE hW hS q1302 q1304 q42 q96 q1305 hy_X5_onShelf ⟨rfl, rfl⟩ ⟨Nat.le_of_ble_eq_true rfl, Nat.le_of_ble_eq_true rfl⟩ rfl rfl hl.1 (Nat.le_of_ble_eq_true rfl) ⟨Nat.zero_le _, Nat.zero_le _⟩ dX5_shelfOf_30 (fun H locs hW hS => ?_)
      cases hf
      exact W.iret hx hb hr (fun u hu _ => ⟨⟨rfl, by rw [hu]; exact hW⟩, hS.F hu⟩) hS.2.2 dX5_shelfOf_33
    · have hf := ifn h6 hf
      refine lv_iconst (v := 0) hx hb dX5_shelfOf_24 (by decide) ?_
      refine lv_goto (tgt := 33) hx hb dX5_shelfOf_25 (by decide) ?_
      cases hf
      exact W.iret hx hb hr (fun u hu _ => ⟨⟨rfl, by rw [hu]; exact hW⟩, hS.F hu⟩) hS.2.2 dX5_shelfOf_33
  · have hf := ifn h3 hf
    refine lv_iconst (v := 0) hx hb dX5_shelfOf_9 (by decide) ?_
    refine lv_goto (tgt := 14) hx hb dX5_shelfOf_10 (by decide) ?_
    refine putX (k := 193) (q := (5, 0)) (ci := 5) (x := 0) inA5 tyX5_ok nmX5 rfl (by decide) rfl hx hb hta hown hE.1 hW hS sh_193 10 (by decide) q1191 rfl rfl rfl (Nat.le_of_ble_eq_true rfl) rfl dX5_shelfOf_14 (fun H locs hW hS => ?_)
    obtain ⟨σ9, e10, hf⟩ := st_e hf
    rw [e10] at hW
    refine lv_aload_n hx hb dX5_shelfOf_17 rfl (lv_at hl 0 rfl) ?_
    refine getM hx hb hta hown hE.1 hW 10 (by decide) q1191 rfl dX5_shelfOf_18 ?_
    refine lv_if_le (tgt := 28) hx hb dX5_shelfOf_21 (by decide) (fun h11 => ?_) (fun h11 => ?_)
    · have hf := ifp h11 hf
      refine lv_aload_n hx hb dX5_shelfOf_28 rfl (lv_at hl 0 rfl) ?_
      refine lv_iload_n hx hb dX5_shelfOf_29 rfl (lv_at hl 1 rfl) ?_
      obtain ⟨y12, u13, hf⟩ := b1_e hf
      refine mV (k := 193) (q := (5, 0)) (C := RX5) (T := TX5) (N := 14) (ci := 5) (n := 1) (As := [.int p1]) (rest := []) (c_X5_onShelf l D t b σ9 p1 y12 u13) sh_193 (by decide) rfl rfl hx hb hml hown hts hE hW hS q1302 q1304 q42 q96 q1305 hy_X5_onShelf ⟨rfl, rfl⟩ ⟨Nat.le_of_ble_eq_true rfl, Nat.le_of_ble_eq_true rfl⟩ rfl rfl hl.1 (Nat.le_of_ble_eq_true rfl) ⟨Nat.zero_le _, Nat.zero_le _⟩ dX5_shelfOf_30 (fun H locs hW hS => ?_)
      cases hf
      exact W.iret hx hb hr (fun u hu _ => ⟨⟨rfl, by rw [hu]; exact hW⟩, hS.F hu⟩) hS.2.2 dX5_shelfOf_33
    · have hf := ifn h11 hf
      refine lv_iconst (v := 0) hx hb dX5_shelfOf_24 (by decide) ?_
      refine lv_goto (tgt := 33) hx hb dX5_shelfOf_25 (by decide) ?_
      cases hf
      exact W.iret hx hb hr (fun u hu _ => ⟨⟨rfl, by rw [hu]; exact hW⟩, hS.F hu⟩) hS.2.2 dX5_shelfOf_33
def f_X5_levelToWin (σ : Sg) (p1 : Int32) : Option (Int32 × Sg) := b1 (f_X5_isStall σ p1) fun y1 => if y1 = 0 then (st (u2 σ 193 10 1) fun σ4 => if (σ4 193 10) ≤ 0 then (b1 (f_X5_bestLevel σ4 p1) fun y7 => some (y7, σ4)) else (some (0, σ4))) else (st (u2 σ 193 10 0) fun σ9 => if (σ9 193 10) ≤ 0 then (b1 (f_X5_bestLevel σ9 p1) fun y12 => some (y12, σ9)) else (some (0, σ9)))
set_option maxHeartbeats 4000000 in
set_option maxRecDepth 100000 in
theorem c_X5_levelToWin (l : Launch) (D : va_G) (t : Nat → ClassId) (b : Nat) (σ : Sg) (p1 : Int32) (r : Int32) (σr : Sg) (hf : f_X5_levelToWin σ p1 = some (r, σr)) : Met l yX5_levelToWin (Cond.code yX5_levelToWin cX5_levelToWin 2 (some .int) :: ALL) ({ frames := 4, cells := 0, slots := 0, locals := 89 }) (PM D t b σ [.ref (b + 193), .int p1]) (QG D t b σr (some (.int r))) 0 0 (geA b) := by
  refine Met.ofW (cc := cX5_levelToWin) (maxL := 2) (ret := (some .int)) (by decide) rfl ?_
  intro p e s m args below meth c s₁ B hml hv
  obtain ⟨rfl, hW, hE⟩ := hv
  have hx := B.exec
  have hb := B.bytes
  have hr := B.returns
  have hts := atoms_spec (ws := Cond.code yX5_levelToWin cX5_levelToWin 2 (some .int) :: ALL) B.pre
  have hta := fun w h => hts w (List.mem_cons_of_mem _ h)
  have hown : s.vm.findClass RX5 = some m.cls := findClass_of_methodNamed B.named
  have hlocks := B.notSynchronized
  have hS : va_S (geA b) s.heap s.heap [] := va_S.rf
  have hl := lv_entry ([.ref (b + 193), .int p1]) (n := 2) (Nat.le_of_ble_eq_true rfl)
  rw [lg_entry_eq]
  generalize (lg_sl ([.ref (b + 193), .int p1]) ++ List.replicate (2 - (lg_sl ([.ref (b + 193), .int p1])).length) Slot.unset).toArray = ls at hl ⊢
  have hl : lv_has ls 2 [(0, .ref (b + 193)), (1, .int p1)] := hl
  unfold f_X5_levelToWin at hf
  refine lv_aload_n hx hb dX5_levelToWin_0 rfl (lv_at hl 0 rfl) ?_
  refine lv_aload_n hx hb dX5_levelToWin_1 rfl (lv_at hl 0 rfl) ?_
  refine lv_iload_n hx hb dX5_levelToWin_2 rfl (lv_at hl 1 rfl) ?_
  obtain ⟨y1, u2, hf⟩ := b1_e hf
  refine mV (k := 193) (q := (5, 0)) (C := RX5) (T := TX5) (N := 14) (ci := 5) (n := 1) (As := [.int p1]) (rest := [.ref (b + 193)]) (c_X5_isStall l D t b σ p1 y1 u2) sh_193 (by decide) rfl rfl hx hb hml hown hts hE hW hS q1279 q1281 q40 q96 q1282 hy_X5_isStall ⟨rfl, rfl⟩ ⟨Nat.le_of_ble_eq_true rfl, Nat.le_of_ble_eq_true rfl⟩ rfl rfl hl.1 (Nat.le_of_ble_eq_true rfl) ⟨Nat.zero_le _, Nat.zero_le _⟩ dX5_levelToWin_3 (fun H locs hW hS => ?_)
  refine lv_if_eq (tgt := 13) hx hb dX5_levelToWin_6 (by decide) (fun h3 => ?_) (fun h3 => ?_)
  · have hf := ifp h3 hf
    refine lv_iconst (v := 1) hx hb dX5_levelToWin_13 (by decide) ?_
    refine putX (k := 193) (q := (5, 0)) (ci := 5) (x := 1) inA5 tyX5_ok nmX5 rfl (by decide) rfl hx hb hta hown hE.1 hW hS sh_193 10 (by decide) q1191 rfl rfl rfl (Nat.le_of_ble_eq_true rfl) rfl dX5_levelToWin_14 (fun H locs hW hS => ?_)
    obtain ⟨σ4, e5, hf⟩ := st_e hf
    rw [e5] at hW
    refine lv_aload_n hx hb dX5_levelToWin_17 rfl (lv_at hl 0 rfl) ?_
    refine getM hx hb hta hown hE.1 hW 10 (by decide) q1191 rfl dX5_levelToWin_18 ?_
    refine lv_if_le (tgt := 28) hx hb dX5_levelToWin_21 (by decide) (fun h6 => ?_) (fun h6 => ?_)
    · have hf := ifp h6 hf
      refine lv_aload_n hx hb dX5_levelToWin_28 rfl (lv_at hl 0 rfl) ?_
      refine lv_iload_n hx hb dX5_levelToWin_29 rfl (lv_at hl 1 rfl) ?_
      obtain ⟨y7, u8, hf⟩ := b1_e hf
      refine mV (k := 193) (q := (5, 0)) (C := RX5) (T := TX5) (N := 14) (ci := 5) (n := 1) (As := [.int p1]) (rest := []) (c_X5_bestLevel l D t b σ4 p1 y7 u8) sh_193 (by decide) rfl rfl hx hb hml hown hts hE hW hS q1434 q1436 q67 q96 q1437 hy_X5_bestLevel ⟨rfl, rfl⟩ ⟨Nat.le_of_ble_eq_true rfl, Nat.le_of_ble_eq_true rfl⟩ rfl rfl hl.1 (Nat.le_of_ble_eq_true rfl) ⟨Nat.zero_le _, Nat.zero_le _⟩ dX5_levelToWin_30 (fun H locs hW hS => ?_)
      cases hf
      exact W.iret hx hb hr (fun u hu _ => ⟨⟨rfl, by rw [hu]; exact hW⟩, hS.F hu⟩) hS.2.2 dX5_levelToWin_33
    · have hf := ifn h6 hf
      refine lv_iconst (v := 0) hx hb dX5_levelToWin_24 (by decide) ?_
      refine lv_goto (tgt := 33) hx hb dX5_levelToWin_25 (by decide) ?_
      cases hf
      exact W.iret hx hb hr (fun u hu _ => ⟨⟨rfl, by rw [hu]; exact hW⟩, hS.F hu⟩) hS.2.2 dX5_levelToWin_33
  · have hf := ifn h3 hf
    refine lv_iconst (v := 0) hx hb dX5_levelToWin_9 (by decide) ?_
    refine lv_goto (tgt := 14) hx hb dX5_levelToWin_10 (by decide) ?_
    refine putX (k := 193) (q := (5, 0)) (ci := 5) (x := 0) inA5 tyX5_ok nmX5 rfl (by decide) rfl hx hb hta hown hE.1 hW hS sh_193 10 (by decide) q1191 rfl rfl rfl (Nat.le_of_ble_eq_true rfl) rfl dX5_levelToWin_14 (fun H locs hW hS => ?_)
    obtain ⟨σ9, e10, hf⟩ := st_e hf
    rw [e10] at hW
    refine lv_aload_n hx hb dX5_levelToWin_17 rfl (lv_at hl 0 rfl) ?_
    refine getM hx hb hta hown hE.1 hW 10 (by decide) q1191 rfl dX5_levelToWin_18 ?_
    refine lv_if_le (tgt := 28) hx hb dX5_levelToWin_21 (by decide) (fun h11 => ?_) (fun h11 => ?_)
    · have hf := ifp h11 hf
      refine lv_aload_n hx hb dX5_levelToWin_28 rfl (lv_at hl 0 rfl) ?_
      refine lv_iload_n hx hb dX5_levelToWin_29 rfl (lv_at hl 1 rfl) ?_
      obtain ⟨y12, u13, hf⟩ := b1_e hf
      refine mV (k := 193) (q := (5, 0)) (C := RX5) (T := TX5) (N := 14) (ci := 5) (n := 1) (As := [.int p1]) (rest := []) (c_X5_bestLevel l D t b σ9 p1 y12 u13) sh_193 (by decide) rfl rfl hx hb hml hown hts hE hW hS q1434 q1436 q67 q96 q1437 hy_X5_bestLevel ⟨rfl, rfl⟩ ⟨Nat.le_of_ble_eq_true rfl, Nat.le_of_ble_eq_true rfl⟩ rfl rfl hl.1 (Nat.le_of_ble_eq_true rfl) ⟨Nat.zero_le _, Nat.zero_le _⟩ dX5_levelToWin_30 (fun H locs hW hS => ?_)
      cases hf
      exact W.iret hx hb hr (fun u hu _ => ⟨⟨rfl, by rw [hu]; exact hW⟩, hS.F hu⟩) hS.2.2 dX5_levelToWin_33
    · have hf := ifn h11 hf
      refine lv_iconst (v := 0) hx hb dX5_levelToWin_24 (by decide) ?_
      refine lv_goto (tgt := 33) hx hb dX5_levelToWin_25 (by decide) ?_
      cases hf
      exact W.iret hx hb hr (fun u hu _ => ⟨⟨rfl, by rw [hu]; exact hW⟩, hS.F hu⟩) hS.2.2 dX5_levelToWin_33
def f_X5_wonOf (σ : Sg) (p1 : Int32) : Option (Int32 × Sg) := b1 (f_X5_isFour σ p1) fun y1 => if y1 = 0 then (st (u2 σ 193 10 1) fun σ4 => if (σ4 193 10) ≤ 0 then (gd (10 + p1) 1785 (some ((σ4 194 ((10 + p1)).toNatClampNeg), σ4))) else (some (0, σ4))) else (st (u2 σ 193 10 0) fun σ8 => if (σ8 193 10) ≤ 0 then (gd (10 + p1) 1785 (some ((σ8 194 ((10 + p1)).toNatClampNeg), σ8))) else (some (0, σ8)))
set_option maxHeartbeats 4000000 in
set_option maxRecDepth 100000 in
theorem c_X5_wonOf (l : Launch) (D : va_G) (t : Nat → ClassId) (b : Nat) (σ : Sg) (p1 : Int32) (r : Int32) (σr : Sg) (hf : f_X5_wonOf σ p1 = some (r, σr)) : Met l yX5_wonOf (Cond.code yX5_wonOf cX5_wonOf 2 (some .int) :: ALL) ({ frames := 2, cells := 0, slots := 0, locals := 42 }) (PM D t b σ [.ref (b + 193), .int p1]) (QG D t b σr (some (.int r))) 0 0 (geA b) := by
  refine Met.ofW (cc := cX5_wonOf) (maxL := 2) (ret := (some .int)) (by decide) rfl ?_
  intro p e s m args below meth c s₁ B hml hv
  obtain ⟨rfl, hW, hE⟩ := hv
  have hx := B.exec
  have hb := B.bytes
  have hr := B.returns
  have hts := atoms_spec (ws := Cond.code yX5_wonOf cX5_wonOf 2 (some .int) :: ALL) B.pre
  have hta := fun w h => hts w (List.mem_cons_of_mem _ h)
  have hown : s.vm.findClass RX5 = some m.cls := findClass_of_methodNamed B.named
  have hlocks := B.notSynchronized
  have hS : va_S (geA b) s.heap s.heap [] := va_S.rf
  have hl := lv_entry ([.ref (b + 193), .int p1]) (n := 2) (Nat.le_of_ble_eq_true rfl)
  rw [lg_entry_eq]
  generalize (lg_sl ([.ref (b + 193), .int p1]) ++ List.replicate (2 - (lg_sl ([.ref (b + 193), .int p1])).length) Slot.unset).toArray = ls at hl ⊢
  have hl : lv_has ls 2 [(0, .ref (b + 193)), (1, .int p1)] := hl
  unfold f_X5_wonOf at hf
  refine lv_aload_n hx hb dX5_wonOf_0 rfl (lv_at hl 0 rfl) ?_
  refine lv_iload_n hx hb dX5_wonOf_1 rfl (lv_at hl 1 rfl) ?_
  obtain ⟨y1, u2, hf⟩ := b1_e hf
  refine mS (n := 1) (As := [.int p1]) (rest := [.ref (b + 193)]) (c_X5_isFour l D t b σ p1 y1 u2) hx hb hml hown hts hE hW hS q1299 q1300 q96 q1301 hs_X5_isFour ⟨rfl, rfl⟩ ⟨Nat.le_of_ble_eq_true rfl, Nat.le_of_ble_eq_true rfl⟩ rfl rfl hl.1 (Nat.le_of_ble_eq_true rfl) ⟨Nat.zero_le _, Nat.zero_le _⟩ dX5_wonOf_2 (fun H locs hW hS => ?_)
  refine lv_if_eq (tgt := 12) hx hb dX5_wonOf_5 (by decide) (fun h3 => ?_) (fun h3 => ?_)
  · have hf := ifp h3 hf
    refine lv_iconst (v := 1) hx hb dX5_wonOf_12 (by decide) ?_
    refine putX (k := 193) (q := (5, 0)) (ci := 5) (x := 1) inA5 tyX5_ok nmX5 rfl (by decide) rfl hx hb hta hown hE.1 hW hS sh_193 10 (by decide) q1191 rfl rfl rfl (Nat.le_of_ble_eq_true rfl) rfl dX5_wonOf_13 (fun H locs hW hS => ?_)
    obtain ⟨σ4, e5, hf⟩ := st_e hf
    rw [e5] at hW
    refine lv_aload_n hx hb dX5_wonOf_16 rfl (lv_at hl 0 rfl) ?_
    refine getM hx hb hta hown hE.1 hW 10 (by decide) q1191 rfl dX5_wonOf_17 ?_
    refine lv_if_le (tgt := 27) hx hb dX5_wonOf_20 (by decide) (fun h6 => ?_) (fun h6 => ?_)
    · have hf := ifp h6 hf
      refine lv_aload_n hx hb dX5_wonOf_27 rfl (lv_at hl 0 rfl) ?_
      refine getM hx hb hta hown hE.1 hW 0 (by decide) q1181 rfl dX5_wonOf_28 ?_
      refine lv_bipush (v := 10) hx hb dX5_wonOf_31 (by decide) ?_
      refine lv_iload_n hx hb dX5_wonOf_33 rfl (lv_at hl 1 rfl) ?_
      refine lv_iadd hx hb dX5_wonOf_34 ?_
      obtain ⟨g7, hf⟩ := gd_e hf
      refine iald hx hb hE.1 hW sh_194 g7 dX5_wonOf_35 ?_
      cases hf
      exact W.iret hx hb hr (fun u hu _ => ⟨⟨rfl, by rw [hu]; exact hW⟩, hS.F hu⟩) hS.2.2 dX5_wonOf_36
    · have hf := ifn h6 hf
      refine lv_iconst (v := 0) hx hb dX5_wonOf_23 (by decide) ?_
      refine lv_goto (tgt := 36) hx hb dX5_wonOf_24 (by decide) ?_
      cases hf
      exact W.iret hx hb hr (fun u hu _ => ⟨⟨rfl, by rw [hu]; exact hW⟩, hS.F hu⟩) hS.2.2 dX5_wonOf_36
  · have hf := ifn h3 hf
    refine lv_iconst (v := 0) hx hb dX5_wonOf_8 (by decide) ?_
    refine lv_goto (tgt := 13) hx hb dX5_wonOf_9 (by decide) ?_
    refine putX (k := 193) (q := (5, 0)) (ci := 5) (x := 0) inA5 tyX5_ok nmX5 rfl (by decide) rfl hx hb hta hown hE.1 hW hS sh_193 10 (by decide) q1191 rfl rfl rfl (Nat.le_of_ble_eq_true rfl) rfl dX5_wonOf_13 (fun H locs hW hS => ?_)
    obtain ⟨σ8, e9, hf⟩ := st_e hf
    rw [e9] at hW
    refine lv_aload_n hx hb dX5_wonOf_16 rfl (lv_at hl 0 rfl) ?_
    refine getM hx hb hta hown hE.1 hW 10 (by decide) q1191 rfl dX5_wonOf_17 ?_
    refine lv_if_le (tgt := 27) hx hb dX5_wonOf_20 (by decide) (fun h10 => ?_) (fun h10 => ?_)
    · have hf := ifp h10 hf
      refine lv_aload_n hx hb dX5_wonOf_27 rfl (lv_at hl 0 rfl) ?_
      refine getM hx hb hta hown hE.1 hW 0 (by decide) q1181 rfl dX5_wonOf_28 ?_
      refine lv_bipush (v := 10) hx hb dX5_wonOf_31 (by decide) ?_
      refine lv_iload_n hx hb dX5_wonOf_33 rfl (lv_at hl 1 rfl) ?_
      refine lv_iadd hx hb dX5_wonOf_34 ?_
      obtain ⟨g11, hf⟩ := gd_e hf
      refine iald hx hb hE.1 hW sh_194 g11 dX5_wonOf_35 ?_
      cases hf
      exact W.iret hx hb hr (fun u hu _ => ⟨⟨rfl, by rw [hu]; exact hW⟩, hS.F hu⟩) hS.2.2 dX5_wonOf_36
    · have hf := ifn h10 hf
      refine lv_iconst (v := 0) hx hb dX5_wonOf_23 (by decide) ?_
      refine lv_goto (tgt := 36) hx hb dX5_wonOf_24 (by decide) ?_
      cases hf
      exact W.iret hx hb hr (fun u hu _ => ⟨⟨rfl, by rw [hu]; exact hW⟩, hS.F hu⟩) hS.2.2 dX5_wonOf_36
def f_X5_children (σ : Sg) : Option (Int32 × Sg) := b2 (f_X5_count σ 9) fun y1 σ3 => some (y1, σ3)
set_option maxHeartbeats 4000000 in
set_option maxRecDepth 100000 in
theorem c_X5_children (l : Launch) (D : va_G) (t : Nat → ClassId) (b : Nat) (σ : Sg) (r : Int32) (σr : Sg) (hf : f_X5_children σ = some (r, σr)) : Met l yX5_children (Cond.code yX5_children cX5_children 1 (some .int) :: ALL) ({ frames := 1, cells := 0, slots := 0, locals := 21 }) (PM D t b σ [.ref (b + 193)]) (QG D t b σr (some (.int r))) 0 0 (geA b) := by
  refine Met.ofW (cc := cX5_children) (maxL := 1) (ret := (some .int)) (by decide) rfl ?_
  intro p e s m args below meth c s₁ B hml hv
  obtain ⟨rfl, hW, hE⟩ := hv
  have hx := B.exec
  have hb := B.bytes
  have hr := B.returns
  have hts := atoms_spec (ws := Cond.code yX5_children cX5_children 1 (some .int) :: ALL) B.pre
  have hta := fun w h => hts w (List.mem_cons_of_mem _ h)
  have hown : s.vm.findClass RX5 = some m.cls := findClass_of_methodNamed B.named
  have hlocks := B.notSynchronized
  have hS : va_S (geA b) s.heap s.heap [] := va_S.rf
  have hl := lv_entry ([.ref (b + 193)]) (n := 1) (Nat.le_of_ble_eq_true rfl)
  rw [lg_entry_eq]
  generalize (lg_sl ([.ref (b + 193)]) ++ List.replicate (1 - (lg_sl ([.ref (b + 193)])).length) Slot.unset).toArray = ls at hl ⊢
  have hl : lv_has ls 1 [(0, .ref (b + 193))] := hl
  unfold f_X5_children at hf
  refine lv_aload_n hx hb dX5_children_0 rfl (lv_at hl 0 rfl) ?_
  refine lv_bipush (v := 9) hx hb dX5_children_1 (by decide) ?_
  obtain ⟨y1, σ3, u2, hf⟩ := b2_e hf
  refine mV (k := 193) (q := (5, 0)) (C := RX5) (T := TX5) (N := 14) (ci := 5) (n := 1) (As := [.int 9]) (rest := []) (c_X5_count l D t b σ 9 y1 σ3 u2) sh_193 (by decide) rfl rfl hx hb hml hown hts hE hW hS q1536 q1538 q82 q96 q1539 hy_X5_count ⟨rfl, rfl⟩ ⟨Nat.le_of_ble_eq_true rfl, Nat.le_of_ble_eq_true rfl⟩ rfl rfl hl.1 (Nat.le_of_ble_eq_true rfl) ⟨Nat.zero_le _, Nat.zero_le _⟩ dX5_children_3 (fun H locs hW hS => ?_)
  cases hf
  exact W.iret hx hb hr (fun u hu _ => ⟨⟨rfl, by rw [hu]; exact hW⟩, hS.F hu⟩) hS.2.2 dX5_children_6
def f_X5_atFair (σ : Sg) : Option (Int32 × Sg) := st (u2 σ 193 10 0) fun σ1 => b1 (f_X5_crowd σ1) fun y3 => some (y3, σ1)
set_option maxHeartbeats 4000000 in
set_option maxRecDepth 100000 in
theorem c_X5_atFair (l : Launch) (D : va_G) (t : Nat → ClassId) (b : Nat) (σ : Sg) (r : Int32) (σr : Sg) (hf : f_X5_atFair σ = some (r, σr)) : Met l yX5_atFair (Cond.code yX5_atFair cX5_atFair 1 (some .int) :: ALL) ({ frames := 3, cells := 0, slots := 0, locals := 65 }) (PM D t b σ [.ref (b + 193)]) (QG D t b σr (some (.int r))) 0 0 (geA b) := by
  refine Met.ofW (cc := cX5_atFair) (maxL := 1) (ret := (some .int)) (by decide) rfl ?_
  intro p e s m args below meth c s₁ B hml hv
  obtain ⟨rfl, hW, hE⟩ := hv
  have hx := B.exec
  have hb := B.bytes
  have hr := B.returns
  have hts := atoms_spec (ws := Cond.code yX5_atFair cX5_atFair 1 (some .int) :: ALL) B.pre
  have hta := fun w h => hts w (List.mem_cons_of_mem _ h)
  have hown : s.vm.findClass RX5 = some m.cls := findClass_of_methodNamed B.named
  have hlocks := B.notSynchronized
  have hS : va_S (geA b) s.heap s.heap [] := va_S.rf
  have hl := lv_entry ([.ref (b + 193)]) (n := 1) (Nat.le_of_ble_eq_true rfl)
  rw [lg_entry_eq]
  generalize (lg_sl ([.ref (b + 193)]) ++ List.replicate (1 - (lg_sl ([.ref (b + 193)])).length) Slot.unset).toArray = ls at hl ⊢
  have hl : lv_has ls 1 [(0, .ref (b + 193))] := hl
  unfold f_X5_atFair at hf
  refine lv_aload_n hx hb dX5_atFair_0 rfl (lv_at hl 0 rfl) ?_
  refine lv_iconst (v := 0) hx hb dX5_atFair_1 (by decide) ?_
  refine putX (k := 193) (q := (5, 0)) (ci := 5) (x := 0) inA5 tyX5_ok nmX5 rfl (by decide) rfl hx hb hta hown hE.1 hW hS sh_193 10 (by decide) q1191 rfl rfl rfl (Nat.le_of_ble_eq_true rfl) rfl dX5_atFair_2 (fun H locs hW hS => ?_)
  obtain ⟨σ1, e2, hf⟩ := st_e hf
  rw [e2] at hW
  refine lv_aload_n hx hb dX5_atFair_5 rfl (lv_at hl 0 rfl) ?_
  obtain ⟨y3, u4, hf⟩ := b1_e hf
  refine mV (k := 193) (q := (5, 0)) (C := RX5) (T := TX5) (N := 14) (ci := 5) (n := 0) (As := []) (rest := []) (c_X5_crowd l D t b σ1 y3 u4) sh_193 (by decide) rfl rfl hx hb hml hown hts hE hW hS q1345 q1347 q49 q96 q1348 hy_X5_crowd ⟨rfl, rfl⟩ ⟨Nat.le_of_ble_eq_true rfl, Nat.le_of_ble_eq_true rfl⟩ rfl rfl hl.1 (Nat.le_of_ble_eq_true rfl) ⟨Nat.zero_le _, Nat.zero_le _⟩ dX5_atFair_6 (fun H locs hW hS => ?_)
  cases hf
  exact W.iret hx hb hr (fun u hu _ => ⟨⟨rfl, by rw [hu]; exact hW⟩, hS.F hu⟩) hS.2.2 dX5_atFair_9
def f_X5_tellsOf (σ : Sg) (p1 : Int32) (p2 : Int32) : Option (Int32 × Sg) := b1 (f_X5_isChild σ p1) fun y1 => if y1 = 0 then (st (u2 σ 193 10 1) fun σ4 => if (σ4 193 10) ≤ 0 then (b1 (f_X5_of σ4 p1 p2) fun y7 => some (y7, σ4)) else (some (0, σ4))) else (st (u2 σ 193 10 0) fun σ9 => if (σ9 193 10) ≤ 0 then (b1 (f_X5_of σ9 p1 p2) fun y12 => some (y12, σ9)) else (some (0, σ9)))
set_option maxHeartbeats 4000000 in
set_option maxRecDepth 100000 in
theorem c_X5_tellsOf (l : Launch) (D : va_G) (t : Nat → ClassId) (b : Nat) (σ : Sg) (p1 : Int32) (p2 : Int32) (r : Int32) (σr : Sg) (hf : f_X5_tellsOf σ p1 p2 = some (r, σr)) : Met l yX5_tellsOf (Cond.code yX5_tellsOf cX5_tellsOf 3 (some .int) :: ALL) ({ frames := 2, cells := 0, slots := 0, locals := 43 }) (PM D t b σ [.ref (b + 193), .int p1, .int p2]) (QG D t b σr (some (.int r))) 0 0 (geA b) := by
  refine Met.ofW (cc := cX5_tellsOf) (maxL := 3) (ret := (some .int)) (by decide) rfl ?_
  intro p e s m args below meth c s₁ B hml hv
  obtain ⟨rfl, hW, hE⟩ := hv
  have hx := B.exec
  have hb := B.bytes
  have hr := B.returns
  have hts := atoms_spec (ws := Cond.code yX5_tellsOf cX5_tellsOf 3 (some .int) :: ALL) B.pre
  have hta := fun w h => hts w (List.mem_cons_of_mem _ h)
  have hown : s.vm.findClass RX5 = some m.cls := findClass_of_methodNamed B.named
  have hlocks := B.notSynchronized
  have hS : va_S (geA b) s.heap s.heap [] := va_S.rf
  have hl := lv_entry ([.ref (b + 193), .int p1, .int p2]) (n := 3) (Nat.le_of_ble_eq_true rfl)
  rw [lg_entry_eq]
  generalize (lg_sl ([.ref (b + 193), .int p1, .int p2]) ++ List.replicate (3 - (lg_sl ([.ref (b + 193), .int p1, .int p2])).length) Slot.unset).toArray = ls at hl ⊢
  have hl : lv_has ls 3 [(0, .ref (b + 193)), (1, .int p1), (2, .int p2)] := hl
  unfold f_X5_tellsOf at hf
  refine lv_aload_n hx hb dX5_tellsOf_0 rfl (lv_at hl 0 rfl) ?_
  refine lv_aload_n hx hb dX5_tellsOf_1 rfl (lv_at hl 0 rfl) ?_
  refine lv_iload_n hx hb dX5_tellsOf_2 rfl (lv_at hl 1 rfl) ?_
  obtain ⟨y1, u2, hf⟩ := b1_e hf
  refine mV (k := 193) (q := (5, 0)) (C := RX5) (T := TX5) (N := 14) (ci := 5) (n := 1) (As := [.int p1]) (rest := [.ref (b + 193)]) (c_X5_isChild l D t b σ p1 y1 u2) sh_193 (by decide) rfl rfl hx hb hml hown hts hE hW hS q1604 q1606 q84 q96 q1607 hy_X5_isChild ⟨rfl, rfl⟩ ⟨Nat.le_of_ble_eq_true rfl, Nat.le_of_ble_eq_true rfl⟩ rfl rfl hl.1 (Nat.le_of_ble_eq_true rfl) ⟨Nat.zero_le _, Nat.zero_le _⟩ dX5_tellsOf_3 (fun H locs hW hS => ?_)
  refine lv_if_eq (tgt := 13) hx hb dX5_tellsOf_6 (by decide) (fun h3 => ?_) (fun h3 => ?_)
  · have hf := ifp h3 hf
    refine lv_iconst (v := 1) hx hb dX5_tellsOf_13 (by decide) ?_
    refine putX (k := 193) (q := (5, 0)) (ci := 5) (x := 1) inA5 tyX5_ok nmX5 rfl (by decide) rfl hx hb hta hown hE.1 hW hS sh_193 10 (by decide) q1191 rfl rfl rfl (Nat.le_of_ble_eq_true rfl) rfl dX5_tellsOf_14 (fun H locs hW hS => ?_)
    obtain ⟨σ4, e5, hf⟩ := st_e hf
    rw [e5] at hW
    refine lv_aload_n hx hb dX5_tellsOf_17 rfl (lv_at hl 0 rfl) ?_
    refine getM hx hb hta hown hE.1 hW 10 (by decide) q1191 rfl dX5_tellsOf_18 ?_
    refine lv_if_le (tgt := 28) hx hb dX5_tellsOf_21 (by decide) (fun h6 => ?_) (fun h6 => ?_)
    · have hf := ifp h6 hf
      refine lv_aload_n hx hb dX5_tellsOf_28 rfl (lv_at hl 0 rfl) ?_
      refine lv_iload_n hx hb dX5_tellsOf_29 rfl (lv_at hl 1 rfl) ?_
      refine lv_iload_n hx hb dX5_tellsOf_30 rfl (lv_at hl 2 rfl) ?_
      obtain ⟨y7, u8, hf⟩ := b1_e hf
      refine mV (k := 193) (q := (5, 0)) (C := RX5) (T := TX5) (N := 14) (ci := 5) (n := 2) (As := [.int p1, .int p2]) (rest := []) (c_X5_of l D t b σ4 p1 p2 y7 u8) sh_193 (by decide) rfl rfl hx hb hml hown hts hE hW hS q1353 q1355 q51 q96 q1356 hy_X5_of ⟨rfl, rfl⟩ ⟨Nat.le_of_ble_eq_true rfl, Nat.le_of_ble_eq_true rfl⟩ rfl rfl hl.1 (Nat.le_of_ble_eq_true rfl) ⟨Nat.zero_le _, Nat.zero_le _⟩ dX5_tellsOf_31 (fun H locs hW hS => ?_)
      cases hf
      exact W.iret hx hb hr (fun u hu _ => ⟨⟨rfl, by rw [hu]; exact hW⟩, hS.F hu⟩) hS.2.2 dX5_tellsOf_34
    · have hf := ifn h6 hf
      refine lv_iconst (v := 0) hx hb dX5_tellsOf_24 (by decide) ?_
      refine lv_goto (tgt := 34) hx hb dX5_tellsOf_25 (by decide) ?_
      cases hf
      exact W.iret hx hb hr (fun u hu _ => ⟨⟨rfl, by rw [hu]; exact hW⟩, hS.F hu⟩) hS.2.2 dX5_tellsOf_34
  · have hf := ifn h3 hf
    refine lv_iconst (v := 0) hx hb dX5_tellsOf_9 (by decide) ?_
    refine lv_goto (tgt := 14) hx hb dX5_tellsOf_10 (by decide) ?_
    refine putX (k := 193) (q := (5, 0)) (ci := 5) (x := 0) inA5 tyX5_ok nmX5 rfl (by decide) rfl hx hb hta hown hE.1 hW hS sh_193 10 (by decide) q1191 rfl rfl rfl (Nat.le_of_ble_eq_true rfl) rfl dX5_tellsOf_14 (fun H locs hW hS => ?_)
    obtain ⟨σ9, e10, hf⟩ := st_e hf
    rw [e10] at hW
    refine lv_aload_n hx hb dX5_tellsOf_17 rfl (lv_at hl 0 rfl) ?_
    refine getM hx hb hta hown hE.1 hW 10 (by decide) q1191 rfl dX5_tellsOf_18 ?_
    refine lv_if_le (tgt := 28) hx hb dX5_tellsOf_21 (by decide) (fun h11 => ?_) (fun h11 => ?_)
    · have hf := ifp h11 hf
      refine lv_aload_n hx hb dX5_tellsOf_28 rfl (lv_at hl 0 rfl) ?_
      refine lv_iload_n hx hb dX5_tellsOf_29 rfl (lv_at hl 1 rfl) ?_
      refine lv_iload_n hx hb dX5_tellsOf_30 rfl (lv_at hl 2 rfl) ?_
      obtain ⟨y12, u13, hf⟩ := b1_e hf
      refine mV (k := 193) (q := (5, 0)) (C := RX5) (T := TX5) (N := 14) (ci := 5) (n := 2) (As := [.int p1, .int p2]) (rest := []) (c_X5_of l D t b σ9 p1 p2 y12 u13) sh_193 (by decide) rfl rfl hx hb hml hown hts hE hW hS q1353 q1355 q51 q96 q1356 hy_X5_of ⟨rfl, rfl⟩ ⟨Nat.le_of_ble_eq_true rfl, Nat.le_of_ble_eq_true rfl⟩ rfl rfl hl.1 (Nat.le_of_ble_eq_true rfl) ⟨Nat.zero_le _, Nat.zero_le _⟩ dX5_tellsOf_31 (fun H locs hW hS => ?_)
      cases hf
      exact W.iret hx hb hr (fun u hu _ => ⟨⟨rfl, by rw [hu]; exact hW⟩, hS.F hu⟩) hS.2.2 dX5_tellsOf_34
    · have hf := ifn h11 hf
      refine lv_iconst (v := 0) hx hb dX5_tellsOf_24 (by decide) ?_
      refine lv_goto (tgt := 34) hx hb dX5_tellsOf_25 (by decide) ?_
      cases hf
      exact W.iret hx hb hr (fun u hu _ => ⟨⟨rfl, by rw [hu]; exact hW⟩, hS.F hu⟩) hS.2.2 dX5_tellsOf_34
def f_X5_isAtFair (σ : Sg) (p1 : Int32) : Option (Int32 × Sg) := b1 (f_X5_isChild σ p1) fun y1 => if y1 = 0 then (st (u2 σ 193 10 1) fun σ4 => if (σ4 193 10) = 0 then (b1 (f_X5_isHere σ4 p1) fun y7 => if y7 = 0 then (some (0, σ4)) else (some (1, σ4))) else (some (0, σ4))) else (st (u2 σ 193 10 0) fun σ10 => if (σ10 193 10) = 0 then (b1 (f_X5_isHere σ10 p1) fun y13 => if y13 = 0 then (some (0, σ10)) else (some (1, σ10))) else (some (0, σ10)))
set_option maxHeartbeats 4000000 in
set_option maxRecDepth 100000 in
theorem c_X5_isAtFair (l : Launch) (D : va_G) (t : Nat → ClassId) (b : Nat) (σ : Sg) (p1 : Int32) (r : Int32) (σr : Sg) (hf : f_X5_isAtFair σ p1 = some (r, σr)) : Met l yX5_isAtFair (Cond.code yX5_isAtFair cX5_isAtFair 2 (some .boolean) :: ALL) ({ frames := 2, cells := 0, slots := 0, locals := 43 }) (PM D t b σ [.ref (b + 193), .int p1]) (QG D t b σr (some (.int r))) 0 0 (geA b) := by
  refine Met.ofW (cc := cX5_isAtFair) (maxL := 2) (ret := (some .boolean)) (by decide) rfl ?_
  intro p e s m args below meth c s₁ B hml hv
  obtain ⟨rfl, hW, hE⟩ := hv
  have hx := B.exec
  have hb := B.bytes
  have hr := B.returns
  have hts := atoms_spec (ws := Cond.code yX5_isAtFair cX5_isAtFair 2 (some .boolean) :: ALL) B.pre
  have hta := fun w h => hts w (List.mem_cons_of_mem _ h)
  have hown : s.vm.findClass RX5 = some m.cls := findClass_of_methodNamed B.named
  have hlocks := B.notSynchronized
  have hS : va_S (geA b) s.heap s.heap [] := va_S.rf
  have hl := lv_entry ([.ref (b + 193), .int p1]) (n := 2) (Nat.le_of_ble_eq_true rfl)
  rw [lg_entry_eq]
  generalize (lg_sl ([.ref (b + 193), .int p1]) ++ List.replicate (2 - (lg_sl ([.ref (b + 193), .int p1])).length) Slot.unset).toArray = ls at hl ⊢
  have hl : lv_has ls 2 [(0, .ref (b + 193)), (1, .int p1)] := hl
  unfold f_X5_isAtFair at hf
  refine lv_aload_n hx hb dX5_isAtFair_0 rfl (lv_at hl 0 rfl) ?_
  refine lv_aload_n hx hb dX5_isAtFair_1 rfl (lv_at hl 0 rfl) ?_
  refine lv_iload_n hx hb dX5_isAtFair_2 rfl (lv_at hl 1 rfl) ?_
  obtain ⟨y1, u2, hf⟩ := b1_e hf
  refine mV (k := 193) (q := (5, 0)) (C := RX5) (T := TX5) (N := 14) (ci := 5) (n := 1) (As := [.int p1]) (rest := [.ref (b + 193)]) (c_X5_isChild l D t b σ p1 y1 u2) sh_193 (by decide) rfl rfl hx hb hml hown hts hE hW hS q1604 q1606 q84 q96 q1607 hy_X5_isChild ⟨rfl, rfl⟩ ⟨Nat.le_of_ble_eq_true rfl, Nat.le_of_ble_eq_true rfl⟩ rfl rfl hl.1 (Nat.le_of_ble_eq_true rfl) ⟨Nat.zero_le _, Nat.zero_le _⟩ dX5_isAtFair_3 (fun H locs hW hS => ?_)
  refine lv_if_eq (tgt := 13) hx hb dX5_isAtFair_6 (by decide) (fun h3 => ?_) (fun h3 => ?_)
  · have hf := ifp h3 hf
    refine lv_iconst (v := 1) hx hb dX5_isAtFair_13 (by decide) ?_
    refine putX (k := 193) (q := (5, 0)) (ci := 5) (x := 1) inA5 tyX5_ok nmX5 rfl (by decide) rfl hx hb hta hown hE.1 hW hS sh_193 10 (by decide) q1191 rfl rfl rfl (Nat.le_of_ble_eq_true rfl) rfl dX5_isAtFair_14 (fun H locs hW hS => ?_)
    obtain ⟨σ4, e5, hf⟩ := st_e hf
    rw [e5] at hW
    refine lv_aload_n hx hb dX5_isAtFair_17 rfl (lv_at hl 0 rfl) ?_
    refine getM hx hb hta hown hE.1 hW 10 (by decide) q1191 rfl dX5_isAtFair_18 ?_
    refine lv_if_ne (tgt := 36) hx hb dX5_isAtFair_21 (by decide) (fun h6 => ?_) (fun h6 => ?_)
    · have hf := ifn h6 hf
      refine lv_iconst (v := 0) hx hb dX5_isAtFair_36 (by decide) ?_
      cases hf
      exact W.zret (ty := .boolean) hx hb hr (by decide) (fun u hu _ => ⟨⟨rfl, by rw [hu]; exact hW⟩, hS.F hu⟩) hS.2.2 dX5_isAtFair_37
    · have hf := ifp h6 hf
      refine lv_aload_n hx hb dX5_isAtFair_24 rfl (lv_at hl 0 rfl) ?_
      refine lv_iload_n hx hb dX5_isAtFair_25 rfl (lv_at hl 1 rfl) ?_
      obtain ⟨y7, u8, hf⟩ := b1_e hf
      refine mV (k := 193) (q := (5, 0)) (C := RX5) (T := TX5) (N := 14) (ci := 5) (n := 1) (As := [.int p1]) (rest := []) (c_X5_isHere l D t b σ4 p1 y7 u8) sh_193 (by decide) rfl rfl hx hb hml hown hts hE hW hS q1349 q1351 q50 q96 q1352 hy_X5_isHere ⟨rfl, rfl⟩ ⟨Nat.le_of_ble_eq_true rfl, Nat.le_of_ble_eq_true rfl⟩ rfl rfl hl.1 (Nat.le_of_ble_eq_true rfl) ⟨Nat.zero_le _, Nat.zero_le _⟩ dX5_isAtFair_26 (fun H locs hW hS => ?_)
      refine lv_if_eq (tgt := 36) hx hb dX5_isAtFair_29 (by decide) (fun h9 => ?_) (fun h9 => ?_)
      · have hf := ifp h9 hf
        refine lv_iconst (v := 0) hx hb dX5_isAtFair_36 (by decide) ?_
        cases hf
        exact W.zret (ty := .boolean) hx hb hr (by decide) (fun u hu _ => ⟨⟨rfl, by rw [hu]; exact hW⟩, hS.F hu⟩) hS.2.2 dX5_isAtFair_37
      · have hf := ifn h9 hf
        refine lv_iconst (v := 1) hx hb dX5_isAtFair_32 (by decide) ?_
        refine lv_goto (tgt := 37) hx hb dX5_isAtFair_33 (by decide) ?_
        cases hf
        exact W.zret (ty := .boolean) hx hb hr (by decide) (fun u hu _ => ⟨⟨rfl, by rw [hu]; exact hW⟩, hS.F hu⟩) hS.2.2 dX5_isAtFair_37
  · have hf := ifn h3 hf
    refine lv_iconst (v := 0) hx hb dX5_isAtFair_9 (by decide) ?_
    refine lv_goto (tgt := 14) hx hb dX5_isAtFair_10 (by decide) ?_
    refine putX (k := 193) (q := (5, 0)) (ci := 5) (x := 0) inA5 tyX5_ok nmX5 rfl (by decide) rfl hx hb hta hown hE.1 hW hS sh_193 10 (by decide) q1191 rfl rfl rfl (Nat.le_of_ble_eq_true rfl) rfl dX5_isAtFair_14 (fun H locs hW hS => ?_)
    obtain ⟨σ10, e11, hf⟩ := st_e hf
    rw [e11] at hW
    refine lv_aload_n hx hb dX5_isAtFair_17 rfl (lv_at hl 0 rfl) ?_
    refine getM hx hb hta hown hE.1 hW 10 (by decide) q1191 rfl dX5_isAtFair_18 ?_
    refine lv_if_ne (tgt := 36) hx hb dX5_isAtFair_21 (by decide) (fun h12 => ?_) (fun h12 => ?_)
    · have hf := ifn h12 hf
      refine lv_iconst (v := 0) hx hb dX5_isAtFair_36 (by decide) ?_
      cases hf
      exact W.zret (ty := .boolean) hx hb hr (by decide) (fun u hu _ => ⟨⟨rfl, by rw [hu]; exact hW⟩, hS.F hu⟩) hS.2.2 dX5_isAtFair_37
    · have hf := ifp h12 hf
      refine lv_aload_n hx hb dX5_isAtFair_24 rfl (lv_at hl 0 rfl) ?_
      refine lv_iload_n hx hb dX5_isAtFair_25 rfl (lv_at hl 1 rfl) ?_
      obtain ⟨y13, u14, hf⟩ := b1_e hf
      refine mV (k := 193) (q := (5, 0)) (C := RX5) (T := TX5) (N := 14) (ci := 5) (n := 1) (As := [.int p1]) (rest := []) (c_X5_isHere l D t b σ10 p1 y13 u14) sh_193 (by decide) rfl rfl hx hb hml hown hts hE hW hS q1349 q1351 q50 q96 q1352 hy_X5_isHere ⟨rfl, rfl⟩ ⟨Nat.le_of_ble_eq_true rfl, Nat.le_of_ble_eq_true rfl⟩ rfl rfl hl.1 (Nat.le_of_ble_eq_true rfl) ⟨Nat.zero_le _, Nat.zero_le _⟩ dX5_isAtFair_26 (fun H locs hW hS => ?_)
      refine lv_if_eq (tgt := 36) hx hb dX5_isAtFair_29 (by decide) (fun h15 => ?_) (fun h15 => ?_)
      · have hf := ifp h15 hf
        refine lv_iconst (v := 0) hx hb dX5_isAtFair_36 (by decide) ?_
        cases hf
        exact W.zret (ty := .boolean) hx hb hr (by decide) (fun u hu _ => ⟨⟨rfl, by rw [hu]; exact hW⟩, hS.F hu⟩) hS.2.2 dX5_isAtFair_37
      · have hf := ifn h15 hf
        refine lv_iconst (v := 1) hx hb dX5_isAtFair_32 (by decide) ?_
        refine lv_goto (tgt := 37) hx hb dX5_isAtFair_33 (by decide) ?_
        cases hf
        exact W.zret (ty := .boolean) hx hb hr (by decide) (fun u hu _ => ⟨⟨rfl, by rw [hu]; exact hW⟩, hS.F hu⟩) hS.2.2 dX5_isAtFair_37

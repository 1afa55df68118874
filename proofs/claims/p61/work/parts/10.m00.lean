def l_X1_findStall_2 (c0 : Nat) : Nat → Sg → Int32 → Int32 → Option Int32
  | 0, _, _, _ => none
  | n + 1, τ, x1, x2 => if (τ c0 10) ≤ x2 then (some (-1)) else (gd x2 7 (if (τ (sk (c0 + 3) x2) 0) = x1 then (some x2) else (l_X1_findStall_2 c0 n τ x1 (x2 + 1))))
def f_X1_findStall (c0 : Nat) (σ : Sg) (p1 : Int32) : Option Int32 := l_X1_findStall_2 c0 10000 σ p1 0
set_option maxHeartbeats 4000000 in
set_option maxRecDepth 100000 in
theorem c_X1_findStall (l : Launch) (D : va_G) (t : Nat → ClassId) (b : Nat) (c0 : Nat) (σ : Sg) (p1 : Int32) (r : Int32) (hc0 : sh c0 = (1, 0)) (hf : f_X1_findStall c0 σ p1 = some r) : Met l yX1_findStall (Cond.code yX1_findStall cX1_findStall 3 (some .int) :: ALL) ({ frames := 0, cells := 0, slots := 0, locals := 0 }) (PM D t b σ [.ref (b + c0), .int p1]) (QG D t b σ (some (.int r))) 0 0 (geA b) := by
  refine Met.ofW (cc := cX1_findStall) (maxL := 3) (ret := (some .int)) (by decide) rfl ?_
  intro p e s m args below meth c s₁ B hml hv
  obtain ⟨rfl, hW, hE⟩ := hv
  have hx := B.exec
  have hb := B.bytes
  have hr := B.returns
  have hts := atoms_spec (ws := Cond.code yX1_findStall cX1_findStall 3 (some .int) :: ALL) B.pre
  have hta := fun w h => hts w (List.mem_cons_of_mem _ h)
  have hown : s.vm.findClass RX1 = some m.cls := findClass_of_methodNamed B.named
  have hlocks := B.notSynchronized
  have hS : va_S (geA b) s.heap s.heap [] := va_S.rf
  have hl := lv_entry ([.ref (b + c0), .int p1]) (n := 3) (Nat.le_of_ble_eq_true rfl)
  rw [lg_entry_eq]
  generalize (lg_sl ([.ref (b + c0), .int p1]) ++ List.replicate (3 - (lg_sl ([.ref (b + c0), .int p1])).length) Slot.unset).toArray = ls at hl ⊢
  have hl : lv_has ls 3 [(0, .ref (b + c0)), (1, .int p1)] := hl
  unfold f_X1_findStall at hf
  refine lv_iconst (v := 0) hx hb dX1_findStall_0 (by decide) ?_
  refine lv_istore_n (lv' := [(2, .int 0), (0, .ref (b + c0)), (1, .int p1)]) hx hb dX1_findStall_1 rfl hl (by decide) rfl (fun ls hl => ?_)
  have key_2 : ∀ (n : Nat) (τ : Sg) (x1 : Int32) (x2 : Int32) (H : Heap) (locs : List Loc) (ls : Array Slot), l_X1_findStall_2 c0 n τ x1 x2 = some r → wd D t b τ H → va_S (geA b) s.heap H locs → lv_has ls 3 [(0, .ref (b + c0)), (1, .int x1), (2, .int x2)] → W p l e (headSpec (Cond.code yX1_findStall cX1_findStall 3 (some .int) :: ALL) ({ frames := 0, cells := 0, slots := 0, locals := 0 })).room s m (([.ref (b + c0), .int p1] : List Value).toArray) below meth c H locs 0 0 (MQ below (QG D t b τ (some (.int r))) (([.ref (b + c0), .int p1] : List Value).toArray) s 0 0 (geA b)) (F0 m 2 ls []) := by
    intro n
    induction n with
    | zero =>
      intro τ x1 x2 H locs ls hf
      rw [l_X1_findStall_2.eq_1] at hf
      cases hf
    | succ n ih_2 =>
      intro τ x1 x2 H locs ls hf hW hS hl
      rw [l_X1_findStall_2.eq_2] at hf
      refine lv_iload_n hx hb dX1_findStall_2 rfl (lv_at hl 2 rfl) ?_
      refine lv_aload_n hx hb dX1_findStall_3 rfl (lv_at hl 0 rfl) ?_
      refine getF hx hb hta hown hE.1 hW hc0 10 (by decide) q190 rfl dX1_findStall_4 ?_
      refine lv_icmp_ge (tgt := 31) hx hb dX1_findStall_7 (by decide) (fun h1 => ?_) (fun h1 => ?_)
      · have hf := ifp h1 hf
        refine lv_iconst (v := (-1)) hx hb dX1_findStall_31 (by decide) ?_
        cases hf
        exact W.iret hx hb hr (fun u hu _ => ⟨⟨rfl, by rw [hu]; exact hW⟩, hS.F hu⟩) hS.2.2 dX1_findStall_32
      · have hf := ifn h1 hf
        refine lv_aload_n hx hb dX1_findStall_10 rfl (lv_at hl 0 rfl) ?_
        refine getF hx hb hta hown hE.1 hW hc0 11 (by decide) q192 rfl dX1_findStall_11 ?_
        refine lv_iload_n hx hb dX1_findStall_14 rfl (lv_at hl 2 rfl) ?_
        obtain ⟨g2, hf⟩ := gd_e hf
        refine sald hx hb hE.1 hW (shF_3 hc0) g2 dX1_findStall_15 ?_
        refine getS hx hb hta hown hE.1 hW (shF_sk hc0 g2) 0 (by decide) q121 rfl dX1_findStall_16 ?_
        refine lv_iload_n hx hb dX1_findStall_19 rfl (lv_at hl 1 rfl) ?_
        refine lv_icmp_ne (tgt := 25) hx hb dX1_findStall_20 (by decide) (fun h3 => ?_) (fun h3 => ?_)
        · have hf := ifn h3 hf
          refine lv_iinc (v := (x2 + 1)) (lv' := [(2, .int (x2 + 1)), (0, .ref (b + c0)), (1, .int x1)]) hx hb dX1_findStall_25 hl (k := 2) rfl (by rfl) (by decide) rfl (fun ls hl => ?_)
          refine lv_goto (tgt := 2) hx hb dX1_findStall_28 (by decide) ?_
          exact ih_2 τ x1 (x2 + 1) _ _ _ hf hW hS (lv_sub hl [1, 2, 0] rfl)
        · have hf := ifp h3 hf
          refine lv_iload_n hx hb dX1_findStall_23 rfl (lv_at hl 2 rfl) ?_
          cases hf
          exact W.iret hx hb hr (fun u hu _ => ⟨⟨rfl, by rw [hu]; exact hW⟩, hS.F hu⟩) hS.2.2 dX1_findStall_24
  exact key_2 10000 σ p1 0 _ _ _ hf hW hS (lv_sub hl [1, 2, 0] rfl)
def f_X4_costOfStall (σ : Sg) (p0 : Int32) : Option Int32 := if p0 = 0 then (some 30) else (some 50)
set_option maxHeartbeats 4000000 in
set_option maxRecDepth 100000 in
theorem c_X4_costOfStall (l : Launch) (D : va_G) (t : Nat → ClassId) (b : Nat) (σ : Sg) (p0 : Int32) (r : Int32) (hf : f_X4_costOfStall σ p0 = some r) : Met l yX4_costOfStall (Cond.code yX4_costOfStall cX4_costOfStall 1 (some .int) :: ALL) ({ frames := 0, cells := 0, slots := 0, locals := 0 }) (PM D t b σ [.int p0]) (QG D t b σ (some (.int r))) 0 0 (geA b) := by
  refine Met.ofW (cc := cX4_costOfStall) (maxL := 1) (ret := (some .int)) (by decide) rfl ?_
  intro p e s m args below meth c s₁ B hml hv
  obtain ⟨rfl, hW, hE⟩ := hv
  have hx := B.exec
  have hb := B.bytes
  have hr := B.returns
  have hts := atoms_spec (ws := Cond.code yX4_costOfStall cX4_costOfStall 1 (some .int) :: ALL) B.pre
  have hta := fun w h => hts w (List.mem_cons_of_mem _ h)
  have hown : s.vm.findClass RX4 = some m.cls := findClass_of_methodNamed B.named
  have hlocks := B.notSynchronized
  have hS : va_S (geA b) s.heap s.heap [] := va_S.rf
  have hl := lv_entry ([.int p0]) (n := 1) (Nat.le_of_ble_eq_true rfl)
  rw [lg_entry_eq]
  generalize (lg_sl ([.int p0]) ++ List.replicate (1 - (lg_sl ([.int p0])).length) Slot.unset).toArray = ls at hl ⊢
  have hl : lv_has ls 1 [(0, .int p0)] := hl
  unfold f_X4_costOfStall at hf
  refine lv_iload_n hx hb dX4_costOfStall_0 rfl (lv_at hl 0 rfl) ?_
  refine lv_if_eq (tgt := 9) hx hb dX4_costOfStall_1 (by decide) (fun h1 => ?_) (fun h1 => ?_)
  · have hf := ifp h1 hf
    refine lv_bipush (v := 30) hx hb dX4_costOfStall_9 (by decide) ?_
    cases hf
    exact W.iret hx hb hr (fun u hu _ => ⟨⟨rfl, by rw [hu]; exact hW⟩, hS.F hu⟩) hS.2.2 dX4_costOfStall_11
  · have hf := ifn h1 hf
    refine lv_bipush (v := 50) hx hb dX4_costOfStall_4 (by decide) ?_
    refine lv_goto (tgt := 11) hx hb dX4_costOfStall_6 (by decide) ?_
    cases hf
    exact W.iret hx hb hr (fun u hu _ => ⟨⟨rfl, by rw [hu]; exact hW⟩, hS.F hu⟩) hS.2.2 dX4_costOfStall_11
def f_X1_canBuild (c0 : Nat) (σ : Sg) (p1 : Int32) (p2 : Int32) : Option Int32 := b1 (f_X1_findStall c0 σ p1) fun y1 => if y1 = (-1) then (if 6 ≤ (σ c0 10) then (some 0) else (b1 (f_X4_costOfStall σ p2) fun y5 => if (σ c0 0) < y5 then (some 0) else (some 1))) else (some 0)
set_option maxHeartbeats 4000000 in
set_option maxRecDepth 100000 in
theorem c_X1_canBuild (l : Launch) (D : va_G) (t : Nat → ClassId) (b : Nat) (c0 : Nat) (σ : Sg) (p1 : Int32) (p2 : Int32) (r : Int32) (hc0 : sh c0 = (1, 0)) (hf : f_X1_canBuild c0 σ p1 p2 = some r) : Met l yX1_canBuild (Cond.code yX1_canBuild cX1_canBuild 3 (some .boolean) :: ALL) ({ frames := 1, cells := 0, slots := 0, locals := 22 }) (PM D t b σ [.ref (b + c0), .int p1, .int p2]) (QG D t b σ (some (.int r))) 0 0 (geA b) := by
  refine Met.ofW (cc := cX1_canBuild) (maxL := 3) (ret := (some .boolean)) (by decide) rfl ?_
  intro p e s m args below meth c s₁ B hml hv
  obtain ⟨rfl, hW, hE⟩ := hv
  have hx := B.exec
  have hb := B.bytes
  have hr := B.returns
  have hts := atoms_spec (ws := Cond.code yX1_canBuild cX1_canBuild 3 (some .boolean) :: ALL) B.pre
  have hta := fun w h => hts w (List.mem_cons_of_mem _ h)
  have hown : s.vm.findClass RX1 = some m.cls := findClass_of_methodNamed B.named
  have hlocks := B.notSynchronized
  have hS : va_S (geA b) s.heap s.heap [] := va_S.rf
  have hl := lv_entry ([.ref (b + c0), .int p1, .int p2]) (n := 3) (Nat.le_of_ble_eq_true rfl)
  rw [lg_entry_eq]
  generalize (lg_sl ([.ref (b + c0), .int p1, .int p2]) ++ List.replicate (3 - (lg_sl ([.ref (b + c0), .int p1, .int p2])).length) Slot.unset).toArray = ls at hl ⊢
  have hl : lv_has ls 3 [(0, .ref (b + c0)), (1, .int p1), (2, .int p2)] := hl
  unfold f_X1_canBuild at hf
  refine lv_aload_n hx hb dX1_canBuild_0 rfl (lv_at hl 0 rfl) ?_
  refine lv_iload_n hx hb dX1_canBuild_1 rfl (lv_at hl 1 rfl) ?_
  obtain ⟨y1, u2, hf⟩ := b1_e hf
  refine mV (k := c0) (q := (1, 0)) (C := RX1) (T := TX1) (N := 13) (ci := 1) (n := 1) (As := [.int p1]) (rest := []) (c_X1_findStall l D t b c0 σ p1 y1 hc0 u2) hc0 (by decide) rfl rfl hx hb hml hown hts hE hW hS q404 q405 q406 q35 q407 hy_X1_findStall ⟨rfl, rfl⟩ ⟨Nat.le_of_ble_eq_true rfl, Nat.le_of_ble_eq_true rfl⟩ rfl rfl hl.1 (Nat.le_of_ble_eq_true rfl) ⟨Nat.zero_le _, Nat.zero_le _⟩ dX1_canBuild_2 (fun H locs hW hS => ?_)
  refine lv_iconst (v := (-1)) hx hb dX1_canBuild_5 (by decide) ?_
  refine lv_icmp_ne (tgt := 33) hx hb dX1_canBuild_6 (by decide) (fun h3 => ?_) (fun h3 => ?_)
  · have hf := ifn h3 hf
    refine lv_iconst (v := 0) hx hb dX1_canBuild_33 (by decide) ?_
    cases hf
    exact W.zret (ty := .boolean) hx hb hr (by decide) (fun u hu _ => ⟨⟨rfl, by rw [hu]; exact hW⟩, hS.F hu⟩) hS.2.2 dX1_canBuild_34
  · have hf := ifp h3 hf
    refine lv_aload_n hx hb dX1_canBuild_9 rfl (lv_at hl 0 rfl) ?_
    refine getF hx hb hta hown hE.1 hW hc0 10 (by decide) q190 rfl dX1_canBuild_10 ?_
    refine lv_bipush (v := 6) hx hb dX1_canBuild_13 (by decide) ?_
    refine lv_icmp_ge (tgt := 33) hx hb dX1_canBuild_15 (by decide) (fun h4 => ?_) (fun h4 => ?_)
    · have hf := ifp h4 hf
      refine lv_iconst (v := 0) hx hb dX1_canBuild_33 (by decide) ?_
      cases hf
      exact W.zret (ty := .boolean) hx hb hr (by decide) (fun u hu _ => ⟨⟨rfl, by rw [hu]; exact hW⟩, hS.F hu⟩) hS.2.2 dX1_canBuild_34
    · have hf := ifn h4 hf
      refine lv_aload_n hx hb dX1_canBuild_18 rfl (lv_at hl 0 rfl) ?_
      refine getF hx hb hta hown hE.1 hW hc0 0 (by decide) q170 rfl dX1_canBuild_19 ?_
      refine lv_iload_n hx hb dX1_canBuild_22 rfl (lv_at hl 2 rfl) ?_
      obtain ⟨y5, u6, hf⟩ := b1_e hf
      refine mSN (n := 1) (As := [.int p2]) (rest := [.int (σ c0 0)]) (c_X4_costOfStall l D t b σ p2 y5 u6) hx hb hml hown hts hE hW hS ng_408 q409 q34 q410 hs_X4_costOfStall ⟨rfl, rfl⟩ ⟨Nat.le_of_ble_eq_true rfl, Nat.le_of_ble_eq_true rfl⟩ rfl rfl hl.1 (Nat.le_of_ble_eq_true rfl) ⟨Nat.zero_le _, Nat.zero_le _⟩ dX1_canBuild_23 (fun H locs hW hS => ?_)
      refine lv_icmp_lt (tgt := 33) hx hb dX1_canBuild_26 (by decide) (fun h7 => ?_) (fun h7 => ?_)
      · have hf := ifp h7 hf
        refine lv_iconst (v := 0) hx hb dX1_canBuild_33 (by decide) ?_
        cases hf
        exact W.zret (ty := .boolean) hx hb hr (by decide) (fun u hu _ => ⟨⟨rfl, by rw [hu]; exact hW⟩, hS.F hu⟩) hS.2.2 dX1_canBuild_34
      · have hf := ifn h7 hf
        refine lv_iconst (v := 1) hx hb dX1_canBuild_29 (by decide) ?_
        refine lv_goto (tgt := 34) hx hb dX1_canBuild_30 (by decide) ?_
        cases hf
        exact W.zret (ty := .boolean) hx hb hr (by decide) (fun u hu _ => ⟨⟨rfl, by rw [hu]; exact hW⟩, hS.F hu⟩) hS.2.2 dX1_canBuild_34
def f_X3_copyFrom (c0 : Nat) (d1 : Nat) (σ : Sg) : Option Sg := st (u2 σ c0 0 (σ d1 0)) fun σ1 => st (u2 σ1 c0 1 (σ1 d1 1)) fun σ3 => st (u2 σ3 c0 2 (σ3 d1 2)) fun σ5 => gd (σ5 d1 3) 2 (st (u2 σ5 c0 3 (σ5 d1 3)) fun σ8 => gd (σ8 d1 4) 2 (st (u2 σ8 c0 4 (σ8 d1 4)) fun σ11 => st (u2 σ11 c0 5 (σ11 d1 5)) fun σ13 => st (u2 σ13 c0 6 (σ13 d1 6)) fun σ15 => st (u2 σ15 c0 7 (σ15 d1 7)) fun σ17 => st (u2 σ17 c0 8 (σ17 d1 8)) fun σ19 => st (cpy2 σ19 (d1 + 1) (c0 + 1) (16 : Int32).toNatClampNeg) fun σ21 => some σ21))
set_option maxHeartbeats 4000000 in
set_option maxRecDepth 100000 in
theorem c_X3_copyFrom (l : Launch) (D : va_G) (t : Nat → ClassId) (b : Nat) (c0 : Nat) (d1 : Nat) (σ : Sg) (σr : Sg) (hc0 : sh c0 = (3, 0)) (hd1 : sh d1 = (3, 0)) (hf : f_X3_copyFrom c0 d1 σ = some σr) : Met l yX3_copyFrom (Cond.code yX3_copyFrom cX3_copyFrom 2 none :: ALL) ({ frames := 1, cells := 0, slots := 0, locals := 60 }) (PM D t b σ [.ref (b + c0), .ref (b + d1)]) (QG D t b σr none) 0 0 (geA b) := by
  refine Met.ofW (cc := cX3_copyFrom) (maxL := 2) (ret := none) (by decide) rfl ?_
  intro p e s m args below meth c s₁ B hml hv
  obtain ⟨rfl, hW, hE⟩ := hv
  have hx := B.exec
  have hb := B.bytes
  have hr := B.returns
  have hts := atoms_spec (ws := Cond.code yX3_copyFrom cX3_copyFrom 2 none :: ALL) B.pre
  have hta := fun w h => hts w (List.mem_cons_of_mem _ h)
  have hown : s.vm.findClass RX3 = some m.cls := findClass_of_methodNamed B.named
  have hlocks := B.notSynchronized
  have hS : va_S (geA b) s.heap s.heap [] := va_S.rf
  have hl := lv_entry ([.ref (b + c0), .ref (b + d1)]) (n := 2) (Nat.le_of_ble_eq_true rfl)
  rw [lg_entry_eq]
  generalize (lg_sl ([.ref (b + c0), .ref (b + d1)]) ++ List.replicate (2 - (lg_sl ([.ref (b + c0), .ref (b + d1)])).length) Slot.unset).toArray = ls at hl ⊢
  have hl : lv_has ls 2 [(0, .ref (b + c0)), (1, .ref (b + d1))] := hl
  unfold f_X3_copyFrom at hf
  refine lv_aload_n hx hb dX3_copyFrom_0 rfl (lv_at hl 0 rfl) ?_
  refine lv_aload_n hx hb dX3_copyFrom_1 rfl (lv_at hl 1 rfl) ?_
  refine getS hx hb hta hown hE.1 hW hd1 0 (by decide) q120 rfl dX3_copyFrom_2 ?_
  refine putX (k := c0) (q := (3, 0)) (ci := 3) (x := (σ d1 0)) inA3 tyX3_ok nmX3 rfl (by decide) rfl hx hb hta hown hE.1 hW hS hc0 0 (by decide) q120 rfl rfl rfl (Nat.le_of_ble_eq_true rfl) rfl dX3_copyFrom_5 (fun H locs hW hS => ?_)
  obtain ⟨σ1, e2, hf⟩ := st_e hf
  rw [e2] at hW
  refine lv_aload_n hx hb dX3_copyFrom_8 rfl (lv_at hl 0 rfl) ?_
  refine lv_aload_n hx hb dX3_copyFrom_9 rfl (lv_at hl 1 rfl) ?_
  refine getS hx hb hta hown hE.1 hW hd1 1 (by decide) q123 rfl dX3_copyFrom_10 ?_
  refine putX (k := c0) (q := (3, 0)) (ci := 3) (x := (σ1 d1 1)) inA3 tyX3_ok nmX3 rfl (by decide) rfl hx hb hta hown hE.1 hW hS hc0 1 (by decide) q123 rfl rfl rfl (Nat.le_of_ble_eq_true rfl) rfl dX3_copyFrom_13 (fun H locs hW hS => ?_)
  obtain ⟨σ3, e4, hf⟩ := st_e hf
  rw [e4] at hW
  refine lv_aload_n hx hb dX3_copyFrom_16 rfl (lv_at hl 0 rfl) ?_
  refine lv_aload_n hx hb dX3_copyFrom_17 rfl (lv_at hl 1 rfl) ?_
  refine getS hx hb hta hown hE.1 hW hd1 2 (by decide) q126 rfl dX3_copyFrom_18 ?_
  refine putX (k := c0) (q := (3, 0)) (ci := 3) (x := (σ3 d1 2)) inA3 tyX3_ok nmX3 rfl (by decide) rfl hx hb hta hown hE.1 hW hS hc0 2 (by decide) q126 rfl rfl rfl (Nat.le_of_ble_eq_true rfl) rfl dX3_copyFrom_21 (fun H locs hW hS => ?_)
  obtain ⟨σ5, e6, hf⟩ := st_e hf
  rw [e6] at hW
  refine lv_aload_n hx hb dX3_copyFrom_24 rfl (lv_at hl 0 rfl) ?_
  refine lv_aload_n hx hb dX3_copyFrom_25 rfl (lv_at hl 1 rfl) ?_
  refine getS hx hb hta hown hE.1 hW hd1 3 (by decide) q130 rfl dX3_copyFrom_26 ?_
  obtain ⟨g7, hf⟩ := gd_e hf
  refine putX (k := c0) (q := (3, 0)) (ci := 3) (x := (σ5 d1 3)) inA3 tyX3_ok nmX3 rfl (by decide) rfl hx hb hta hown hE.1 hW hS hc0 3 (by decide) q130 rfl (nar_bool g7).1 (nar_bool g7).2 (Nat.le_of_ble_eq_true rfl) rfl dX3_copyFrom_29 (fun H locs hW hS => ?_)
  obtain ⟨σ8, e9, hf⟩ := st_e hf
  rw [e9] at hW
  refine lv_aload_n hx hb dX3_copyFrom_32 rfl (lv_at hl 0 rfl) ?_
  refine lv_aload_n hx hb dX3_copyFrom_33 rfl (lv_at hl 1 rfl) ?_
  refine getS hx hb hta hown hE.1 hW hd1 4 (by decide) q132 rfl dX3_copyFrom_34 ?_
  obtain ⟨g10, hf⟩ := gd_e hf
  refine putX (k := c0) (q := (3, 0)) (ci := 3) (x := (σ8 d1 4)) inA3 tyX3_ok nmX3 rfl (by decide) rfl hx hb hta hown hE.1 hW hS hc0 4 (by decide) q132 rfl (nar_bool g10).1 (nar_bool g10).2 (Nat.le_of_ble_eq_true rfl) rfl dX3_copyFrom_37 (fun H locs hW hS => ?_)
  obtain ⟨σ11, e12, hf⟩ := st_e hf
  rw [e12] at hW
  refine lv_aload_n hx hb dX3_copyFrom_40 rfl (lv_at hl 0 rfl) ?_
  refine lv_aload_n hx hb dX3_copyFrom_41 rfl (lv_at hl 1 rfl) ?_
  refine getS hx hb hta hown hE.1 hW hd1 5 (by decide) q135 rfl dX3_copyFrom_42 ?_
  refine putX (k := c0) (q := (3, 0)) (ci := 3) (x := (σ11 d1 5)) inA3 tyX3_ok nmX3 rfl (by decide) rfl hx hb hta hown hE.1 hW hS hc0 5 (by decide) q135 rfl rfl rfl (Nat.le_of_ble_eq_true rfl) rfl dX3_copyFrom_45 (fun H locs hW hS => ?_)
  obtain ⟨σ13, e14, hf⟩ := st_e hf
  rw [e14] at hW
  refine lv_aload_n hx hb dX3_copyFrom_48 rfl (lv_at hl 0 rfl) ?_
  refine lv_aload_n hx hb dX3_copyFrom_49 rfl (lv_at hl 1 rfl) ?_
  refine getS hx hb hta hown hE.1 hW hd1 6 (by decide) q138 rfl dX3_copyFrom_50 ?_
  refine putX (k := c0) (q := (3, 0)) (ci := 3) (x := (σ13 d1 6)) inA3 tyX3_ok nmX3 rfl (by decide) rfl hx hb hta hown hE.1 hW hS hc0 6 (by decide) q138 rfl rfl rfl (Nat.le_of_ble_eq_true rfl) rfl dX3_copyFrom_53 (fun H locs hW hS => ?_)
  obtain ⟨σ15, e16, hf⟩ := st_e hf
  rw [e16] at hW
  refine lv_aload_n hx hb dX3_copyFrom_56 rfl (lv_at hl 0 rfl) ?_
  refine lv_aload_n hx hb dX3_copyFrom_57 rfl (lv_at hl 1 rfl) ?_
  refine getS hx hb hta hown hE.1 hW hd1 7 (by decide) q141 rfl dX3_copyFrom_58 ?_
  refine putX (k := c0) (q := (3, 0)) (ci := 3) (x := (σ15 d1 7)) inA3 tyX3_ok nmX3 rfl (by decide) rfl hx hb hta hown hE.1 hW hS hc0 7 (by decide) q141 rfl rfl rfl (Nat.le_of_ble_eq_true rfl) rfl dX3_copyFrom_61 (fun H locs hW hS => ?_)
  obtain ⟨σ17, e18, hf⟩ := st_e hf
  rw [e18] at hW
  refine lv_aload_n hx hb dX3_copyFrom_64 rfl (lv_at hl 0 rfl) ?_
  refine lv_aload_n hx hb dX3_copyFrom_65 rfl (lv_at hl 1 rfl) ?_
  refine getS hx hb hta hown hE.1 hW hd1 8 (by decide) q142 rfl dX3_copyFrom_66 ?_
  refine putX (k := c0) (q := (3, 0)) (ci := 3) (x := (σ17 d1 8)) inA3 tyX3_ok nmX3 rfl (by decide) rfl hx hb hta hown hE.1 hW hS hc0 8 (by decide) q142 rfl rfl rfl (Nat.le_of_ble_eq_true rfl) rfl dX3_copyFrom_69 (fun H locs hW hS => ?_)
  obtain ⟨σ19, e20, hf⟩ := st_e hf
  rw [e20] at hW
  refine lv_aload_n hx hb dX3_copyFrom_72 rfl (lv_at hl 1 rfl) ?_
  refine getS hx hb hta hown hE.1 hW hd1 10 (by decide) q144 rfl dX3_copyFrom_73 ?_
  refine lv_iconst (v := 0) hx hb dX3_copyFrom_76 (by decide) ?_
  refine lv_aload_n hx hb dX3_copyFrom_77 rfl (lv_at hl 0 rfl) ?_
  refine getS hx hb hta hown hE.1 hW hc0 10 (by decide) q144 rfl dX3_copyFrom_78 ?_
  refine lv_iconst (v := 0) hx hb dX3_copyFrom_81 (by decide) ?_
  refine lv_bipush (v := 16) hx hb dX3_copyFrom_82 (by decide) ?_
  refine copy (k0 := (d1 + 1)) (k1 := (c0 + 1)) (n := 16) hx hb (hml.trans hl.1.symm) hta hown hE.1 hW hS q442 q437 q436 q45 (shS_1 hd1) (shS_1 hc0) (vp_lit (by decide +kernel)) (vp_lit (by decide +kernel)) (Nat.le_of_ble_eq_true rfl) (Nat.le_of_ble_eq_true rfl) dX3_copyFrom_84 (fun H locs hW hS => ?_)
  obtain ⟨σ21, e22, hf⟩ := st_e hf
  rw [e22] at hW
  cases hf
  exact W.vret hx hb hr (fun u hu _ => ⟨⟨rfl, by rw [hu]; exact hW⟩, hS.F hu⟩) hS.2.2 dX3_copyFrom_87
def f_X0_copyFrom (c0 : Nat) (d1 : Nat) (σ : Sg) : Option Sg := st (u2 σ c0 0 (σ d1 0)) fun σ1 => st (u2 σ1 c0 1 (σ1 d1 1)) fun σ3 => gd (σ3 d1 0) 201 (st (cpy2 σ3 (d1 + 1) (c0 + 1) ((σ3 d1 0)).toNatClampNeg) fun σ6 => gd (σ6 d1 0) 201 (st (cpy2 σ6 (d1 + 2) (c0 + 2) ((σ6 d1 0)).toNatClampNeg) fun σ9 => gd (σ9 d1 0) 201 (st (cpy2 σ9 (d1 + 3) (c0 + 3) ((σ9 d1 0)).toNatClampNeg) fun σ12 => gd (σ12 d1 0) 201 (st (cpy2 σ12 (d1 + 4) (c0 + 4) ((σ12 d1 0)).toNatClampNeg) fun σ15 => gd (σ15 d1 0) 201 (st (cpy2 σ15 (d1 + 5) (c0 + 5) ((σ15 d1 0)).toNatClampNeg) fun σ18 => gd (σ18 d1 0) 201 (st (cpy2 σ18 (d1 + 6) (c0 + 6) ((σ18 d1 0)).toNatClampNeg) fun σ21 => gd (σ21 d1 0) 201 (st (cpy2 σ21 (d1 + 7) (c0 + 7) ((σ21 d1 0)).toNatClampNeg) fun σ24 => gd (σ24 d1 0) 201 (st (cpy2 σ24 (d1 + 8) (c0 + 8) ((σ24 d1 0)).toNatClampNeg) fun σ27 => some σ27))))))))
set_option maxHeartbeats 4000000 in
set_option maxRecDepth 100000 in
theorem c_X0_copyFrom (l : Launch) (D : va_G) (t : Nat → ClassId) (b : Nat) (c0 : Nat) (d1 : Nat) (σ : Sg) (σr : Sg) (hc0 : sh c0 = (2, 0)) (hd1 : sh d1 = (2, 0)) (hf : f_X0_copyFrom c0 d1 σ = some σr) : Met l yX0_copyFrom (Cond.code yX0_copyFrom cX0_copyFrom 2 none :: ALL) ({ frames := 1, cells := 0, slots := 0, locals := 60 }) (PM D t b σ [.ref (b + c0), .ref (b + d1)]) (QG D t b σr none) 0 0 (geA b) := by
  refine Met.ofW (cc := cX0_copyFrom) (maxL := 2) (ret := none) (by decide) rfl ?_
  intro p e s m args below meth c s₁ B hml hv
  obtain ⟨rfl, hW, hE⟩ := hv
  have hx := B.exec
  have hb := B.bytes
  have hr := B.returns
  have hts := atoms_spec (ws := Cond.code yX0_copyFrom cX0_copyFrom 2 none :: ALL) B.pre
  have hta := fun w h => hts w (List.mem_cons_of_mem _ h)
  have hown : s.vm.findClass RX0 = some m.cls := findClass_of_methodNamed B.named
  have hlocks := B.notSynchronized
  have hS : va_S (geA b) s.heap s.heap [] := va_S.rf
  have hl := lv_entry ([.ref (b + c0), .ref (b + d1)]) (n := 2) (Nat.le_of_ble_eq_true rfl)
  rw [lg_entry_eq]
  generalize (lg_sl ([.ref (b + c0), .ref (b + d1)]) ++ List.replicate (2 - (lg_sl ([.ref (b + c0), .ref (b + d1)])).length) Slot.unset).toArray = ls at hl ⊢
  have hl : lv_has ls 2 [(0, .ref (b + c0)), (1, .ref (b + d1))] := hl
  unfold f_X0_copyFrom at hf
  refine lv_aload_n hx hb dX0_copyFrom_0 rfl (lv_at hl 0 rfl) ?_
  refine lv_aload_n hx hb dX0_copyFrom_1 rfl (lv_at hl 1 rfl) ?_
  refine getC hx hb hta hown hE.1 hW hd1 0 (by decide) q69 rfl dX0_copyFrom_2 ?_
  refine putX (k := c0) (q := (2, 0)) (ci := 0) (x := (σ d1 0)) inA0 tyX0_ok nmX0 rfl (by decide) rfl hx hb hta hown hE.1 hW hS hc0 0 (by decide) q69 rfl rfl rfl (Nat.le_of_ble_eq_true rfl) rfl dX0_copyFrom_5 (fun H locs hW hS => ?_)
  obtain ⟨σ1, e2, hf⟩ := st_e hf
  rw [e2] at hW
  refine lv_aload_n hx hb dX0_copyFrom_8 rfl (lv_at hl 0 rfl) ?_
  refine lv_aload_n hx hb dX0_copyFrom_9 rfl (lv_at hl 1 rfl) ?_
  refine getC hx hb hta hown hE.1 hW hd1 1 (by decide) q72 rfl dX0_copyFrom_10 ?_
  refine putX (k := c0) (q := (2, 0)) (ci := 0) (x := (σ1 d1 1)) inA0 tyX0_ok nmX0 rfl (by decide) rfl hx hb hta hown hE.1 hW hS hc0 1 (by decide) q72 rfl rfl rfl (Nat.le_of_ble_eq_true rfl) rfl dX0_copyFrom_13 (fun H locs hW hS => ?_)
  obtain ⟨σ3, e4, hf⟩ := st_e hf
  rw [e4] at hW
  refine lv_aload_n hx hb dX0_copyFrom_16 rfl (lv_at hl 1 rfl) ?_
  refine getC hx hb hta hown hE.1 hW hd1 2 (by decide) q74 rfl dX0_copyFrom_17 ?_
  refine lv_iconst (v := 0) hx hb dX0_copyFrom_20 (by decide) ?_
  refine lv_aload_n hx hb dX0_copyFrom_21 rfl (lv_at hl 0 rfl) ?_
  refine getC hx hb hta hown hE.1 hW hc0 2 (by decide) q74 rfl dX0_copyFrom_22 ?_
  refine lv_iconst (v := 0) hx hb dX0_copyFrom_25 (by decide) ?_
  refine lv_aload_n hx hb dX0_copyFrom_26 rfl (lv_at hl 1 rfl) ?_
  refine getC hx hb hta hown hE.1 hW hd1 0 (by decide) q69 rfl dX0_copyFrom_27 ?_
  obtain ⟨g5, hf⟩ := gd_e hf
  refine copy (k0 := (d1 + 1)) (k1 := (c0 + 1)) (n := (σ3 d1 0)) hx hb (hml.trans hl.1.symm) hta hown hE.1 hW hS q447 q437 q436 q45 (shC_1 hd1) (shC_1 hc0) g5 g5 (Nat.le_of_ble_eq_true rfl) (Nat.le_of_ble_eq_true rfl) dX0_copyFrom_30 (fun H locs hW hS => ?_)
  obtain ⟨σ6, e7, hf⟩ := st_e hf
  rw [e7] at hW
  refine lv_aload_n hx hb dX0_copyFrom_33 rfl (lv_at hl 1 rfl) ?_
  refine getC hx hb hta hown hE.1 hW hd1 3 (by decide) q77 rfl dX0_copyFrom_34 ?_
  refine lv_iconst (v := 0) hx hb dX0_copyFrom_37 (by decide) ?_
  refine lv_aload_n hx hb dX0_copyFrom_38 rfl (lv_at hl 0 rfl) ?_
  refine getC hx hb hta hown hE.1 hW hc0 3 (by decide) q77 rfl dX0_copyFrom_39 ?_
  refine lv_iconst (v := 0) hx hb dX0_copyFrom_42 (by decide) ?_
  refine lv_aload_n hx hb dX0_copyFrom_43 rfl (lv_at hl 1 rfl) ?_
  refine getC hx hb hta hown hE.1 hW hd1 0 (by decide) q69 rfl dX0_copyFrom_44 ?_
  obtain ⟨g8, hf⟩ := gd_e hf
  refine copy (k0 := (d1 + 2)) (k1 := (c0 + 2)) (n := (σ6 d1 0)) hx hb (hml.trans hl.1.symm) hta hown hE.1 hW hS q447 q437 q436 q45 (shC_2 hd1) (shC_2 hc0) g8 g8 (Nat.le_of_ble_eq_true rfl) (Nat.le_of_ble_eq_true rfl) dX0_copyFrom_47 (fun H locs hW hS => ?_)
  obtain ⟨σ9, e10, hf⟩ := st_e hf
  rw [e10] at hW
  refine lv_aload_n hx hb dX0_copyFrom_50 rfl (lv_at hl 1 rfl) ?_
  refine getC hx hb hta hown hE.1 hW hd1 4 (by decide) q80 rfl dX0_copyFrom_51 ?_
  refine lv_iconst (v := 0) hx hb dX0_copyFrom_54 (by decide) ?_
  refine lv_aload_n hx hb dX0_copyFrom_55 rfl (lv_at hl 0 rfl) ?_
  refine getC hx hb hta hown hE.1 hW hc0 4 (by decide) q80 rfl dX0_copyFrom_56 ?_
  refine lv_iconst (v := 0) hx hb dX0_copyFrom_59 (by decide) ?_
  refine lv_aload_n hx hb dX0_copyFrom_60 rfl (lv_at hl 1 rfl) ?_
  refine getC hx hb hta hown hE.1 hW hd1 0 (by decide) q69 rfl dX0_copyFrom_61 ?_
  obtain ⟨g11, hf⟩ := gd_e hf
  refine copy (k0 := (d1 + 3)) (k1 := (c0 + 3)) (n := (σ9 d1 0)) hx hb (hml.trans hl.1.symm) hta hown hE.1 hW hS q447 q437 q436 q45 (shC_3 hd1) (shC_3 hc0) g11 g11 (Nat.le_of_ble_eq_true rfl) (Nat.le_of_ble_eq_true rfl) dX0_copyFrom_64 (fun H locs hW hS => ?_)
  obtain ⟨σ12, e13, hf⟩ := st_e hf
  rw [e13] at hW
  refine lv_aload_n hx hb dX0_copyFrom_67 rfl (lv_at hl 1 rfl) ?_
  refine getC hx hb hta hown hE.1 hW hd1 5 (by decide) q81 rfl dX0_copyFrom_68 ?_
  refine lv_iconst (v := 0) hx hb dX0_copyFrom_71 (by decide) ?_
  refine lv_aload_n hx hb dX0_copyFrom_72 rfl (lv_at hl 0 rfl) ?_
  refine getC hx hb hta hown hE.1 hW hc0 5 (by decide) q81 rfl dX0_copyFrom_73 ?_
  refine lv_iconst (v := 0) hx hb dX0_copyFrom_76 (by decide) ?_
  refine lv_aload_n hx hb dX0_copyFrom_77 rfl (lv_at hl 1 rfl) ?_
  refine getC hx hb hta hown hE.1 hW hd1 0 (by decide) q69 rfl dX0_copyFrom_78 ?_
  obtain ⟨g14, hf⟩ := gd_e hf
  refine copy (k0 := (d1 + 4)) (k1 := (c0 + 4)) (n := (σ12 d1 0)) hx hb (hml.trans hl.1.symm) hta hown hE.1 hW hS q447 q437 q436 q45 (shC_4 hd1) (shC_4 hc0) g14 g14 (Nat.le_of_ble_eq_true rfl) (Nat.le_of_ble_eq_true rfl) dX0_copyFrom_81 (fun H locs hW hS => ?_)
  obtain ⟨σ15, e16, hf⟩ := st_e hf
  rw [e16] at hW
  refine lv_aload_n hx hb dX0_copyFrom_84 rfl (lv_at hl 1 rfl) ?_
  refine getC hx hb hta hown hE.1 hW hd1 6 (by decide) q83 rfl dX0_copyFrom_85 ?_
  refine lv_iconst (v := 0) hx hb dX0_copyFrom_88 (by decide) ?_
  refine lv_aload_n hx hb dX0_copyFrom_89 rfl (lv_at hl 0 rfl) ?_
  refine getC hx hb hta hown hE.1 hW hc0 6 (by decide) q83 rfl dX0_copyFrom_90 ?_
  refine lv_iconst (v := 0) hx hb dX0_copyFrom_93 (by decide) ?_
  refine lv_aload_n hx hb dX0_copyFrom_94 rfl (lv_at hl 1 rfl) ?_
  refine getC hx hb hta hown hE.1 hW hd1 0 (by decide) q69 rfl dX0_copyFrom_95 ?_
  obtain ⟨g17, hf⟩ := gd_e hf
  refine copy (k0 := (d1 + 5)) (k1 := (c0 + 5)) (n := (σ15 d1 0)) hx hb (hml.trans hl.1.symm) hta hown hE.1 hW hS q447 q437 q436 q45 (shC_5 hd1) (shC_5 hc0) g17 g17 (Nat.le_of_ble_eq_true rfl) (Nat.le_of_ble_eq_true rfl) dX0_copyFrom_98 (fun H locs hW hS => ?_)
  obtain ⟨σ18, e19, hf⟩ := st_e hf
  rw [e19] at hW
  refine lv_aload_n hx hb dX0_copyFrom_101 rfl (lv_at hl 1 rfl) ?_
  refine getC hx hb hta hown hE.1 hW hd1 7 (by decide) q86 rfl dX0_copyFrom_102 ?_
  refine lv_iconst (v := 0) hx hb dX0_copyFrom_105 (by decide) ?_
  refine lv_aload_n hx hb dX0_copyFrom_106 rfl (lv_at hl 0 rfl) ?_
  refine getC hx hb hta hown hE.1 hW hc0 7 (by decide) q86 rfl dX0_copyFrom_107 ?_
  refine lv_iconst (v := 0) hx hb dX0_copyFrom_110 (by decide) ?_
  refine lv_aload_n hx hb dX0_copyFrom_111 rfl (lv_at hl 1 rfl) ?_
  refine getC hx hb hta hown hE.1 hW hd1 0 (by decide) q69 rfl dX0_copyFrom_112 ?_
  obtain ⟨g20, hf⟩ := gd_e hf
  refine copy (k0 := (d1 + 6)) (k1 := (c0 + 6)) (n := (σ18 d1 0)) hx hb (hml.trans hl.1.symm) hta hown hE.1 hW hS q447 q437 q436 q45 (shC_6 hd1) (shC_6 hc0) g20 g20 (Nat.le_of_ble_eq_true rfl) (Nat.le_of_ble_eq_true rfl) dX0_copyFrom_115 (fun H locs hW hS => ?_)
  obtain ⟨σ21, e22, hf⟩ := st_e hf
  rw [e22] at hW
  refine lv_aload_n hx hb dX0_copyFrom_118 rfl (lv_at hl 1 rfl) ?_
  refine getC hx hb hta hown hE.1 hW hd1 8 (by decide) q88 rfl dX0_copyFrom_119 ?_
  refine lv_iconst (v := 0) hx hb dX0_copyFrom_122 (by decide) ?_
  refine lv_aload_n hx hb dX0_copyFrom_123 rfl (lv_at hl 0 rfl) ?_
  refine getC hx hb hta hown hE.1 hW hc0 8 (by decide) q88 rfl dX0_copyFrom_124 ?_
  refine lv_iconst (v := 0) hx hb dX0_copyFrom_127 (by decide) ?_
  refine lv_aload_n hx hb dX0_copyFrom_128 rfl (lv_at hl 1 rfl) ?_
  refine getC hx hb hta hown hE.1 hW hd1 0 (by decide) q69 rfl dX0_copyFrom_129 ?_
  obtain ⟨g23, hf⟩ := gd_e hf
  refine copy (k0 := (d1 + 7)) (k1 := (c0 + 7)) (n := (σ21 d1 0)) hx hb (hml.trans hl.1.symm) hta hown hE.1 hW hS q447 q437 q436 q45 (shC_7 hd1) (shC_7 hc0) g23 g23 (Nat.le_of_ble_eq_true rfl) (Nat.le_of_ble_eq_true rfl) dX0_copyFrom_132 (fun H locs hW hS => ?_)
  obtain ⟨σ24, e25, hf⟩ := st_e hf
  rw [e25] at hW
  refine lv_aload_n hx hb dX0_copyFrom_135 rfl (lv_at hl 1 rfl) ?_
  refine getC hx hb hta hown hE.1 hW hd1 9 (by decide) q90 rfl dX0_copyFrom_136 ?_
  refine lv_iconst (v := 0) hx hb dX0_copyFrom_139 (by decide) ?_
  refine lv_aload_n hx hb dX0_copyFrom_140 rfl (lv_at hl 0 rfl) ?_
  refine getC hx hb hta hown hE.1 hW hc0 9 (by decide) q90 rfl dX0_copyFrom_141 ?_
  refine lv_iconst (v := 0) hx hb dX0_copyFrom_144 (by decide) ?_
  refine lv_aload_n hx hb dX0_copyFrom_145 rfl (lv_at hl 1 rfl) ?_
  refine getC hx hb hta hown hE.1 hW hd1 0 (by decide) q69 rfl dX0_copyFrom_146 ?_
  obtain ⟨g26, hf⟩ := gd_e hf
  refine copy (k0 := (d1 + 8)) (k1 := (c0 + 8)) (n := (σ24 d1 0)) hx hb (hml.trans hl.1.symm) hta hown hE.1 hW hS q447 q437 q436 q45 (shC_8 hd1) (shC_8 hc0) g26 g26 (Nat.le_of_ble_eq_true rfl) (Nat.le_of_ble_eq_true rfl) dX0_copyFrom_149 (fun H locs hW hS => ?_)
  obtain ⟨σ27, e28, hf⟩ := st_e hf
  rw [e28] at hW
  cases hf
  exact W.vret hx hb hr (fun u hu _ => ⟨⟨rfl, by rw [hu]; exact hW⟩, hS.F hu⟩) hS.2.2 dX0_copyFrom_152
def l_X1_copyFrom_103 (c0 : Nat) (d1 : Nat) : Nat → Sg → Int32 → Option Sg
  | 0, _, _ => none
  | n + 1, τ, x2 => if (τ c0 10) ≤ x2 then (b1 (f_X0_copyFrom (c0 + 4) (d1 + 4) τ) fun σ26 => some σ26) else (gd x2 7 (b1 (f_X3_copyFrom (sk (c0 + 3) x2) (sk (d1 + 3) x2) τ) fun σ30 => l_X1_copyFrom_103 c0 d1 n σ30 (x2 + 1)))
def f_X1_copyFrom (c0 : Nat) (d1 : Nat) (σ : Sg) : Option Sg := st (u2 σ c0 0 (σ d1 0)) fun σ1 => st (u2 σ1 c0 1 (σ1 d1 1)) fun σ3 => st (u2 σ3 c0 2 (σ3 d1 2)) fun σ5 => st (u2 σ5 c0 3 (σ5 d1 3)) fun σ7 => st (u2 σ7 c0 4 (σ7 d1 4)) fun σ9 => st (u2 σ9 c0 5 (σ9 d1 5)) fun σ11 => st (u2 σ11 c0 6 (σ11 d1 6)) fun σ13 => st (u2 σ13 c0 7 (σ13 d1 7)) fun σ15 => st (cpy2 σ15 (d1 + 1) (c0 + 1) (10 : Int32).toNatClampNeg) fun σ17 => st (cpy2 σ17 (d1 + 2) (c0 + 2) (4 : Int32).toNatClampNeg) fun σ19 => st (u2 σ19 c0 10 (σ19 d1 10)) fun σ21 => l_X1_copyFrom_103 c0 d1 10000 σ21 0
set_option maxHeartbeats 4000000 in
set_option maxRecDepth 100000 in
theorem c_X1_copyFrom (l : Launch) (D : va_G) (t : Nat → ClassId) (b : Nat) (c0 : Nat) (d1 : Nat) (σ : Sg) (σr : Sg) (hc0 : sh c0 = (1, 0)) (hd1 : sh d1 = (1, 0)) (hf : f_X1_copyFrom c0 d1 σ = some σr) : Met l yX1_copyFrom (Cond.code yX1_copyFrom cX1_copyFrom 3 none :: ALL) ({ frames := 2, cells := 0, slots := 0, locals := 81 }) (PM D t b σ [.ref (b + c0), .ref (b + d1)]) (QG D t b σr none) 0 0 (geA b) := by
  refine Met.ofW (cc := cX1_copyFrom) (maxL := 3) (ret := none) (by decide) rfl ?_
  intro p e s m args below meth c s₁ B hml hv
  obtain ⟨rfl, hW, hE⟩ := hv
  have hx := B.exec
  have hb := B.bytes
  have hr := B.returns
  have hts := atoms_spec (ws := Cond.code yX1_copyFrom cX1_copyFrom 3 none :: ALL) B.pre
  have hta := fun w h => hts w (List.mem_cons_of_mem _ h)
  have hown : s.vm.findClass RX1 = some m.cls := findClass_of_methodNamed B.named
  have hlocks := B.notSynchronized
  have hS : va_S (geA b) s.heap s.heap [] := va_S.rf
  have hl := lv_entry ([.ref (b + c0), .ref (b + d1)]) (n := 3) (Nat.le_of_ble_eq_true rfl)
  rw [lg_entry_eq]
  generalize (lg_sl ([.ref (b + c0), .ref (b + d1)]) ++ List.replicate (3 - (lg_sl ([.ref (b + c0), .ref (b + d1)])).length) Slot.unset).toArray = ls at hl ⊢
  have hl : lv_has ls 3 [(0, .ref (b + c0)), (1, .ref (b + d1))] := hl
  unfold f_X1_copyFrom at hf
  refine lv_aload_n hx hb dX1_copyFrom_0 rfl (lv_at hl 0 rfl) ?_
  refine lv_aload_n hx hb dX1_copyFrom_1 rfl (lv_at hl 1 rfl) ?_
  refine getF hx hb hta hown hE.1 hW hd1 0 (by decide) q170 rfl dX1_copyFrom_2 ?_
  refine putX (k := c0) (q := (1, 0)) (ci := 1) (x := (σ d1 0)) inA1 tyX1_ok nmX1 rfl (by decide) rfl hx hb hta hown hE.1 hW hS hc0 0 (by decide) q170 rfl rfl rfl (Nat.le_of_ble_eq_true rfl) rfl dX1_copyFrom_5 (fun H locs hW hS => ?_)
  obtain ⟨σ1, e2, hf⟩ := st_e hf
  rw [e2] at hW
  refine lv_aload_n hx hb dX1_copyFrom_8 rfl (lv_at hl 0 rfl) ?_
  refine lv_aload_n hx hb dX1_copyFrom_9 rfl (lv_at hl 1 rfl) ?_
  refine getF hx hb hta hown hE.1 hW hd1 1 (by decide) q172 rfl dX1_copyFrom_10 ?_
  refine putX (k := c0) (q := (1, 0)) (ci := 1) (x := (σ1 d1 1)) inA1 tyX1_ok nmX1 rfl (by decide) rfl hx hb hta hown hE.1 hW hS hc0 1 (by decide) q172 rfl rfl rfl (Nat.le_of_ble_eq_true rfl) rfl dX1_copyFrom_13 (fun H locs hW hS => ?_)
  obtain ⟨σ3, e4, hf⟩ := st_e hf
  rw [e4] at hW
  refine lv_aload_n hx hb dX1_copyFrom_16 rfl (lv_at hl 0 rfl) ?_
  refine lv_aload_n hx hb dX1_copyFrom_17 rfl (lv_at hl 1 rfl) ?_
  refine getF hx hb hta hown hE.1 hW hd1 2 (by decide) q174 rfl dX1_copyFrom_18 ?_
  refine putX (k := c0) (q := (1, 0)) (ci := 1) (x := (σ3 d1 2)) inA1 tyX1_ok nmX1 rfl (by decide) rfl hx hb hta hown hE.1 hW hS hc0 2 (by decide) q174 rfl rfl rfl (Nat.le_of_ble_eq_true rfl) rfl dX1_copyFrom_21 (fun H locs hW hS => ?_)
  obtain ⟨σ5, e6, hf⟩ := st_e hf
  rw [e6] at hW
  refine lv_aload_n hx hb dX1_copyFrom_24 rfl (lv_at hl 0 rfl) ?_
  refine lv_aload_n hx hb dX1_copyFrom_25 rfl (lv_at hl 1 rfl) ?_
  refine getF hx hb hta hown hE.1 hW hd1 3 (by decide) q176 rfl dX1_copyFrom_26 ?_
  refine putX (k := c0) (q := (1, 0)) (ci := 1) (x := (σ5 d1 3)) inA1 tyX1_ok nmX1 rfl (by decide) rfl hx hb hta hown hE.1 hW hS hc0 3 (by decide) q176 rfl rfl rfl (Nat.le_of_ble_eq_true rfl) rfl dX1_copyFrom_29 (fun H locs hW hS => ?_)
  obtain ⟨σ7, e8, hf⟩ := st_e hf
  rw [e8] at hW
  refine lv_aload_n hx hb dX1_copyFrom_32 rfl (lv_at hl 0 rfl) ?_
  refine lv_aload_n hx hb dX1_copyFrom_33 rfl (lv_at hl 1 rfl) ?_
  refine getF hx hb hta hown hE.1 hW hd1 4 (by decide) q178 rfl dX1_copyFrom_34 ?_
  refine putX (k := c0) (q := (1, 0)) (ci := 1) (x := (σ7 d1 4)) inA1 tyX1_ok nmX1 rfl (by decide) rfl hx hb hta hown hE.1 hW hS hc0 4 (by decide) q178 rfl rfl rfl (Nat.le_of_ble_eq_true rfl) rfl dX1_copyFrom_37 (fun H locs hW hS => ?_)
  obtain ⟨σ9, e10, hf⟩ := st_e hf
  rw [e10] at hW
  refine lv_aload_n hx hb dX1_copyFrom_40 rfl (lv_at hl 0 rfl) ?_
  refine lv_aload_n hx hb dX1_copyFrom_41 rfl (lv_at hl 1 rfl) ?_
  refine getF hx hb hta hown hE.1 hW hd1 5 (by decide) q180 rfl dX1_copyFrom_42 ?_
  refine putX (k := c0) (q := (1, 0)) (ci := 1) (x := (σ9 d1 5)) inA1 tyX1_ok nmX1 rfl (by decide) rfl hx hb hta hown hE.1 hW hS hc0 5 (by decide) q180 rfl rfl rfl (Nat.le_of_ble_eq_true rfl) rfl dX1_copyFrom_45 (fun H locs hW hS => ?_)
  obtain ⟨σ11, e12, hf⟩ := st_e hf
  rw [e12] at hW
  refine lv_aload_n hx hb dX1_copyFrom_48 rfl (lv_at hl 0 rfl) ?_
  refine lv_aload_n hx hb dX1_copyFrom_49 rfl (lv_at hl 1 rfl) ?_
  refine getF hx hb hta hown hE.1 hW hd1 6 (by decide) q182 rfl dX1_copyFrom_50 ?_
  refine putX (k := c0) (q := (1, 0)) (ci := 1) (x := (σ11 d1 6)) inA1 tyX1_ok nmX1 rfl (by decide) rfl hx hb hta hown hE.1 hW hS hc0 6 (by decide) q182 rfl rfl rfl (Nat.le_of_ble_eq_true rfl) rfl dX1_copyFrom_53 (fun H locs hW hS => ?_)
  obtain ⟨σ13, e14, hf⟩ := st_e hf
  rw [e14] at hW
  refine lv_aload_n hx hb dX1_copyFrom_56 rfl (lv_at hl 0 rfl) ?_
  refine lv_aload_n hx hb dX1_copyFrom_57 rfl (lv_at hl 1 rfl) ?_
  refine getF hx hb hta hown hE.1 hW hd1 7 (by decide) q184 rfl dX1_copyFrom_58 ?_
  refine putX (k := c0) (q := (1, 0)) (ci := 1) (x := (σ13 d1 7)) inA1 tyX1_ok nmX1 rfl (by decide) rfl hx hb hta hown hE.1 hW hS hc0 7 (by decide) q184 rfl rfl rfl (Nat.le_of_ble_eq_true rfl) rfl dX1_copyFrom_61 (fun H locs hW hS => ?_)
  obtain ⟨σ15, e16, hf⟩ := st_e hf
  rw [e16] at hW
  refine lv_aload_n hx hb dX1_copyFrom_64 rfl (lv_at hl 1 rfl) ?_
  refine getF hx hb hta hown hE.1 hW hd1 8 (by decide) q186 rfl dX1_copyFrom_65 ?_
  refine lv_iconst (v := 0) hx hb dX1_copyFrom_68 (by decide) ?_
  refine lv_aload_n hx hb dX1_copyFrom_69 rfl (lv_at hl 0 rfl) ?_
  refine getF hx hb hta hown hE.1 hW hc0 8 (by decide) q186 rfl dX1_copyFrom_70 ?_
  refine lv_iconst (v := 0) hx hb dX1_copyFrom_73 (by decide) ?_
  refine lv_bipush (v := 10) hx hb dX1_copyFrom_74 (by decide) ?_
  refine copy (k0 := (d1 + 1)) (k1 := (c0 + 1)) (n := 10) hx hb (hml.trans hl.1.symm) hta hown hE.1 hW hS q435 q437 q436 q45 (shF_1 hd1) (shF_1 hc0) (vp_lit (by decide +kernel)) (vp_lit (by decide +kernel)) (Nat.le_of_ble_eq_true rfl) (Nat.le_of_ble_eq_true rfl) dX1_copyFrom_76 (fun H locs hW hS => ?_)
  obtain ⟨σ17, e18, hf⟩ := st_e hf
  rw [e18] at hW
  refine lv_aload_n hx hb dX1_copyFrom_79 rfl (lv_at hl 1 rfl) ?_
  refine getF hx hb hta hown hE.1 hW hd1 9 (by decide) q188 rfl dX1_copyFrom_80 ?_
  refine lv_iconst (v := 0) hx hb dX1_copyFrom_83 (by decide) ?_
  refine lv_aload_n hx hb dX1_copyFrom_84 rfl (lv_at hl 0 rfl) ?_
  refine getF hx hb hta hown hE.1 hW hc0 9 (by decide) q188 rfl dX1_copyFrom_85 ?_
  refine lv_iconst (v := 0) hx hb dX1_copyFrom_88 (by decide) ?_
  refine lv_iconst (v := 4) hx hb dX1_copyFrom_89 (by decide) ?_
  refine copy (k0 := (d1 + 2)) (k1 := (c0 + 2)) (n := 4) hx hb (hml.trans hl.1.symm) hta hown hE.1 hW hS q435 q437 q436 q45 (shF_2 hd1) (shF_2 hc0) (vp_lit (by decide +kernel)) (vp_lit (by decide +kernel)) (Nat.le_of_ble_eq_true rfl) (Nat.le_of_ble_eq_true rfl) dX1_copyFrom_90 (fun H locs hW hS => ?_)
  obtain ⟨σ19, e20, hf⟩ := st_e hf
  rw [e20] at hW
  refine lv_aload_n hx hb dX1_copyFrom_93 rfl (lv_at hl 0 rfl) ?_
  refine lv_aload_n hx hb dX1_copyFrom_94 rfl (lv_at hl 1 rfl) ?_
  refine getF hx hb hta hown hE.1 hW hd1 10 (by decide) q190 rfl dX1_copyFrom_95 ?_
  refine putX (k := c0) (q := (1, 0)) (ci := 1) (x := (σ19 d1 10)) inA1 tyX1_ok nmX1 rfl (by decide) rfl hx hb hta hown hE.1 hW hS hc0 10 (by decide) q190 rfl rfl rfl (Nat.le_of_ble_eq_true rfl) rfl dX1_copyFrom_98 (fun H locs hW hS => ?_)
  obtain ⟨σ21, e22, hf⟩ := st_e hf
  rw [e22] at hW
  refine lv_iconst (v := 0) hx hb dX1_copyFrom_101 (by decide) ?_
  refine lv_istore_n (lv' := [(2, .int 0), (0, .ref (b + c0)), (1, .ref (b + d1))]) hx hb dX1_copyFrom_102 rfl hl (by decide) rfl (fun ls hl => ?_)
  have key_103 : ∀ (n : Nat) (τ : Sg) (x2 : Int32) (H : Heap) (locs : List Loc) (ls : Array Slot), l_X1_copyFrom_103 c0 d1 n τ x2 = some σr → wd D t b τ H → va_S (geA b) s.heap H locs → lv_has ls 3 [(0, .ref (b + c0)), (1, .ref (b + d1)), (2, .int x2)] → W p l e (headSpec (Cond.code yX1_copyFrom cX1_copyFrom 3 none :: ALL) ({ frames := 2, cells := 0, slots := 0, locals := 81 })).room s m (([.ref (b + c0), .ref (b + d1)] : List Value).toArray) below meth c H locs 0 0 (MQ below (QG D t b σr none) (([.ref (b + c0), .ref (b + d1)] : List Value).toArray) s 0 0 (geA b)) (F0 m 103 ls []) := by
    intro n
    induction n with
    | zero =>
      intro τ x2 H locs ls hf
      rw [l_X1_copyFrom_103.eq_1] at hf
      cases hf
    | succ n ih_103 =>
      intro τ x2 H locs ls hf hW hS hl
      rw [l_X1_copyFrom_103.eq_2] at hf
      refine lv_iload_n hx hb dX1_copyFrom_103 rfl (lv_at hl 2 rfl) ?_
      refine lv_aload_n hx hb dX1_copyFrom_104 rfl (lv_at hl 0 rfl) ?_
      refine getF hx hb hta hown hE.1 hW hc0 10 (by decide) q190 rfl dX1_copyFrom_105 ?_
      refine lv_icmp_ge (tgt := 132) hx hb dX1_copyFrom_108 (by decide) (fun h23 => ?_) (fun h23 => ?_)
      · have hf := ifp h23 hf
        refine lv_aload_n hx hb dX1_copyFrom_132 rfl (lv_at hl 0 rfl) ?_
        refine getF hx hb hta hown hE.1 hW hc0 12 (by decide) q194 rfl dX1_copyFrom_133 ?_
        refine lv_aload_n hx hb dX1_copyFrom_136 rfl (lv_at hl 1 rfl) ?_
        refine getF hx hb hta hown hE.1 hW hd1 12 (by decide) q194 rfl dX1_copyFrom_137 ?_
        obtain ⟨σ26, u25, hf⟩ := b1_e hf
        refine mV (k := (c0 + 4)) (q := (2, 0)) (C := RX0) (T := TX0) (N := 10) (ci := 0) (n := 1) (As := [.ref (b + (d1 + 4))]) (rest := []) (c_X0_copyFrom l D t b (c0 + 4) (d1 + 4) τ σ26 (shF_4 hc0) (shF_4 hd1) u25) (shF_4 hc0) (by decide) rfl rfl hx hb hml hown hts hE hW hS q443 q444 q445 q36 q446 hy_X0_copyFrom ⟨rfl, rfl⟩ ⟨Nat.le_of_ble_eq_true rfl, Nat.le_of_ble_eq_true rfl⟩ rfl rfl hl.1 (Nat.le_of_ble_eq_true rfl) ⟨Nat.zero_le _, Nat.zero_le _⟩ dX1_copyFrom_140 (fun H locs hW hS => ?_)
        cases hf
        exact W.vret hx hb hr (fun u hu _ => ⟨⟨rfl, by rw [hu]; exact hW⟩, hS.F hu⟩) hS.2.2 dX1_copyFrom_143
      · have hf := ifn h23 hf
        refine lv_aload_n hx hb dX1_copyFrom_111 rfl (lv_at hl 0 rfl) ?_
        refine getF hx hb hta hown hE.1 hW hc0 11 (by decide) q192 rfl dX1_copyFrom_112 ?_
        refine lv_iload_n hx hb dX1_copyFrom_115 rfl (lv_at hl 2 rfl) ?_
        obtain ⟨g27, hf⟩ := gd_e hf
        refine sald hx hb hE.1 hW (shF_3 hc0) g27 dX1_copyFrom_116 ?_
        refine lv_aload_n hx hb dX1_copyFrom_117 rfl (lv_at hl 1 rfl) ?_
        refine getF hx hb hta hown hE.1 hW hd1 11 (by decide) q192 rfl dX1_copyFrom_118 ?_
        refine lv_iload_n hx hb dX1_copyFrom_121 rfl (lv_at hl 2 rfl) ?_
        refine sald hx hb hE.1 hW (shF_3 hd1) g27 dX1_copyFrom_122 ?_
        obtain ⟨σ30, u29, hf⟩ := b1_e hf
        refine mV (k := (sk (c0 + 3) x2)) (q := (3, 0)) (C := RX3) (T := TX3) (N := 11) (ci := 3) (n := 1) (As := [.ref (b + (sk (d1 + 3) x2))]) (rest := []) (c_X3_copyFrom l D t b (sk (c0 + 3) x2) (sk (d1 + 3) x2) τ σ30 (shF_sk hc0 g27) (shF_sk hd1 g27) u29) (shF_sk hc0 g27) (by decide) rfl rfl hx hb hml hown hts hE hW hS q438 q439 q440 q37 q441 hy_X3_copyFrom ⟨rfl, rfl⟩ ⟨Nat.le_of_ble_eq_true rfl, Nat.le_of_ble_eq_true rfl⟩ rfl rfl hl.1 (Nat.le_of_ble_eq_true rfl) ⟨Nat.zero_le _, Nat.zero_le _⟩ dX1_copyFrom_123 (fun H locs hW hS => ?_)
        refine lv_iinc (v := (x2 + 1)) (lv' := [(2, .int (x2 + 1)), (0, .ref (b + c0)), (1, .ref (b + d1))]) hx hb dX1_copyFrom_126 hl (k := 2) rfl (by rfl) (by decide) rfl (fun ls hl => ?_)
        refine lv_goto (tgt := 103) hx hb dX1_copyFrom_129 (by decide) ?_
        exact ih_103 σ30 (x2 + 1) _ _ _ hf hW hS (lv_sub hl [1, 2, 0] rfl)
  exact key_103 10000 σ21 0 _ _ _ hf hW hS (lv_sub hl [1, 2, 0] rfl)
def f_X4_keepRecord (σ : Sg) : Option Sg := gd (σ 0 5) 4 (b1 (f_X1_copyFrom (rk 82 (σ 0 5)) 1 σ) fun σ4 => st (u2 σ4 0 5 (((σ4 0 5) + 1) - ((σ4 0 5) + 1) / 4 * 4)) fun σ5 => if 4 ≤ (σ5 0 6) then (some σ5) else (st (u2 σ5 0 6 ((σ5 0 6) + 1)) fun σ8 => some σ8))
set_option maxHeartbeats 4000000 in
set_option maxRecDepth 100000 in
theorem c_X4_keepRecord (l : Launch) (D : va_G) (t : Nat → ClassId) (b : Nat) (σ : Sg) (σr : Sg) (hf : f_X4_keepRecord σ = some σr) : Met l yX4_keepRecord (Cond.code yX4_keepRecord cX4_keepRecord 1 none :: ALL) ({ frames := 3, cells := 0, slots := 0, locals := 103 }) (PM D t b σ [.ref (b + 0)]) (QG D t b σr none) 0 0 (geA b) := by
  refine Met.ofW (cc := cX4_keepRecord) (maxL := 1) (ret := none) (by decide) rfl ?_
  intro p e s m args below meth c s₁ B hml hv
  obtain ⟨rfl, hW, hE⟩ := hv
  have hx := B.exec
  have hb := B.bytes
  have hr := B.returns
  have hts := atoms_spec (ws := Cond.code yX4_keepRecord cX4_keepRecord 1 none :: ALL) B.pre
  have hta := fun w h => hts w (List.mem_cons_of_mem _ h)
  have hown : s.vm.findClass RX4 = some m.cls := findClass_of_methodNamed B.named
  have hlocks := B.notSynchronized
  have hS : va_S (geA b) s.heap s.heap [] := va_S.rf
  have hl := lv_entry ([.ref (b + 0)]) (n := 1) (Nat.le_of_ble_eq_true rfl)
  rw [lg_entry_eq]
  generalize (lg_sl ([.ref (b + 0)]) ++ List.replicate (1 - (lg_sl ([.ref (b + 0)])).length) Slot.unset).toArray = ls at hl ⊢
  have hl : lv_has ls 1 [(0, .ref (b + 0))] := hl
  unfold f_X4_keepRecord at hf
  refine lv_aload_n hx hb dX4_keepRecord_0 rfl (lv_at hl 0 rfl) ?_
  refine getP hx hb hta hown hE.1 hW 4 (by decide) q278 rfl dX4_keepRecord_1 ?_
  refine lv_aload_n hx hb dX4_keepRecord_4 rfl (lv_at hl 0 rfl) ?_
  refine getP hx hb hta hown hE.1 hW 5 (by decide) q279 rfl dX4_keepRecord_5 ?_
  obtain ⟨g1, hf⟩ := gd_e hf
  refine rald hx hb hE.1 hW sh_82 g1 dX4_keepRecord_8 ?_
  refine lv_aload_n hx hb dX4_keepRecord_9 rfl (lv_at hl 0 rfl) ?_
  refine getP hx hb hta hown hE.1 hW 0 (by decide) q274 rfl dX4_keepRecord_10 ?_
  obtain ⟨σ4, u3, hf⟩ := b1_e hf
  refine mV (k := (rk 82 (σ 0 5))) (q := (1, 0)) (C := RX1) (T := TX1) (N := 13) (ci := 1) (n := 1) (As := [.ref (b + 1)]) (rest := []) (c_X1_copyFrom l D t b (rk 82 (σ 0 5)) 1 σ σ4 (shR_rk g1) sh_1 u3) (shR_rk g1) (by decide) rfl rfl hx hb hml hown hts hE hW hS q431 q432 q433 q35 q434 hy_X1_copyFrom ⟨rfl, rfl⟩ ⟨Nat.le_of_ble_eq_true rfl, Nat.le_of_ble_eq_true rfl⟩ rfl rfl hl.1 (Nat.le_of_ble_eq_true rfl) ⟨Nat.zero_le _, Nat.zero_le _⟩ dX4_keepRecord_13 (fun H locs hW hS => ?_)
  refine lv_aload_n hx hb dX4_keepRecord_16 rfl (lv_at hl 0 rfl) ?_
  refine lv_aload_n hx hb dX4_keepRecord_17 rfl (lv_at hl 0 rfl) ?_
  refine getP hx hb hta hown hE.1 hW 5 (by decide) q279 rfl dX4_keepRecord_18 ?_
  refine lv_iconst (v := 1) hx hb dX4_keepRecord_21 (by decide) ?_
  refine lv_iadd hx hb dX4_keepRecord_22 ?_
  refine lv_iconst (v := 4) hx hb dX4_keepRecord_23 (by decide) ?_
  refine lv_irem hx hb dX4_keepRecord_24 (by decide) ?_
  refine putX (k := 0) (q := (0, 0)) (ci := 4) (x := (((σ4 0 5) + 1) - ((σ4 0 5) + 1) / 4 * 4)) inA4 tyX4_ok nmX4 rfl (by decide) rfl hx hb hta hown hE.1 hW hS sh_0 5 (by decide) q279 rfl rfl rfl (Nat.le_of_ble_eq_true rfl) rfl dX4_keepRecord_25 (fun H locs hW hS => ?_)
  obtain ⟨σ5, e6, hf⟩ := st_e hf
  rw [e6] at hW
  refine lv_aload_n hx hb dX4_keepRecord_28 rfl (lv_at hl 0 rfl) ?_
  refine getP hx hb hta hown hE.1 hW 6 (by decide) q280 rfl dX4_keepRecord_29 ?_
  refine lv_iconst (v := 4) hx hb dX4_keepRecord_32 (by decide) ?_
  refine lv_icmp_ge (tgt := 46) hx hb dX4_keepRecord_33 (by decide) (fun h7 => ?_) (fun h7 => ?_)
  · have hf := ifp h7 hf
    cases hf
    exact W.vret hx hb hr (fun u hu _ => ⟨⟨rfl, by rw [hu]; exact hW⟩, hS.F hu⟩) hS.2.2 dX4_keepRecord_46
  · have hf := ifn h7 hf
    refine lv_aload_n hx hb dX4_keepRecord_36 rfl (lv_at hl 0 rfl) ?_
    refine lv_dup hx hb dX4_keepRecord_37 rfl ?_
    refine getP hx hb hta hown hE.1 hW 6 (by decide) q280 rfl dX4_keepRecord_38 ?_
    refine lv_iconst (v := 1) hx hb dX4_keepRecord_41 (by decide) ?_
    refine lv_iadd hx hb dX4_keepRecord_42 ?_
    refine putX (k := 0) (q := (0, 0)) (ci := 4) (x := ((σ5 0 6) + 1)) inA4 tyX4_ok nmX4 rfl (by decide) rfl hx hb hta hown hE.1 hW hS sh_0 6 (by decide) q280 rfl rfl rfl (Nat.le_of_ble_eq_true rfl) rfl dX4_keepRecord_43 (fun H locs hW hS => ?_)
    obtain ⟨σ8, e9, hf⟩ := st_e hf
    rw [e9] at hW
    cases hf
    exact W.vret hx hb hr (fun u hu _ => ⟨⟨rfl, by rw [hu]; exact hW⟩, hS.F hu⟩) hS.2.2 dX4_keepRecord_46
def f_X4_winningPlay (σ : Sg) (p0 : Int32) : Option Int32 := if p0 = 0 then (some 4) else (if p0 = 1 then (some 3) else (if p0 = 2 then (some 5) else (if p0 = 3 then (some 1) else (some 0))))
set_option maxHeartbeats 4000000 in
set_option maxRecDepth 100000 in
theorem c_X4_winningPlay (l : Launch) (D : va_G) (t : Nat → ClassId) (b : Nat) (σ : Sg) (p0 : Int32) (r : Int32) (hf : f_X4_winningPlay σ p0 = some r) : Met l yX4_winningPlay (Cond.code yX4_winningPlay cX4_winningPlay 1 (some .int) :: ALL) ({ frames := 0, cells := 0, slots := 0, locals := 0 }) (PM D t b σ [.int p0]) (QG D t b σ (some (.int r))) 0 0 (geA b) := by
  refine Met.ofW (cc := cX4_winningPlay) (maxL := 1) (ret := (some .int)) (by decide) rfl ?_
  intro p e s m args below meth c s₁ B hml hv
  obtain ⟨rfl, hW, hE⟩ := hv
  have hx := B.exec
  have hb := B.bytes
  have hr := B.returns
  have hts := atoms_spec (ws := Cond.code yX4_winningPlay cX4_winningPlay 1 (some .int) :: ALL) B.pre
  have hta := fun w h => hts w (List.mem_cons_of_mem _ h)
  have hown : s.vm.findClass RX4 = some m.cls := findClass_of_methodNamed B.named
  have hlocks := B.notSynchronized
  have hS : va_S (geA b) s.heap s.heap [] := va_S.rf
  have hl := lv_entry ([.int p0]) (n := 1) (Nat.le_of_ble_eq_true rfl)
  rw [lg_entry_eq]
  generalize (lg_sl ([.int p0]) ++ List.replicate (1 - (lg_sl ([.int p0])).length) Slot.unset).toArray = ls at hl ⊢
  have hl : lv_has ls 1 [(0, .int p0)] := hl
  unfold f_X4_winningPlay at hf
  refine lv_iload_n hx hb dX4_winningPlay_0 rfl (lv_at hl 0 rfl) ?_
  by_cases h1 : p0 = 0
  · have hf := ifp h1 hf
    refine lv_tableIn (off := 31) (tgt := 32) hx hb dX4_winningPlay_1 (by rw [h1]; decide) (by rw [h1]; decide) (by rw [h1]; decide) (by decide) ?_
    refine lv_iconst (v := 4) hx hb dX4_winningPlay_32 (by decide) ?_
    cases hf
    exact W.iret hx hb hr (fun u hu _ => ⟨⟨rfl, by rw [hu]; exact hW⟩, hS.F hu⟩) hS.2.2 dX4_winningPlay_33
  · have hf := ifn h1 hf
    by_cases h2 : p0 = 1
    · have hf := ifp h2 hf
      refine lv_tableIn (off := 33) (tgt := 34) hx hb dX4_winningPlay_1 (by rw [h2]; decide) (by rw [h2]; decide) (by rw [h2]; decide) (by decide) ?_
      refine lv_iconst (v := 3) hx hb dX4_winningPlay_34 (by decide) ?_
      cases hf
      exact W.iret hx hb hr (fun u hu _ => ⟨⟨rfl, by rw [hu]; exact hW⟩, hS.F hu⟩) hS.2.2 dX4_winningPlay_35
    · have hf := ifn h2 hf
      by_cases h3 : p0 = 2
      · have hf := ifp h3 hf
        refine lv_tableIn (off := 35) (tgt := 36) hx hb dX4_winningPlay_1 (by rw [h3]; decide) (by rw [h3]; decide) (by rw [h3]; decide) (by decide) ?_
        refine lv_iconst (v := 5) hx hb dX4_winningPlay_36 (by decide) ?_
        cases hf
        exact W.iret hx hb hr (fun u hu _ => ⟨⟨rfl, by rw [hu]; exact hW⟩, hS.F hu⟩) hS.2.2 dX4_winningPlay_37
      · have hf := ifn h3 hf
        by_cases h4 : p0 = 3
        · have hf := ifp h4 hf
          refine lv_tableIn (off := 37) (tgt := 38) hx hb dX4_winningPlay_1 (by rw [h4]; decide) (by rw [h4]; decide) (by rw [h4]; decide) (by decide) ?_
          refine lv_iconst (v := 1) hx hb dX4_winningPlay_38 (by decide) ?_
          cases hf
          exact W.iret hx hb hr (fun u hu _ => ⟨⟨rfl, by rw [hu]; exact hW⟩, hS.F hu⟩) hS.2.2 dX4_winningPlay_39
        · have hf := ifn h4 hf
          refine lv_tableOut (tgt := 40) hx hb dX4_winningPlay_1 (by have zh1 := lv_neT (a := 0) h1 (by decide); have zh2 := lv_neT (a := 1) h2 (by decide); have zh3 := lv_neT (a := 2) h3 (by decide); have zh4 := lv_neT (a := 3) h4 (by decide); omega) (by decide) ?_
          refine lv_iconst (v := 0) hx hb dX4_winningPlay_40 (by decide) ?_
          cases hf
          exact W.iret hx hb hr (fun u hu _ => ⟨⟨rfl, by rw [hu]; exact hW⟩, hS.F hu⟩) hS.2.2 dX4_winningPlay_41
def f_X4_greatestLevelOf (σ : Sg) (p0 : Int32) : Option Int32 := if p0 = 0 then (some 2) else (if p0 = 1 then (some 1) else (if p0 = 2 then (some 3) else (if p0 = 3 then (some 0) else (some (-1)))))
set_option maxHeartbeats 4000000 in
set_option maxRecDepth 100000 in
theorem c_X4_greatestLevelOf (l : Launch) (D : va_G) (t : Nat → ClassId) (b : Nat) (σ : Sg) (p0 : Int32) (r : Int32) (hf : f_X4_greatestLevelOf σ p0 = some r) : Met l yX4_greatestLevelOf (Cond.code yX4_greatestLevelOf cX4_greatestLevelOf 1 (some .int) :: ALL) ({ frames := 0, cells := 0, slots := 0, locals := 0 }) (PM D t b σ [.int p0]) (QG D t b σ (some (.int r))) 0 0 (geA b) := by
  refine Met.ofW (cc := cX4_greatestLevelOf) (maxL := 1) (ret := (some .int)) (by decide) rfl ?_
  intro p e s m args below meth c s₁ B hml hv
  obtain ⟨rfl, hW, hE⟩ := hv
  have hx := B.exec
  have hb := B.bytes
  have hr := B.returns
  have hts := atoms_spec (ws := Cond.code yX4_greatestLevelOf cX4_greatestLevelOf 1 (some .int) :: ALL) B.pre
  have hta := fun w h => hts w (List.mem_cons_of_mem _ h)
  have hown : s.vm.findClass RX4 = some m.cls := findClass_of_methodNamed B.named
  have hlocks := B.notSynchronized
  have hS : va_S (geA b) s.heap s.heap [] := va_S.rf
  have hl := lv_entry ([.int p0]) (n := 1) (Nat.le_of_ble_eq_true rfl)
  rw [lg_entry_eq]
  generalize (lg_sl ([.int p0]) ++ List.replicate (1 - (lg_sl ([.int p0])).length) Slot.unset).toArray = ls at hl ⊢
  have hl : lv_has ls 1 [(0, .int p0)] := hl
  unfold f_X4_greatestLevelOf at hf
  refine lv_iload_n hx hb dX4_greatestLevelOf_0 rfl (lv_at hl 0 rfl) ?_
  by_cases h1 : p0 = 0
  · have hf := ifp h1 hf
    refine lv_tableIn (off := 31) (tgt := 32) hx hb dX4_greatestLevelOf_1 (by rw [h1]; decide) (by rw [h1]; decide) (by rw [h1]; decide) (by decide) ?_
    refine lv_iconst (v := 2) hx hb dX4_greatestLevelOf_32 (by decide) ?_
    cases hf
    exact W.iret hx hb hr (fun u hu _ => ⟨⟨rfl, by rw [hu]; exact hW⟩, hS.F hu⟩) hS.2.2 dX4_greatestLevelOf_33
  · have hf := ifn h1 hf
    by_cases h2 : p0 = 1
    · have hf := ifp h2 hf
      refine lv_tableIn (off := 33) (tgt := 34) hx hb dX4_greatestLevelOf_1 (by rw [h2]; decide) (by rw [h2]; decide) (by rw [h2]; decide) (by decide) ?_
      refine lv_iconst (v := 1) hx hb dX4_greatestLevelOf_34 (by decide) ?_
      cases hf
      exact W.iret hx hb hr (fun u hu _ => ⟨⟨rfl, by rw [hu]; exact hW⟩, hS.F hu⟩) hS.2.2 dX4_greatestLevelOf_35
    · have hf := ifn h2 hf
      by_cases h3 : p0 = 2
      · have hf := ifp h3 hf
        refine lv_tableIn (off := 35) (tgt := 36) hx hb dX4_greatestLevelOf_1 (by rw [h3]; decide) (by rw [h3]; decide) (by rw [h3]; decide) (by decide) ?_
        refine lv_iconst (v := 3) hx hb dX4_greatestLevelOf_36 (by decide) ?_
        cases hf
        exact W.iret hx hb hr (fun u hu _ => ⟨⟨rfl, by rw [hu]; exact hW⟩, hS.F hu⟩) hS.2.2 dX4_greatestLevelOf_37
      · have hf := ifn h3 hf
        by_cases h4 : p0 = 3
        · have hf := ifp h4 hf
          refine lv_tableIn (off := 37) (tgt := 38) hx hb dX4_greatestLevelOf_1 (by rw [h4]; decide) (by rw [h4]; decide) (by rw [h4]; decide) (by decide) ?_
          refine lv_iconst (v := 0) hx hb dX4_greatestLevelOf_38 (by decide) ?_
          cases hf
          exact W.iret hx hb hr (fun u hu _ => ⟨⟨rfl, by rw [hu]; exact hW⟩, hS.F hu⟩) hS.2.2 dX4_greatestLevelOf_39
        · have hf := ifn h4 hf
          refine lv_tableOut (tgt := 40) hx hb dX4_greatestLevelOf_1 (by have zh1 := lv_neT (a := 0) h1 (by decide); have zh2 := lv_neT (a := 1) h2 (by decide); have zh3 := lv_neT (a := 2) h3 (by decide); have zh4 := lv_neT (a := 3) h4 (by decide); omega) (by decide) ?_
          refine lv_iconst (v := (-1)) hx hb dX4_greatestLevelOf_40 (by decide) ?_
          cases hf
          exact W.iret hx hb hr (fun u hu _ => ⟨⟨rfl, by rw [hu]; exact hW⟩, hS.F hu⟩) hS.2.2 dX4_greatestLevelOf_41
def l_X3_setUp_55 (c0 : Nat) : Nat → Sg → Int32 → Option Sg
  | 0, _, _ => none
  | n + 1, τ, x5 => if 16 ≤ x5 then (some τ) else (gd x5 16 (st (u2 τ (c0 + 1) (x5).toNatClampNeg 0) fun σ26 => l_X3_setUp_55 c0 n σ26 (x5 + 1)))
def f_X3_setUp (c0 : Nat) (σ : Sg) (p1 : Int32) (p2 : Int32) (p3 : Int32) (p4 : Int32) : Option Sg := st (u2 σ c0 0 p1) fun σ1 => st (u2 σ1 c0 1 p2) fun σ3 => st (u2 σ3 c0 2 p3) fun σ5 => gd p4 2 (st (u2 σ5 c0 3 p4) fun σ8 => st (u2 σ8 c0 4 1) fun σ10 => st (u2 σ10 c0 5 0) fun σ12 => st (u2 σ12 c0 6 0) fun σ14 => b1 (f_X4_winningPlay σ14 p2) fun y16 => st (u2 σ14 c0 7 y16) fun σ18 => b1 (f_X4_greatestLevelOf σ18 p2) fun y20 => st (u2 σ18 c0 8 y20) fun σ22 => l_X3_setUp_55 c0 10000 σ22 0)
set_option maxHeartbeats 4000000 in
set_option maxRecDepth 100000 in
theorem c_X3_setUp (l : Launch) (D : va_G) (t : Nat → ClassId) (b : Nat) (c0 : Nat) (σ : Sg) (p1 : Int32) (p2 : Int32) (p3 : Int32) (p4 : Int32) (σr : Sg) (hc0 : sh c0 = (3, 0)) (hf : f_X3_setUp c0 σ p1 p2 p3 p4 = some σr) : Met l yX3_setUp (Cond.code yX3_setUp cX3_setUp 6 none :: ALL) ({ frames := 1, cells := 0, slots := 0, locals := 20 }) (PM D t b σ [.ref (b + c0), .int p1, .int p2, .int p3, .int p4]) (QG D t b σr none) 0 0 (geA b) := by
  refine Met.ofW (cc := cX3_setUp) (maxL := 6) (ret := none) (by decide) rfl ?_
  intro p e s m args below meth c s₁ B hml hv
  obtain ⟨rfl, hW, hE⟩ := hv
  have hx := B.exec
  have hb := B.bytes
  have hr := B.returns
  have hts := atoms_spec (ws := Cond.code yX3_setUp cX3_setUp 6 none :: ALL) B.pre
  have hta := fun w h => hts w (List.mem_cons_of_mem _ h)
  have hown : s.vm.findClass RX3 = some m.cls := findClass_of_methodNamed B.named
  have hlocks := B.notSynchronized
  have hS : va_S (geA b) s.heap s.heap [] := va_S.rf
  have hl := lv_entry ([.ref (b + c0), .int p1, .int p2, .int p3, .int p4]) (n := 6) (Nat.le_of_ble_eq_true rfl)
  rw [lg_entry_eq]
  generalize (lg_sl ([.ref (b + c0), .int p1, .int p2, .int p3, .int p4]) ++ List.replicate (6 - (lg_sl ([.ref (b + c0), .int p1, .int p2, .int p3, .int p4])).length) Slot.unset).toArray = ls at hl ⊢
  have hl : lv_has ls 6 [(0, .ref (b + c0)), (1, .int p1), (2, .int p2), (3, .int p3), (4, .int p4)] := hl
  unfold f_X3_setUp at hf
  refine lv_aload_n hx hb dX3_setUp_0 rfl (lv_at hl 0 rfl) ?_
  refine lv_iload_n hx hb dX3_setUp_1 rfl (lv_at hl 1 rfl) ?_
  refine putX (k := c0) (q := (3, 0)) (ci := 3) (x := p1) inA3 tyX3_ok nmX3 rfl (by decide) rfl hx hb hta hown hE.1 hW hS hc0 0 (by decide) q120 rfl rfl rfl (Nat.le_of_ble_eq_true rfl) rfl dX3_setUp_2 (fun H locs hW hS => ?_)
  obtain ⟨σ1, e2, hf⟩ := st_e hf
  rw [e2] at hW
  refine lv_aload_n hx hb dX3_setUp_5 rfl (lv_at hl 0 rfl) ?_
  refine lv_iload_n hx hb dX3_setUp_6 rfl (lv_at hl 2 rfl) ?_
  refine putX (k := c0) (q := (3, 0)) (ci := 3) (x := p2) inA3 tyX3_ok nmX3 rfl (by decide) rfl hx hb hta hown hE.1 hW hS hc0 1 (by decide) q123 rfl rfl rfl (Nat.le_of_ble_eq_true rfl) rfl dX3_setUp_7 (fun H locs hW hS => ?_)
  obtain ⟨σ3, e4, hf⟩ := st_e hf
  rw [e4] at hW
  refine lv_aload_n hx hb dX3_setUp_10 rfl (lv_at hl 0 rfl) ?_
  refine lv_iload_n hx hb dX3_setUp_11 rfl (lv_at hl 3 rfl) ?_
  refine putX (k := c0) (q := (3, 0)) (ci := 3) (x := p3) inA3 tyX3_ok nmX3 rfl (by decide) rfl hx hb hta hown hE.1 hW hS hc0 2 (by decide) q126 rfl rfl rfl (Nat.le_of_ble_eq_true rfl) rfl dX3_setUp_12 (fun H locs hW hS => ?_)
  obtain ⟨σ5, e6, hf⟩ := st_e hf
  rw [e6] at hW
  refine lv_aload_n hx hb dX3_setUp_15 rfl (lv_at hl 0 rfl) ?_
  refine lv_iload hx hb dX3_setUp_16 (lv_at hl 4 rfl) ?_
  obtain ⟨g7, hf⟩ := gd_e hf
  refine putX (k := c0) (q := (3, 0)) (ci := 3) (x := p4) inA3 tyX3_ok nmX3 rfl (by decide) rfl hx hb hta hown hE.1 hW hS hc0 3 (by decide) q130 rfl (nar_bool g7).1 (nar_bool g7).2 (Nat.le_of_ble_eq_true rfl) rfl dX3_setUp_18 (fun H locs hW hS => ?_)
  obtain ⟨σ8, e9, hf⟩ := st_e hf
  rw [e9] at hW
  refine lv_aload_n hx hb dX3_setUp_21 rfl (lv_at hl 0 rfl) ?_
  refine lv_iconst (v := 1) hx hb dX3_setUp_22 (by decide) ?_
  refine putX (k := c0) (q := (3, 0)) (ci := 3) (x := 1) inA3 tyX3_ok nmX3 rfl (by decide) rfl hx hb hta hown hE.1 hW hS hc0 4 (by decide) q132 rfl (by decide) (by decide) (Nat.le_of_ble_eq_true rfl) rfl dX3_setUp_23 (fun H locs hW hS => ?_)
  obtain ⟨σ10, e11, hf⟩ := st_e hf
  rw [e11] at hW
  refine lv_aload_n hx hb dX3_setUp_26 rfl (lv_at hl 0 rfl) ?_
  refine lv_iconst (v := 0) hx hb dX3_setUp_27 (by decide) ?_
  refine putX (k := c0) (q := (3, 0)) (ci := 3) (x := 0) inA3 tyX3_ok nmX3 rfl (by decide) rfl hx hb hta hown hE.1 hW hS hc0 5 (by decide) q135 rfl rfl rfl (Nat.le_of_ble_eq_true rfl) rfl dX3_setUp_28 (fun H locs hW hS => ?_)
  obtain ⟨σ12, e13, hf⟩ := st_e hf
  rw [e13] at hW
  refine lv_aload_n hx hb dX3_setUp_31 rfl (lv_at hl 0 rfl) ?_
  refine lv_iconst (v := 0) hx hb dX3_setUp_32 (by decide) ?_
  refine putX (k := c0) (q := (3, 0)) (ci := 3) (x := 0) inA3 tyX3_ok nmX3 rfl (by decide) rfl hx hb hta hown hE.1 hW hS hc0 6 (by decide) q138 rfl rfl rfl (Nat.le_of_ble_eq_true rfl) rfl dX3_setUp_33 (fun H locs hW hS => ?_)
  obtain ⟨σ14, e15, hf⟩ := st_e hf
  rw [e15] at hW
  refine lv_aload_n hx hb dX3_setUp_36 rfl (lv_at hl 0 rfl) ?_
  refine lv_iload_n hx hb dX3_setUp_37 rfl (lv_at hl 2 rfl) ?_
  obtain ⟨y16, u17, hf⟩ := b1_e hf
  refine mSN (n := 1) (As := [.int p2]) (rest := [.ref (b + c0)]) (c_X4_winningPlay l D t b σ14 p2 y16 u17) hx hb hml hown hts hE hW hS ng_460 q461 q34 q462 hs_X4_winningPlay ⟨rfl, rfl⟩ ⟨Nat.le_of_ble_eq_true rfl, Nat.le_of_ble_eq_true rfl⟩ rfl rfl hl.1 (Nat.le_of_ble_eq_true rfl) ⟨Nat.zero_le _, Nat.zero_le _⟩ dX3_setUp_38 (fun H locs hW hS => ?_)
  refine putX (k := c0) (q := (3, 0)) (ci := 3) (x := y16) inA3 tyX3_ok nmX3 rfl (by decide) rfl hx hb hta hown hE.1 hW hS hc0 7 (by decide) q141 rfl rfl rfl (Nat.le_of_ble_eq_true rfl) rfl dX3_setUp_41 (fun H locs hW hS => ?_)
  obtain ⟨σ18, e19, hf⟩ := st_e hf
  rw [e19] at hW
  refine lv_aload_n hx hb dX3_setUp_44 rfl (lv_at hl 0 rfl) ?_
  refine lv_iload_n hx hb dX3_setUp_45 rfl (lv_at hl 2 rfl) ?_
  obtain ⟨y20, u21, hf⟩ := b1_e hf
  refine mSN (n := 1) (As := [.int p2]) (rest := [.ref (b + c0)]) (c_X4_greatestLevelOf l D t b σ18 p2 y20 u21) hx hb hml hown hts hE hW hS ng_463 q464 q34 q465 hs_X4_greatestLevelOf ⟨rfl, rfl⟩ ⟨Nat.le_of_ble_eq_true rfl, Nat.le_of_ble_eq_true rfl⟩ rfl rfl hl.1 (Nat.le_of_ble_eq_true rfl) ⟨Nat.zero_le _, Nat.zero_le _⟩ dX3_setUp_46 (fun H locs hW hS => ?_)
  refine putX (k := c0) (q := (3, 0)) (ci := 3) (x := y20) inA3 tyX3_ok nmX3 rfl (by decide) rfl hx hb hta hown hE.1 hW hS hc0 8 (by decide) q142 rfl rfl rfl (Nat.le_of_ble_eq_true rfl) rfl dX3_setUp_49 (fun H locs hW hS => ?_)
  obtain ⟨σ22, e23, hf⟩ := st_e hf
  rw [e23] at hW
  refine lv_iconst (v := 0) hx hb dX3_setUp_52 (by decide) ?_
  refine lv_istore (lv' := [(5, .int 0), (0, .ref (b + c0)), (1, .int p1), (2, .int p2), (3, .int p3), (4, .int p4)]) hx hb dX3_setUp_53 hl (by decide) rfl (fun ls hl => ?_)
  have key_55 : ∀ (n : Nat) (τ : Sg) (x5 : Int32) (H : Heap) (locs : List Loc) (ls : Array Slot), l_X3_setUp_55 c0 n τ x5 = some σr → wd D t b τ H → va_S (geA b) s.heap H locs → lv_has ls 6 [(0, .ref (b + c0)), (5, .int x5)] → W p l e (headSpec (Cond.code yX3_setUp cX3_setUp 6 none :: ALL) ({ frames := 1, cells := 0, slots := 0, locals := 20 })).room s m (([.ref (b + c0), .int p1, .int p2, .int p3, .int p4] : List Value).toArray) below meth c H locs 0 0 (MQ below (QG D t b σr none) (([.ref (b + c0), .int p1, .int p2, .int p3, .int p4] : List Value).toArray) s 0 0 (geA b)) (F0 m 55 ls []) := by
    intro n
    induction n with
    | zero =>
      intro τ x5 H locs ls hf
      rw [l_X3_setUp_55.eq_1] at hf
      cases hf
    | succ n ih_55 =>
      intro τ x5 H locs ls hf hW hS hl
      rw [l_X3_setUp_55.eq_2] at hf
      refine lv_iload hx hb dX3_setUp_55 (lv_at hl 1 rfl) ?_
      refine lv_bipush (v := 16) hx hb dX3_setUp_57 (by decide) ?_
      refine lv_icmp_ge (tgt := 76) hx hb dX3_setUp_59 (by decide) (fun h24 => ?_) (fun h24 => ?_)
      · have hf := ifp h24 hf
        cases hf
        exact W.vret hx hb hr (fun u hu _ => ⟨⟨rfl, by rw [hu]; exact hW⟩, hS.F hu⟩) hS.2.2 dX3_setUp_76
      · have hf := ifn h24 hf
        refine lv_aload_n hx hb dX3_setUp_62 rfl (lv_at hl 0 rfl) ?_
        refine getS hx hb hta hown hE.1 hW hc0 10 (by decide) q144 rfl dX3_setUp_63 ?_
        refine lv_iload hx hb dX3_setUp_66 (lv_at hl 1 rfl) ?_
        refine lv_iconst (v := 0) hx hb dX3_setUp_68 (by decide) ?_
        obtain ⟨g25, hf⟩ := gd_e hf
        refine iast (k := (c0 + 1)) (i := x5) (x := 0) hx hb hE.1 hW hS (shS_1 hc0) g25 dX3_setUp_69 (fun H locs hW hS => ?_)
        obtain ⟨σ26, e27, hf⟩ := st_e hf
        rw [e27] at hW
        refine lv_iinc (v := (x5 + 1)) (lv' := [(5, .int (x5 + 1)), (0, .ref (b + c0))]) hx hb dX3_setUp_70 hl (k := 1) rfl (by rfl) (by decide) rfl (fun ls hl => ?_)
        refine lv_goto (tgt := 55) hx hb dX3_setUp_73 (by decide) ?_
        exact ih_55 σ26 (x5 + 1) _ _ _ hf hW hS (lv_sub hl [1, 0] rfl)
  exact key_55 10000 σ22 0 _ _ _ hf hW hS (lv_sub hl [1, 0] rfl)
def f_X1_addStall (c0 : Nat) (σ : Sg) (p1 : Int32) (p2 : Int32) (p3 : Int32) (p4 : Int32) : Option (Int32 × Sg) := if 6 < (σ c0 10) then (some ((σ c0 10), σ)) else (gd (σ c0 10) 7 (b1 (f_X3_setUp (sk (c0 + 3) (σ c0 10)) σ p1 p2 p3 p4) fun σ5 => st (u2 σ5 c0 10 ((σ5 c0 10) + 1)) fun σ6 => some ((σ c0 10), σ6)))
set_option maxHeartbeats 4000000 in
set_option maxRecDepth 100000 in
theorem c_X1_addStall (l : Launch) (D : va_G) (t : Nat → ClassId) (b : Nat) (c0 : Nat) (σ : Sg) (p1 : Int32) (p2 : Int32) (p3 : Int32) (p4 : Int32) (r : Int32) (σr : Sg) (hc0 : sh c0 = (1, 0)) (hf : f_X1_addStall c0 σ p1 p2 p3 p4 = some (r, σr)) : Met l yX1_addStall (Cond.code yX1_addStall cX1_addStall 6 (some .int) :: ALL) ({ frames := 2, cells := 0, slots := 0, locals := 45 }) (PM D t b σ [.ref (b + c0), .int p1, .int p2, .int p3, .int p4]) (QG D t b σr (some (.int r))) 0 0 (geA b) := by
  refine Met.ofW (cc := cX1_addStall) (maxL := 6) (ret := (some .int)) (by decide) rfl ?_
  intro p e s m args below meth c s₁ B hml hv
  obtain ⟨rfl, hW, hE⟩ := hv
  have hx := B.exec
  have hb := B.bytes
  have hr := B.returns
  have hts := atoms_spec (ws := Cond.code yX1_addStall cX1_addStall 6 (some .int) :: ALL) B.pre
  have hta := fun w h => hts w (List.mem_cons_of_mem _ h)
  have hown : s.vm.findClass RX1 = some m.cls := findClass_of_methodNamed B.named
  have hlocks := B.notSynchronized
  have hS : va_S (geA b) s.heap s.heap [] := va_S.rf
  have hl := lv_entry ([.ref (b + c0), .int p1, .int p2, .int p3, .int p4]) (n := 6) (Nat.le_of_ble_eq_true rfl)
  rw [lg_entry_eq]
  generalize (lg_sl ([.ref (b + c0), .int p1, .int p2, .int p3, .int p4]) ++ List.replicate (6 - (lg_sl ([.ref (b + c0), .int p1, .int p2, .int p3, .int p4])).length) Slot.unset).toArray = ls at hl ⊢
  have hl : lv_has ls 6 [(0, .ref (b + c0)), (1, .int p1), (2, .int p2), (3, .int p3), (4, .int p4)] := hl
  unfold f_X1_addStall at hf
  refine lv_aload_n hx hb dX1_addStall_0 rfl (lv_at hl 0 rfl) ?_
  refine getF hx hb hta hown hE.1 hW hc0 10 (by decide) q190 rfl dX1_addStall_1 ?_
  refine lv_istore (lv' := [(5, .int (σ c0 10)), (0, .ref (b + c0)), (1, .int p1), (2, .int p2), (3, .int p3), (4, .int p4)]) hx hb dX1_addStall_4 hl (by decide) rfl (fun ls hl => ?_)
  refine lv_iload hx hb dX1_addStall_6 (lv_at hl 0 rfl) ?_
  refine lv_bipush (v := 6) hx hb dX1_addStall_8 (by decide) ?_
  refine lv_icmp_gt (tgt := 38) hx hb dX1_addStall_10 (by decide) (fun h1 => ?_) (fun h1 => ?_)
  · have hf := ifp h1 hf
    refine lv_iload hx hb dX1_addStall_38 (lv_at hl 0 rfl) ?_
    cases hf
    exact W.iret hx hb hr (fun u hu _ => ⟨⟨rfl, by rw [hu]; exact hW⟩, hS.F hu⟩) hS.2.2 dX1_addStall_40
  · have hf := ifn h1 hf
    refine lv_aload_n hx hb dX1_addStall_13 rfl (lv_at hl 1 rfl) ?_
    refine getF hx hb hta hown hE.1 hW hc0 11 (by decide) q192 rfl dX1_addStall_14 ?_
    refine lv_iload hx hb dX1_addStall_17 (lv_at hl 0 rfl) ?_
    obtain ⟨g2, hf⟩ := gd_e hf
    refine sald hx hb hE.1 hW (shF_3 hc0) g2 dX1_addStall_19 ?_
    refine lv_iload_n hx hb dX1_addStall_20 rfl (lv_at hl 2 rfl) ?_
    refine lv_iload_n hx hb dX1_addStall_21 rfl (lv_at hl 3 rfl) ?_
    refine lv_iload_n hx hb dX1_addStall_22 rfl (lv_at hl 4 rfl) ?_
    refine lv_iload hx hb dX1_addStall_23 (lv_at hl 5 rfl) ?_
    obtain ⟨σ5, u4, hf⟩ := b1_e hf
    refine mV (k := (sk (c0 + 3) (σ c0 10))) (q := (3, 0)) (C := RX3) (T := TX3) (N := 11) (ci := 3) (n := 4) (As := [.int p1, .int p2, .int p3, .int p4]) (rest := []) (c_X3_setUp l D t b (sk (c0 + 3) (σ c0 10)) σ p1 p2 p3 p4 σ5 (shF_sk hc0 g2) u4) (shF_sk hc0 g2) (by decide) rfl rfl hx hb hml hown hts hE hW hS q456 q457 q458 q37 q459 hy_X3_setUp ⟨rfl, rfl⟩ ⟨Nat.le_of_ble_eq_true rfl, Nat.le_of_ble_eq_true rfl⟩ rfl rfl hl.1 (Nat.le_of_ble_eq_true rfl) ⟨Nat.zero_le _, Nat.zero_le _⟩ dX1_addStall_25 (fun H locs hW hS => ?_)
    refine lv_aload_n hx hb dX1_addStall_28 rfl (lv_at hl 1 rfl) ?_
    refine lv_dup hx hb dX1_addStall_29 rfl ?_
    refine getF hx hb hta hown hE.1 hW hc0 10 (by decide) q190 rfl dX1_addStall_30 ?_
    refine lv_iconst (v := 1) hx hb dX1_addStall_33 (by decide) ?_
    refine lv_iadd hx hb dX1_addStall_34 ?_
    refine putX (k := c0) (q := (1, 0)) (ci := 1) (x := ((σ5 c0 10) + 1)) inA1 tyX1_ok nmX1 rfl (by decide) rfl hx hb hta hown hE.1 hW hS hc0 10 (by decide) q190 rfl rfl rfl (Nat.le_of_ble_eq_true rfl) rfl dX1_addStall_35 (fun H locs hW hS => ?_)
    obtain ⟨σ6, e7, hf⟩ := st_e hf
    rw [e7] at hW
    refine lv_iload hx hb dX1_addStall_38 (lv_at hl 0 rfl) ?_
    cases hf
    exact W.iret hx hb hr (fun u hu _ => ⟨⟨rfl, by rw [hu]; exact hW⟩, hS.F hu⟩) hS.2.2 dX1_addStall_40
def f_X1_buildStall (c0 : Nat) (σ : Sg) (p1 : Int32) (p2 : Int32) (p3 : Int32) (p4 : Int32) : Option (Int32 × Sg) := b1 (f_X4_costOfStall σ p4) fun y1 => st (u2 σ c0 0 ((σ c0 0) - y1)) fun σ3 => st (u2 σ3 c0 2 ((σ3 c0 2) + y1)) fun σ5 => b2 (f_X1_addStall c0 σ5 p1 p2 p3 p4) fun y7 σ9 => some (y7, σ9)
set_option maxHeartbeats 4000000 in
set_option maxRecDepth 100000 in
theorem c_X1_buildStall (l : Launch) (D : va_G) (t : Nat → ClassId) (b : Nat) (c0 : Nat) (σ : Sg) (p1 : Int32) (p2 : Int32) (p3 : Int32) (p4 : Int32) (r : Int32) (σr : Sg) (hc0 : sh c0 = (1, 0)) (hf : f_X1_buildStall c0 σ p1 p2 p3 p4 = some (r, σr)) : Met l yX1_buildStall (Cond.code yX1_buildStall cX1_buildStall 6 (some .int) :: ALL) ({ frames := 3, cells := 0, slots := 0, locals := 70 }) (PM D t b σ [.ref (b + c0), .int p1, .int p2, .int p3, .int p4]) (QG D t b σr (some (.int r))) 0 0 (geA b) := by
  refine Met.ofW (cc := cX1_buildStall) (maxL := 6) (ret := (some .int)) (by decide) rfl ?_
  intro p e s m args below meth c s₁ B hml hv
  obtain ⟨rfl, hW, hE⟩ := hv
  have hx := B.exec
  have hb := B.bytes
  have hr := B.returns
  have hts := atoms_spec (ws := Cond.code yX1_buildStall cX1_buildStall 6 (some .int) :: ALL) B.pre
  have hta := fun w h => hts w (List.mem_cons_of_mem _ h)
  have hown : s.vm.findClass RX1 = some m.cls := findClass_of_methodNamed B.named
  have hlocks := B.notSynchronized
  have hS : va_S (geA b) s.heap s.heap [] := va_S.rf
  have hl := lv_entry ([.ref (b + c0), .int p1, .int p2, .int p3, .int p4]) (n := 6) (Nat.le_of_ble_eq_true rfl)
  rw [lg_entry_eq]
  generalize (lg_sl ([.ref (b + c0), .int p1, .int p2, .int p3, .int p4]) ++ List.replicate (6 - (lg_sl ([.ref (b + c0), .int p1, .int p2, .int p3, .int p4])).length) Slot.unset).toArray = ls at hl ⊢
  have hl : lv_has ls 6 [(0, .ref (b + c0)), (1, .int p1), (2, .int p2), (3, .int p3), (4, .int p4)] := hl
  unfold f_X1_buildStall at hf
  refine lv_iload hx hb dX1_buildStall_0 (lv_at hl 4 rfl) ?_
  obtain ⟨y1, u2, hf⟩ := b1_e hf
  refine mSN (n := 1) (As := [.int p4]) (rest := []) (c_X4_costOfStall l D t b σ p4 y1 u2) hx hb hml hown hts hE hW hS ng_408 q409 q34 q410 hs_X4_costOfStall ⟨rfl, rfl⟩ ⟨Nat.le_of_ble_eq_true rfl, Nat.le_of_ble_eq_true rfl⟩ rfl rfl hl.1 (Nat.le_of_ble_eq_true rfl) ⟨Nat.zero_le _, Nat.zero_le _⟩ dX1_buildStall_2 (fun H locs hW hS => ?_)
  refine lv_istore (lv' := [(5, .int y1), (0, .ref (b + c0)), (1, .int p1), (2, .int p2), (3, .int p3), (4, .int p4)]) hx hb dX1_buildStall_5 hl (by decide) rfl (fun ls hl => ?_)
  refine lv_aload_n hx hb dX1_buildStall_7 rfl (lv_at hl 1 rfl) ?_
  refine lv_dup hx hb dX1_buildStall_8 rfl ?_
  refine getF hx hb hta hown hE.1 hW hc0 0 (by decide) q170 rfl dX1_buildStall_9 ?_
  refine lv_iload hx hb dX1_buildStall_12 (lv_at hl 0 rfl) ?_
  refine lv_isub hx hb dX1_buildStall_14 ?_
  refine putX (k := c0) (q := (1, 0)) (ci := 1) (x := ((σ c0 0) - y1)) inA1 tyX1_ok nmX1 rfl (by decide) rfl hx hb hta hown hE.1 hW hS hc0 0 (by decide) q170 rfl rfl rfl (Nat.le_of_ble_eq_true rfl) rfl dX1_buildStall_15 (fun H locs hW hS => ?_)
  obtain ⟨σ3, e4, hf⟩ := st_e hf
  rw [e4] at hW
  refine lv_aload_n hx hb dX1_buildStall_18 rfl (lv_at hl 1 rfl) ?_
  refine lv_dup hx hb dX1_buildStall_19 rfl ?_
  refine getF hx hb hta hown hE.1 hW hc0 2 (by decide) q174 rfl dX1_buildStall_20 ?_
  refine lv_iload hx hb dX1_buildStall_23 (lv_at hl 0 rfl) ?_
  refine lv_iadd hx hb dX1_buildStall_25 ?_
  refine putX (k := c0) (q := (1, 0)) (ci := 1) (x := ((σ3 c0 2) + y1)) inA1 tyX1_ok nmX1 rfl (by decide) rfl hx hb hta hown hE.1 hW hS hc0 2 (by decide) q174 rfl rfl rfl (Nat.le_of_ble_eq_true rfl) rfl dX1_buildStall_26 (fun H locs hW hS => ?_)
  obtain ⟨σ5, e6, hf⟩ := st_e hf
  rw [e6] at hW
  refine lv_aload_n hx hb dX1_buildStall_29 rfl (lv_at hl 1 rfl) ?_
  refine lv_iload_n hx hb dX1_buildStall_30 rfl (lv_at hl 2 rfl) ?_
  refine lv_iload_n hx hb dX1_buildStall_31 rfl (lv_at hl 3 rfl) ?_
  refine lv_iload_n hx hb dX1_buildStall_32 rfl (lv_at hl 4 rfl) ?_
  refine lv_iload hx hb dX1_buildStall_33 (lv_at hl 5 rfl) ?_
  obtain ⟨y7, σ9, u8, hf⟩ := b2_e hf
  refine mV (k := c0) (q := (1, 0)) (C := RX1) (T := TX1) (N := 13) (ci := 1) (n := 4) (As := [.int p1, .int p2, .int p3, .int p4]) (rest := []) (c_X1_addStall l D t b c0 σ5 p1 p2 p3 p4 y7 σ9 hc0 u8) hc0 (by decide) rfl rfl hx hb hml hown hts hE hW hS q452 q453 q454 q35 q455 hy_X1_addStall ⟨rfl, rfl⟩ ⟨Nat.le_of_ble_eq_true rfl, Nat.le_of_ble_eq_true rfl⟩ rfl rfl hl.1 (Nat.le_of_ble_eq_true rfl) ⟨Nat.zero_le _, Nat.zero_le _⟩ dX1_buildStall_35 (fun H locs hW hS => ?_)
  cases hf
  exact W.iret hx hb hr (fun u hu _ => ⟨⟨rfl, by rw [hu]; exact hW⟩, hS.F hu⟩) hS.2.2 dX1_buildStall_38

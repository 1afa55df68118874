def f_X5_funds (σ : Sg) (p1 : Int32) (p2 : Int32) : Option (Int32 × Sg) := st (u2 σ 194 (0 : Int32).toNatClampNeg ((σ 194 (0 : Int32).toNatClampNeg) - p2)) fun σ1 => b1 (f_X5_its σ1 p1 4) fun y3 => b1 (f_X5_sets σ1 p1 4 (y3 + p2)) fun σ7 => b1 (f_X5_its σ7 p1 4) fun y8 => some (y8, σ7)
set_option maxHeartbeats 4000000 in
set_option maxRecDepth 100000 in
theorem c_X5_funds (l : Launch) (D : va_G) (t : Nat → ClassId) (b : Nat) (σ : Sg) (p1 : Int32) (p2 : Int32) (r : Int32) (σr : Sg) (hf : f_X5_funds σ p1 p2 = some (r, σr)) : Met l yX5_funds (Cond.code yX5_funds cX5_funds 3 (some .int) :: ALL) ({ frames := 1, cells := 0, slots := 0, locals := 23 }) (PM D t b σ [.ref (b + 193), .int p1, .int p2]) (QG D t b σr (some (.int r))) 0 0 (geA b) := by
  refine Met.ofW (cc := cX5_funds) (maxL := 3) (ret := (some .int)) (by decide) rfl ?_
  intro p e s m args below meth c s₁ B hml hv
  obtain ⟨rfl, hW, hE⟩ := hv
  have hx := B.exec
  have hb := B.bytes
  have hr := B.returns
  have hts := atoms_spec (ws := Cond.code yX5_funds cX5_funds 3 (some .int) :: ALL) B.pre
  have hta := fun w h => hts w (List.mem_cons_of_mem _ h)
  have hown : s.vm.findClass RX5 = some m.cls := findClass_of_methodNamed B.named
  have hlocks := B.notSynchronized
  have hS : va_S (geA b) s.heap s.heap [] := va_S.rf
  have hl := lv_entry ([.ref (b + 193), .int p1, .int p2]) (n := 3) (Nat.le_of_ble_eq_true rfl)
  rw [lg_entry_eq]
  generalize (lg_sl ([.ref (b + 193), .int p1, .int p2]) ++ List.replicate (3 - (lg_sl ([.ref (b + 193), .int p1, .int p2])).length) Slot.unset).toArray = ls at hl ⊢
  have hl : lv_has ls 3 [(0, .ref (b + 193)), (1, .int p1), (2, .int p2)] := hl
  unfold f_X5_funds at hf
  refine lv_aload_n hx hb dX5_funds_0 rfl (lv_at hl 0 rfl) ?_
  refine getM hx hb hta hown hE.1 hW 0 (by decide) q1181 rfl dX5_funds_1 ?_
  refine lv_iconst (v := 0) hx hb dX5_funds_4 (by decide) ?_
  refine lv_dup2_11 hx hb dX5_funds_5 rfl rfl ?_
  refine iald hx hb hE.1 hW sh_194 (vp_lit (by decide +kernel)) dX5_funds_6 ?_
  refine lv_iload_n hx hb dX5_funds_7 rfl (lv_at hl 2 rfl) ?_
  refine lv_isub hx hb dX5_funds_8 ?_
  refine iast (k := 194) (i := 0) (x := ((σ 194 (0 : Int32).toNatClampNeg) - p2)) hx hb hE.1 hW hS sh_194 (vp_lit (by decide +kernel)) dX5_funds_9 (fun H locs hW hS => ?_)
  obtain ⟨σ1, e2, hf⟩ := st_e hf
  rw [e2] at hW
  refine lv_aload_n hx hb dX5_funds_10 rfl (lv_at hl 0 rfl) ?_
  refine lv_iload_n hx hb dX5_funds_11 rfl (lv_at hl 1 rfl) ?_
  refine lv_iconst (v := 4) hx hb dX5_funds_12 (by decide) ?_
  refine lv_aload_n hx hb dX5_funds_13 rfl (lv_at hl 0 rfl) ?_
  refine lv_iload_n hx hb dX5_funds_14 rfl (lv_at hl 1 rfl) ?_
  refine lv_iconst (v := 4) hx hb dX5_funds_15 (by decide) ?_
  obtain ⟨y3, u4, hf⟩ := b1_e hf
  refine mV (k := 193) (q := (5, 0)) (C := RX5) (T := TX5) (N := 14) (ci := 5) (n := 2) (As := [.int p1, .int 4]) (rest := [.int 4, .int p1, .ref (b + 193)]) (c_X5_its l D t b σ1 p1 4 y3 u4) sh_193 (by decide) rfl rfl hx hb hml hown hts hE hW hS q1252 q1254 q35 q96 q1255 hy_X5_its ⟨rfl, rfl⟩ ⟨Nat.le_of_ble_eq_true rfl, Nat.le_of_ble_eq_true rfl⟩ rfl rfl hl.1 (Nat.le_of_ble_eq_true rfl) ⟨Nat.zero_le _, Nat.zero_le _⟩ dX5_funds_16 (fun H locs hW hS => ?_)
  refine lv_iload_n hx hb dX5_funds_19 rfl (lv_at hl 2 rfl) ?_
  refine lv_iadd hx hb dX5_funds_20 ?_
  obtain ⟨σ7, u6, hf⟩ := b1_e hf
  refine mV (k := 193) (q := (5, 0)) (C := RX5) (T := TX5) (N := 14) (ci := 5) (n := 3) (As := [.int p1, .int 4, .int (y3 + p2)]) (rest := []) (c_X5_sets l D t b σ1 p1 4 (y3 + p2) σ7 u6) sh_193 (by decide) rfl rfl hx hb hml hown hts hE hW hS q1271 q1273 q39 q96 q1274 hy_X5_sets ⟨rfl, rfl⟩ ⟨Nat.le_of_ble_eq_true rfl, Nat.le_of_ble_eq_true rfl⟩ rfl rfl hl.1 (Nat.le_of_ble_eq_true rfl) ⟨Nat.zero_le _, Nat.zero_le _⟩ dX5_funds_21 (fun H locs hW hS => ?_)
  refine lv_aload_n hx hb dX5_funds_24 rfl (lv_at hl 0 rfl) ?_
  refine lv_iload_n hx hb dX5_funds_25 rfl (lv_at hl 1 rfl) ?_
  refine lv_iconst (v := 4) hx hb dX5_funds_26 (by decide) ?_
  obtain ⟨y8, u9, hf⟩ := b1_e hf
  refine mV (k := 193) (q := (5, 0)) (C := RX5) (T := TX5) (N := 14) (ci := 5) (n := 2) (As := [.int p1, .int 4]) (rest := []) (c_X5_its l D t b σ7 p1 4 y8 u9) sh_193 (by decide) rfl rfl hx hb hml hown hts hE hW hS q1252 q1254 q35 q96 q1255 hy_X5_its ⟨rfl, rfl⟩ ⟨Nat.le_of_ble_eq_true rfl, Nat.le_of_ble_eq_true rfl⟩ rfl rfl hl.1 (Nat.le_of_ble_eq_true rfl) ⟨Nat.zero_le _, Nat.zero_le _⟩ dX5_funds_27 (fun H locs hW hS => ?_)
  cases hf
  exact W.iret hx hb hr (fun u hu _ => ⟨⟨rfl, by rw [hu]; exact hW⟩, hS.F hu⟩) hS.2.2 dX5_funds_30
def f_X5_isHere (σ : Sg) (p1 : Int32) : Option Int32 := b1 (f_X5_of σ p1 4) fun y1 => if y1 = (-1) then (some 0) else (some 1)
set_option maxHeartbeats 4000000 in
set_option maxRecDepth 100000 in
theorem c_X5_isHere (l : Launch) (D : va_G) (t : Nat → ClassId) (b : Nat) (σ : Sg) (p1 : Int32) (r : Int32) (hf : f_X5_isHere σ p1 = some r) : Met l yX5_isHere (Cond.code yX5_isHere cX5_isHere 2 (some .boolean) :: ALL) ({ frames := 1, cells := 0, slots := 0, locals := 22 }) (PM D t b σ [.ref (b + 193), .int p1]) (QG D t b σ (some (.int r))) 0 0 (geA b) := by
  refine Met.ofW (cc := cX5_isHere) (maxL := 2) (ret := (some .boolean)) (by decide) rfl ?_
  intro p e s m args below meth c s₁ B hml hv
  obtain ⟨rfl, hW, hE⟩ := hv
  have hx := B.exec
  have hb := B.bytes
  have hr := B.returns
  have hts := atoms_spec (ws := Cond.code yX5_isHere cX5_isHere 2 (some .boolean) :: ALL) B.pre
  have hta := fun w h => hts w (List.mem_cons_of_mem _ h)
  have hown : s.vm.findClass RX5 = some m.cls := findClass_of_methodNamed B.named
  have hlocks := B.notSynchronized
  have hS : va_S (geA b) s.heap s.heap [] := va_S.rf
  have hl := lv_entry ([.ref (b + 193), .int p1]) (n := 2) (Nat.le_of_ble_eq_true rfl)
  rw [lg_entry_eq]
  generalize (lg_sl ([.ref (b + 193), .int p1]) ++ List.replicate (2 - (lg_sl ([.ref (b + 193), .int p1])).length) Slot.unset).toArray = ls at hl ⊢
  have hl : lv_has ls 2 [(0, .ref (b + 193)), (1, .int p1)] := hl
  unfold f_X5_isHere at hf
  refine lv_aload_n hx hb dX5_isHere_0 rfl (lv_at hl 0 rfl) ?_
  refine lv_iload_n hx hb dX5_isHere_1 rfl (lv_at hl 1 rfl) ?_
  refine lv_iconst (v := 4) hx hb dX5_isHere_2 (by decide) ?_
  obtain ⟨y1, u2, hf⟩ := b1_e hf
  refine mV (k := 193) (q := (5, 0)) (C := RX5) (T := TX5) (N := 14) (ci := 5) (n := 2) (As := [.int p1, .int 4]) (rest := []) (c_X5_of l D t b σ p1 4 y1 u2) sh_193 (by decide) rfl rfl hx hb hml hown hts hE hW hS q1353 q1355 q51 q96 q1356 hy_X5_of ⟨rfl, rfl⟩ ⟨Nat.le_of_ble_eq_true rfl, Nat.le_of_ble_eq_true rfl⟩ rfl rfl hl.1 (Nat.le_of_ble_eq_true rfl) ⟨Nat.zero_le _, Nat.zero_le _⟩ dX5_isHere_3 (fun H locs hW hS => ?_)
  refine lv_iconst (v := (-1)) hx hb dX5_isHere_6 (by decide) ?_
  refine lv_icmp_eq (tgt := 14) hx hb dX5_isHere_7 (by decide) (fun h3 => ?_) (fun h3 => ?_)
  · have hf := ifp h3 hf
    refine lv_iconst (v := 0) hx hb dX5_isHere_14 (by decide) ?_
    cases hf
    exact W.zret (ty := .boolean) hx hb hr (by decide) (fun u hu _ => ⟨⟨rfl, by rw [hu]; exact hW⟩, hS.F hu⟩) hS.2.2 dX5_isHere_15
  · have hf := ifn h3 hf
    refine lv_iconst (v := 1) hx hb dX5_isHere_10 (by decide) ?_
    refine lv_goto (tgt := 15) hx hb dX5_isHere_11 (by decide) ?_
    cases hf
    exact W.zret (ty := .boolean) hx hb hr (by decide) (fun u hu _ => ⟨⟨rfl, by rw [hu]; exact hW⟩, hS.F hu⟩) hS.2.2 dX5_isHere_15
def l_X5_crowd_4 : Nat → Sg → Int32 → Int32 → Option Int32
  | 0, _, _, _ => none
  | n + 1, τ, x1, x2 => if (τ 194 (9 : Int32).toNatClampNeg) ≤ x2 then (some x1) else (b1 (f_X5_isHere τ x2) fun y2 => if y2 = 0 then (l_X5_crowd_4 n τ (x1 + 0) (x2 + 1)) else (l_X5_crowd_4 n τ (x1 + 1) (x2 + 1)))
def f_X5_crowd (σ : Sg) : Option Int32 := l_X5_crowd_4 10000 σ 0 0
set_option maxHeartbeats 4000000 in
set_option maxRecDepth 100000 in
theorem c_X5_crowd (l : Launch) (D : va_G) (t : Nat → ClassId) (b : Nat) (σ : Sg) (r : Int32) (hf : f_X5_crowd σ = some r) : Met l yX5_crowd (Cond.code yX5_crowd cX5_crowd 3 (some .int) :: ALL) ({ frames := 2, cells := 0, slots := 0, locals := 43 }) (PM D t b σ [.ref (b + 193)]) (QG D t b σ (some (.int r))) 0 0 (geA b) := by
  refine Met.ofW (cc := cX5_crowd) (maxL := 3) (ret := (some .int)) (by decide) rfl ?_
  intro p e s m args below meth c s₁ B hml hv
  obtain ⟨rfl, hW, hE⟩ := hv
  have hx := B.exec
  have hb := B.bytes
  have hr := B.returns
  have hts := atoms_spec (ws := Cond.code yX5_crowd cX5_crowd 3 (some .int) :: ALL) B.pre
  have hta := fun w h => hts w (List.mem_cons_of_mem _ h)
  have hown : s.vm.findClass RX5 = some m.cls := findClass_of_methodNamed B.named
  have hlocks := B.notSynchronized
  have hS : va_S (geA b) s.heap s.heap [] := va_S.rf
  have hl := lv_entry ([.ref (b + 193)]) (n := 3) (Nat.le_of_ble_eq_true rfl)
  rw [lg_entry_eq]
  generalize (lg_sl ([.ref (b + 193)]) ++ List.replicate (3 - (lg_sl ([.ref (b + 193)])).length) Slot.unset).toArray = ls at hl ⊢
  have hl : lv_has ls 3 [(0, .ref (b + 193))] := hl
  unfold f_X5_crowd at hf
  refine lv_iconst (v := 0) hx hb dX5_crowd_0 (by decide) ?_
  refine lv_istore_n (lv' := [(1, .int 0), (0, .ref (b + 193))]) hx hb dX5_crowd_1 rfl hl (by decide) rfl (fun ls hl => ?_)
  refine lv_iconst (v := 0) hx hb dX5_crowd_2 (by decide) ?_
  refine lv_istore_n (lv' := [(2, .int 0), (1, .int 0), (0, .ref (b + 193))]) hx hb dX5_crowd_3 rfl hl (by decide) rfl (fun ls hl => ?_)
  have key_4 : ∀ (n : Nat) (τ : Sg) (x1 : Int32) (x2 : Int32) (H : Heap) (locs : List Loc) (ls : Array Slot), l_X5_crowd_4 n τ x1 x2 = some r → wd D t b τ H → va_S (geA b) s.heap H locs → lv_has ls 3 [(0, .ref (b + 193)), (1, .int x1), (2, .int x2)] → W p l e (headSpec (Cond.code yX5_crowd cX5_crowd 3 (some .int) :: ALL) ({ frames := 2, cells := 0, slots := 0, locals := 43 })).room s m (([.ref (b + 193)] : List Value).toArray) below meth c H locs 0 0 (MQ below (QG D t b τ (some (.int r))) (([.ref (b + 193)] : List Value).toArray) s 0 0 (geA b)) (F0 m 4 ls []) := by
    intro n
    induction n with
    | zero =>
      intro τ x1 x2 H locs ls hf
      rw [l_X5_crowd_4.eq_1] at hf
      cases hf
    | succ n ih_4 =>
      intro τ x1 x2 H locs ls hf hW hS hl
      rw [l_X5_crowd_4.eq_2] at hf
      refine lv_iload_n hx hb dX5_crowd_4 rfl (lv_at hl 2 rfl) ?_
      refine lv_aload_n hx hb dX5_crowd_5 rfl (lv_at hl 0 rfl) ?_
      refine getM hx hb hta hown hE.1 hW 0 (by decide) q1181 rfl dX5_crowd_6 ?_
      refine lv_bipush (v := 9) hx hb dX5_crowd_9 (by decide) ?_
      refine iald hx hb hE.1 hW sh_194 (vp_lit (by decide +kernel)) dX5_crowd_11 ?_
      refine lv_icmp_ge (tgt := 37) hx hb dX5_crowd_12 (by decide) (fun h1 => ?_) (fun h1 => ?_)
      · have hf := ifp h1 hf
        refine lv_iload_n hx hb dX5_crowd_37 rfl (lv_at hl 1 rfl) ?_
        cases hf
        exact W.iret hx hb hr (fun u hu _ => ⟨⟨rfl, by rw [hu]; exact hW⟩, hS.F hu⟩) hS.2.2 dX5_crowd_38
      · have hf := ifn h1 hf
        refine lv_iload_n hx hb dX5_crowd_15 rfl (lv_at hl 1 rfl) ?_
        refine lv_aload_n hx hb dX5_crowd_16 rfl (lv_at hl 0 rfl) ?_
        refine lv_iload_n hx hb dX5_crowd_17 rfl (lv_at hl 2 rfl) ?_
        obtain ⟨y2, u3, hf⟩ := b1_e hf
        refine mV (k := 193) (q := (5, 0)) (C := RX5) (T := TX5) (N := 14) (ci := 5) (n := 1) (As := [.int x2]) (rest := [.int x1]) (c_X5_isHere l D t b τ x2 y2 u3) sh_193 (by decide) rfl rfl hx hb hml hown hts hE hW hS q1349 q1351 q50 q96 q1352 hy_X5_isHere ⟨rfl, rfl⟩ ⟨Nat.le_of_ble_eq_true rfl, Nat.le_of_ble_eq_true rfl⟩ rfl rfl hl.1 (Nat.le_of_ble_eq_true rfl) ⟨Nat.zero_le _, Nat.zero_le _⟩ dX5_crowd_18 (fun H locs hW hS => ?_)
        refine lv_if_eq (tgt := 28) hx hb dX5_crowd_21 (by decide) (fun h4 => ?_) (fun h4 => ?_)
        · have hf := ifp h4 hf
          refine lv_iconst (v := 0) hx hb dX5_crowd_28 (by decide) ?_
          refine lv_iadd hx hb dX5_crowd_29 ?_
          refine lv_istore_n (lv' := [(1, .int (x1 + 0)), (0, .ref (b + 193)), (2, .int x2)]) hx hb dX5_crowd_30 rfl hl (by decide) rfl (fun ls hl => ?_)
          refine lv_iinc (v := (x2 + 1)) (lv' := [(2, .int (x2 + 1)), (1, .int (x1 + 0)), (0, .ref (b + 193))]) hx hb dX5_crowd_31 hl (k := 2) rfl (by rfl) (by decide) rfl (fun ls hl => ?_)
          refine lv_goto (tgt := 4) hx hb dX5_crowd_34 (by decide) ?_
          exact ih_4 τ (x1 + 0) (x2 + 1) _ _ _ hf hW hS (lv_sub hl [2, 1, 0] rfl)
        · have hf := ifn h4 hf
          refine lv_iconst (v := 1) hx hb dX5_crowd_24 (by decide) ?_
          refine lv_goto (tgt := 29) hx hb dX5_crowd_25 (by decide) ?_
          refine lv_iadd hx hb dX5_crowd_29 ?_
          refine lv_istore_n (lv' := [(1, .int (x1 + 1)), (0, .ref (b + 193)), (2, .int x2)]) hx hb dX5_crowd_30 rfl hl (by decide) rfl (fun ls hl => ?_)
          refine lv_iinc (v := (x2 + 1)) (lv' := [(2, .int (x2 + 1)), (1, .int (x1 + 1)), (0, .ref (b + 193))]) hx hb dX5_crowd_31 hl (k := 2) rfl (by rfl) (by decide) rfl (fun ls hl => ?_)
          refine lv_goto (tgt := 4) hx hb dX5_crowd_34 (by decide) ?_
          exact ih_4 τ (x1 + 1) (x2 + 1) _ _ _ hf hW hS (lv_sub hl [2, 1, 0] rfl)
  exact key_4 10000 σ 0 0 _ _ _ hf hW hS (lv_sub hl [2, 1, 0] rfl)
def f_X5_hasRoom (σ : Sg) : Option Int32 := if 200 ≤ (σ 194 (9 : Int32).toNatClampNeg) then (some 0) else (b1 (f_X5_crowd σ) fun y2 => if 40 ≤ y2 then (some 0) else (some 1))
set_option maxHeartbeats 4000000 in
set_option maxRecDepth 100000 in
theorem c_X5_hasRoom (l : Launch) (D : va_G) (t : Nat → ClassId) (b : Nat) (σ : Sg) (r : Int32) (hf : f_X5_hasRoom σ = some r) : Met l yX5_hasRoom (Cond.code yX5_hasRoom cX5_hasRoom 1 (some .boolean) :: ALL) ({ frames := 3, cells := 0, slots := 0, locals := 65 }) (PM D t b σ [.ref (b + 193)]) (QG D t b σ (some (.int r))) 0 0 (geA b) := by
  refine Met.ofW (cc := cX5_hasRoom) (maxL := 1) (ret := (some .boolean)) (by decide) rfl ?_
  intro p e s m args below meth c s₁ B hml hv
  obtain ⟨rfl, hW, hE⟩ := hv
  have hx := B.exec
  have hb := B.bytes
  have hr := B.returns
  have hts := atoms_spec (ws := Cond.code yX5_hasRoom cX5_hasRoom 1 (some .boolean) :: ALL) B.pre
  have hta := fun w h => hts w (List.mem_cons_of_mem _ h)
  have hown : s.vm.findClass RX5 = some m.cls := findClass_of_methodNamed B.named
  have hlocks := B.notSynchronized
  have hS : va_S (geA b) s.heap s.heap [] := va_S.rf
  have hl := lv_entry ([.ref (b + 193)]) (n := 1) (Nat.le_of_ble_eq_true rfl)
  rw [lg_entry_eq]
  generalize (lg_sl ([.ref (b + 193)]) ++ List.replicate (1 - (lg_sl ([.ref (b + 193)])).length) Slot.unset).toArray = ls at hl ⊢
  have hl : lv_has ls 1 [(0, .ref (b + 193))] := hl
  unfold f_X5_hasRoom at hf
  refine lv_aload_n hx hb dX5_hasRoom_0 rfl (lv_at hl 0 rfl) ?_
  refine getM hx hb hta hown hE.1 hW 0 (by decide) q1181 rfl dX5_hasRoom_1 ?_
  refine lv_bipush (v := 9) hx hb dX5_hasRoom_4 (by decide) ?_
  refine iald hx hb hE.1 hW sh_194 (vp_lit (by decide +kernel)) dX5_hasRoom_6 ?_
  refine lv_sipush (v := 200) hx hb dX5_hasRoom_7 (by decide) ?_
  refine lv_icmp_ge (tgt := 26) hx hb dX5_hasRoom_10 (by decide) (fun h1 => ?_) (fun h1 => ?_)
  · have hf := ifp h1 hf
    refine lv_iconst (v := 0) hx hb dX5_hasRoom_26 (by decide) ?_
    cases hf
    exact W.zret (ty := .boolean) hx hb hr (by decide) (fun u hu _ => ⟨⟨rfl, by rw [hu]; exact hW⟩, hS.F hu⟩) hS.2.2 dX5_hasRoom_27
  · have hf := ifn h1 hf
    refine lv_aload_n hx hb dX5_hasRoom_13 rfl (lv_at hl 0 rfl) ?_
    obtain ⟨y2, u3, hf⟩ := b1_e hf
    refine mV (k := 193) (q := (5, 0)) (C := RX5) (T := TX5) (N := 14) (ci := 5) (n := 0) (As := []) (rest := []) (c_X5_crowd l D t b σ y2 u3) sh_193 (by decide) rfl rfl hx hb hml hown hts hE hW hS q1345 q1347 q49 q96 q1348 hy_X5_crowd ⟨rfl, rfl⟩ ⟨Nat.le_of_ble_eq_true rfl, Nat.le_of_ble_eq_true rfl⟩ rfl rfl hl.1 (Nat.le_of_ble_eq_true rfl) ⟨Nat.zero_le _, Nat.zero_le _⟩ dX5_hasRoom_14 (fun H locs hW hS => ?_)
    refine lv_bipush (v := 40) hx hb dX5_hasRoom_17 (by decide) ?_
    refine lv_icmp_ge (tgt := 26) hx hb dX5_hasRoom_19 (by decide) (fun h4 => ?_) (fun h4 => ?_)
    · have hf := ifp h4 hf
      refine lv_iconst (v := 0) hx hb dX5_hasRoom_26 (by decide) ?_
      cases hf
      exact W.zret (ty := .boolean) hx hb hr (by decide) (fun u hu _ => ⟨⟨rfl, by rw [hu]; exact hW⟩, hS.F hu⟩) hS.2.2 dX5_hasRoom_27
    · have hf := ifn h4 hf
      refine lv_iconst (v := 1) hx hb dX5_hasRoom_22 (by decide) ?_
      refine lv_goto (tgt := 27) hx hb dX5_hasRoom_23 (by decide) ?_
      cases hf
      exact W.zret (ty := .boolean) hx hb hr (by decide) (fun u hu _ => ⟨⟨rfl, by rw [hu]; exact hW⟩, hS.F hu⟩) hS.2.2 dX5_hasRoom_27
def f_X5_whyNotCome (σ : Sg) (p1 : Int32) (p2 : Int32) (p3 : Int32) : Option Int32 := b1 (f_X5_isKind σ p2) fun y1 => if y1 = 0 then (some 1) else (b1 (f_X5_isFour σ p3) fun y4 => if y4 = 0 then (some 1) else (b1 (f_X5_in σ p1 0 99) fun y7 => if y7 = 0 then (some 2) else (b1 (f_X5_hasRoom σ) fun y10 => if y10 = 0 then (some 3) else (some 0))))
set_option maxHeartbeats 4000000 in
set_option maxRecDepth 100000 in
theorem c_X5_whyNotCome (l : Launch) (D : va_G) (t : Nat → ClassId) (b : Nat) (σ : Sg) (p1 : Int32) (p2 : Int32) (p3 : Int32) (r : Int32) (hf : f_X5_whyNotCome σ p1 p2 p3 = some r) : Met l yX5_whyNotCome (Cond.code yX5_whyNotCome cX5_whyNotCome 4 (some .int) :: ALL) ({ frames := 4, cells := 0, slots := 0, locals := 85 }) (PM D t b σ [.ref (b + 193), .int p1, .int p2, .int p3]) (QG D t b σ (some (.int r))) 0 0 (geA b) := by
  refine Met.ofW (cc := cX5_whyNotCome) (maxL := 4) (ret := (some .int)) (by decide) rfl ?_
  intro p e s m args below meth c s₁ B hml hv
  obtain ⟨rfl, hW, hE⟩ := hv
  have hx := B.exec
  have hb := B.bytes
  have hr := B.returns
  have hts := atoms_spec (ws := Cond.code yX5_whyNotCome cX5_whyNotCome 4 (some .int) :: ALL) B.pre
  have hta := fun w h => hts w (List.mem_cons_of_mem _ h)
  have hown : s.vm.findClass RX5 = some m.cls := findClass_of_methodNamed B.named
  have hlocks := B.notSynchronized
  have hS : va_S (geA b) s.heap s.heap [] := va_S.rf
  have hl := lv_entry ([.ref (b + 193), .int p1, .int p2, .int p3]) (n := 4) (Nat.le_of_ble_eq_true rfl)
  rw [lg_entry_eq]
  generalize (lg_sl ([.ref (b + 193), .int p1, .int p2, .int p3]) ++ List.replicate (4 - (lg_sl ([.ref (b + 193), .int p1, .int p2, .int p3])).length) Slot.unset).toArray = ls at hl ⊢
  have hl : lv_has ls 4 [(0, .ref (b + 193)), (1, .int p1), (2, .int p2), (3, .int p3)] := hl
  unfold f_X5_whyNotCome at hf
  refine lv_iload_n hx hb dX5_whyNotCome_0 rfl (lv_at hl 2 rfl) ?_
  obtain ⟨y1, u2, hf⟩ := b1_e hf
  refine mS (n := 1) (As := [.int p2]) (rest := []) (c_X5_isKind l D t b σ p2 y1 u2) hx hb hml hown hts hE hW hS q1242 q1243 q96 q1244 hs_X5_isKind ⟨rfl, rfl⟩ ⟨Nat.le_of_ble_eq_true rfl, Nat.le_of_ble_eq_true rfl⟩ rfl rfl hl.1 (Nat.le_of_ble_eq_true rfl) ⟨Nat.zero_le _, Nat.zero_le _⟩ dX5_whyNotCome_1 (fun H locs hW hS => ?_)
  refine lv_if_eq (tgt := 14) hx hb dX5_whyNotCome_4 (by decide) (fun h3 => ?_) (fun h3 => ?_)
  · have hf := ifp h3 hf
    refine lv_iconst (v := 1) hx hb dX5_whyNotCome_14 (by decide) ?_
    refine lv_goto (tgt := 44) hx hb dX5_whyNotCome_15 (by decide) ?_
    cases hf
    exact W.iret hx hb hr (fun u hu _ => ⟨⟨rfl, by rw [hu]; exact hW⟩, hS.F hu⟩) hS.2.2 dX5_whyNotCome_44
  · have hf := ifn h3 hf
    refine lv_iload_n hx hb dX5_whyNotCome_7 rfl (lv_at hl 3 rfl) ?_
    obtain ⟨y4, u5, hf⟩ := b1_e hf
    refine mS (n := 1) (As := [.int p3]) (rest := []) (c_X5_isFour l D t b σ p3 y4 u5) hx hb hml hown hts hE hW hS q1299 q1300 q96 q1301 hs_X5_isFour ⟨rfl, rfl⟩ ⟨Nat.le_of_ble_eq_true rfl, Nat.le_of_ble_eq_true rfl⟩ rfl rfl hl.1 (Nat.le_of_ble_eq_true rfl) ⟨Nat.zero_le _, Nat.zero_le _⟩ dX5_whyNotCome_8 (fun H locs hW hS => ?_)
    refine lv_if_ne (tgt := 18) hx hb dX5_whyNotCome_11 (by decide) (fun h6 => ?_) (fun h6 => ?_)
    · have hf := ifn h6 hf
      refine lv_iload_n hx hb dX5_whyNotCome_18 rfl (lv_at hl 1 rfl) ?_
      refine lv_iconst (v := 0) hx hb dX5_whyNotCome_19 (by decide) ?_
      refine lv_bipush (v := 99) hx hb dX5_whyNotCome_20 (by decide) ?_
      obtain ⟨y7, u8, hf⟩ := b1_e hf
      refine mS (n := 3) (As := [.int p1, .int 0, .int 99]) (rest := []) (c_X5_in l D t b σ p1 0 99 y7 u8) hx hb hml hown hts hE hW hS q1239 q1240 q96 q1241 hs_X5_in ⟨rfl, rfl⟩ ⟨Nat.le_of_ble_eq_true rfl, Nat.le_of_ble_eq_true rfl⟩ rfl rfl hl.1 (Nat.le_of_ble_eq_true rfl) ⟨Nat.zero_le _, Nat.zero_le _⟩ dX5_whyNotCome_22 (fun H locs hW hS => ?_)
      refine lv_if_ne (tgt := 32) hx hb dX5_whyNotCome_25 (by decide) (fun h9 => ?_) (fun h9 => ?_)
      · have hf := ifn h9 hf
        refine lv_aload_n hx hb dX5_whyNotCome_32 rfl (lv_at hl 0 rfl) ?_
        obtain ⟨y10, u11, hf⟩ := b1_e hf
        refine mV (k := 193) (q := (5, 0)) (C := RX5) (T := TX5) (N := 14) (ci := 5) (n := 0) (As := []) (rest := []) (c_X5_hasRoom l D t b σ y10 u11) sh_193 (by decide) rfl rfl hx hb hml hown hts hE hW hS q1341 q1343 q48 q96 q1344 hy_X5_hasRoom ⟨rfl, rfl⟩ ⟨Nat.le_of_ble_eq_true rfl, Nat.le_of_ble_eq_true rfl⟩ rfl rfl hl.1 (Nat.le_of_ble_eq_true rfl) ⟨Nat.zero_le _, Nat.zero_le _⟩ dX5_whyNotCome_33 (fun H locs hW hS => ?_)
        refine lv_if_eq (tgt := 43) hx hb dX5_whyNotCome_36 (by decide) (fun h12 => ?_) (fun h12 => ?_)
        · have hf := ifp h12 hf
          refine lv_iconst (v := 3) hx hb dX5_whyNotCome_43 (by decide) ?_
          cases hf
          exact W.iret hx hb hr (fun u hu _ => ⟨⟨rfl, by rw [hu]; exact hW⟩, hS.F hu⟩) hS.2.2 dX5_whyNotCome_44
        · have hf := ifn h12 hf
          refine lv_iconst (v := 0) hx hb dX5_whyNotCome_39 (by decide) ?_
          refine lv_goto (tgt := 44) hx hb dX5_whyNotCome_40 (by decide) ?_
          cases hf
          exact W.iret hx hb hr (fun u hu _ => ⟨⟨rfl, by rw [hu]; exact hW⟩, hS.F hu⟩) hS.2.2 dX5_whyNotCome_44
      · have hf := ifp h9 hf
        refine lv_iconst (v := 2) hx hb dX5_whyNotCome_28 (by decide) ?_
        refine lv_goto (tgt := 44) hx hb dX5_whyNotCome_29 (by decide) ?_
        cases hf
        exact W.iret hx hb hr (fun u hu _ => ⟨⟨rfl, by rw [hu]; exact hW⟩, hS.F hu⟩) hS.2.2 dX5_whyNotCome_44
    · have hf := ifp h6 hf
      refine lv_iconst (v := 1) hx hb dX5_whyNotCome_14 (by decide) ?_
      refine lv_goto (tgt := 44) hx hb dX5_whyNotCome_15 (by decide) ?_
      cases hf
      exact W.iret hx hb hr (fun u hu _ => ⟨⟨rfl, by rw [hu]; exact hW⟩, hS.F hu⟩) hS.2.2 dX5_whyNotCome_44
def l_X5_comes_12 : Nat → Sg → Int32 → Int32 → Int32 → Int32 → Int32 → Option (Int32 × Sg)
  | 0, _, _, _, _, _, _ => none
  | n + 1, τ, x1, x2, x3, x4, x5 => if 8 ≤ x5 then (b1 (f_X5_lay τ x4 0 x1) fun σ4 => b1 (f_X5_lay σ4 x4 1 60) fun σ7 => b1 (f_X5_lay σ7 x4 2 x2) fun σ10 => b1 (f_X5_lay σ10 x4 3 x3) fun σ13 => st (u2 σ13 194 (9 : Int32).toNatClampNeg ((σ13 194 (9 : Int32).toNatClampNeg) + 1)) fun σ14 => st (u2 σ14 194 (3 : Int32).toNatClampNeg ((σ14 194 (3 : Int32).toNatClampNeg) + x1)) fun σ16 => some (x4, σ16)) else (b1 (f_X5_lay τ x4 x5 0) fun σ20 => l_X5_comes_12 n σ20 x1 x2 x3 x4 (x5 + 1))
def f_X5_comes (σ : Sg) (p1 : Int32) (p2 : Int32) (p3 : Int32) : Option (Int32 × Sg) := l_X5_comes_12 10000 σ p1 p2 p3 (σ 194 (9 : Int32).toNatClampNeg) 0
set_option maxHeartbeats 4000000 in
set_option maxRecDepth 100000 in
theorem c_X5_comes (l : Launch) (D : va_G) (t : Nat → ClassId) (b : Nat) (σ : Sg) (p1 : Int32) (p2 : Int32) (p3 : Int32) (r : Int32) (σr : Sg) (hf : f_X5_comes σ p1 p2 p3 = some (r, σr)) : Met l yX5_comes (Cond.code yX5_comes cX5_comes 6 (some .int) :: ALL) ({ frames := 1, cells := 0, slots := 0, locals := 23 }) (PM D t b σ [.ref (b + 193), .int p1, .int p2, .int p3]) (QG D t b σr (some (.int r))) 0 0 (geA b) := by
  refine Met.ofW (cc := cX5_comes) (maxL := 6) (ret := (some .int)) (by decide) rfl ?_
  intro p e s m args below meth c s₁ B hml hv
  obtain ⟨rfl, hW, hE⟩ := hv
  have hx := B.exec
  have hb := B.bytes
  have hr := B.returns
  have hts := atoms_spec (ws := Cond.code yX5_comes cX5_comes 6 (some .int) :: ALL) B.pre
  have hta := fun w h => hts w (List.mem_cons_of_mem _ h)
  have hown : s.vm.findClass RX5 = some m.cls := findClass_of_methodNamed B.named
  have hlocks := B.notSynchronized
  have hS : va_S (geA b) s.heap s.heap [] := va_S.rf
  have hl := lv_entry ([.ref (b + 193), .int p1, .int p2, .int p3]) (n := 6) (Nat.le_of_ble_eq_true rfl)
  rw [lg_entry_eq]
  generalize (lg_sl ([.ref (b + 193), .int p1, .int p2, .int p3]) ++ List.replicate (6 - (lg_sl ([.ref (b + 193), .int p1, .int p2, .int p3])).length) Slot.unset).toArray = ls at hl ⊢
  have hl : lv_has ls 6 [(0, .ref (b + 193)), (1, .int p1), (2, .int p2), (3, .int p3)] := hl
  unfold f_X5_comes at hf
  refine lv_aload_n hx hb dX5_comes_0 rfl (lv_at hl 0 rfl) ?_
  refine getM hx hb hta hown hE.1 hW 0 (by decide) q1181 rfl dX5_comes_1 ?_
  refine lv_bipush (v := 9) hx hb dX5_comes_4 (by decide) ?_
  refine iald hx hb hE.1 hW sh_194 (vp_lit (by decide +kernel)) dX5_comes_6 ?_
  refine lv_istore (lv' := [(4, .int (σ 194 (9 : Int32).toNatClampNeg)), (0, .ref (b + 193)), (1, .int p1), (2, .int p2), (3, .int p3)]) hx hb dX5_comes_7 hl (by decide) rfl (fun ls hl => ?_)
  refine lv_iconst (v := 0) hx hb dX5_comes_9 (by decide) ?_
  refine lv_istore (lv' := [(5, .int 0), (4, .int (σ 194 (9 : Int32).toNatClampNeg)), (0, .ref (b + 193)), (1, .int p1), (2, .int p2), (3, .int p3)]) hx hb dX5_comes_10 hl (by decide) rfl (fun ls hl => ?_)
  have key_12 : ∀ (n : Nat) (τ : Sg) (x1 : Int32) (x2 : Int32) (x3 : Int32) (x4 : Int32) (x5 : Int32) (H : Heap) (locs : List Loc) (ls : Array Slot), l_X5_comes_12 n τ x1 x2 x3 x4 x5 = some (r, σr) → wd D t b τ H → va_S (geA b) s.heap H locs → lv_has ls 6 [(0, .ref (b + 193)), (1, .int x1), (2, .int x2), (3, .int x3), (4, .int x4), (5, .int x5)] → W p l e (headSpec (Cond.code yX5_comes cX5_comes 6 (some .int) :: ALL) ({ frames := 1, cells := 0, slots := 0, locals := 23 })).room s m (([.ref (b + 193), .int p1, .int p2, .int p3] : List Value).toArray) below meth c H locs 0 0 (MQ below (QG D t b σr (some (.int r))) (([.ref (b + 193), .int p1, .int p2, .int p3] : List Value).toArray) s 0 0 (geA b)) (F0 m 12 ls []) := by
    intro n
    induction n with
    | zero =>
      intro τ x1 x2 x3 x4 x5 H locs ls hf
      rw [l_X5_comes_12.eq_1] at hf
      cases hf
    | succ n ih_12 =>
      intro τ x1 x2 x3 x4 x5 H locs ls hf hW hS hl
      rw [l_X5_comes_12.eq_2] at hf
      refine lv_iload hx hb dX5_comes_12 (lv_at hl 5 rfl) ?_
      refine lv_bipush (v := 8) hx hb dX5_comes_14 (by decide) ?_
      refine lv_icmp_ge (tgt := 34) hx hb dX5_comes_16 (by decide) (fun h1 => ?_) (fun h1 => ?_)
      · have hf := ifp h1 hf
        refine lv_aload_n hx hb dX5_comes_34 rfl (lv_at hl 0 rfl) ?_
        refine lv_iload hx hb dX5_comes_35 (lv_at hl 4 rfl) ?_
        refine lv_iconst (v := 0) hx hb dX5_comes_37 (by decide) ?_
        refine lv_iload_n hx hb dX5_comes_38 rfl (lv_at hl 1 rfl) ?_
        obtain ⟨σ4, u3, hf⟩ := b1_e hf
        refine mV (k := 193) (q := (5, 0)) (C := RX5) (T := TX5) (N := 14) (ci := 5) (n := 3) (As := [.int x4, .int 0, .int x1]) (rest := []) (c_X5_lay l D t b τ x4 0 x1 σ4 u3) sh_193 (by decide) rfl rfl hx hb hml hown hts hE hW hS q1361 q1363 q53 q96 q1364 hy_X5_lay ⟨rfl, rfl⟩ ⟨Nat.le_of_ble_eq_true rfl, Nat.le_of_ble_eq_true rfl⟩ rfl rfl hl.1 (Nat.le_of_ble_eq_true rfl) ⟨Nat.zero_le _, Nat.zero_le _⟩ dX5_comes_39 (fun H locs hW hS => ?_)
        refine lv_aload_n hx hb dX5_comes_42 rfl (lv_at hl 0 rfl) ?_
        refine lv_iload hx hb dX5_comes_43 (lv_at hl 4 rfl) ?_
        refine lv_iconst (v := 1) hx hb dX5_comes_45 (by decide) ?_
        refine lv_bipush (v := 60) hx hb dX5_comes_46 (by decide) ?_
        obtain ⟨σ7, u6, hf⟩ := b1_e hf
        refine mV (k := 193) (q := (5, 0)) (C := RX5) (T := TX5) (N := 14) (ci := 5) (n := 3) (As := [.int x4, .int 1, .int 60]) (rest := []) (c_X5_lay l D t b σ4 x4 1 60 σ7 u6) sh_193 (by decide) rfl rfl hx hb hml hown hts hE hW hS q1361 q1363 q53 q96 q1364 hy_X5_lay ⟨rfl, rfl⟩ ⟨Nat.le_of_ble_eq_true rfl, Nat.le_of_ble_eq_true rfl⟩ rfl rfl hl.1 (Nat.le_of_ble_eq_true rfl) ⟨Nat.zero_le _, Nat.zero_le _⟩ dX5_comes_48 (fun H locs hW hS => ?_)
        refine lv_aload_n hx hb dX5_comes_51 rfl (lv_at hl 0 rfl) ?_
        refine lv_iload hx hb dX5_comes_52 (lv_at hl 4 rfl) ?_
        refine lv_iconst (v := 2) hx hb dX5_comes_54 (by decide) ?_
        refine lv_iload_n hx hb dX5_comes_55 rfl (lv_at hl 2 rfl) ?_
        obtain ⟨σ10, u9, hf⟩ := b1_e hf
        refine mV (k := 193) (q := (5, 0)) (C := RX5) (T := TX5) (N := 14) (ci := 5) (n := 3) (As := [.int x4, .int 2, .int x2]) (rest := []) (c_X5_lay l D t b σ7 x4 2 x2 σ10 u9) sh_193 (by decide) rfl rfl hx hb hml hown hts hE hW hS q1361 q1363 q53 q96 q1364 hy_X5_lay ⟨rfl, rfl⟩ ⟨Nat.le_of_ble_eq_true rfl, Nat.le_of_ble_eq_true rfl⟩ rfl rfl hl.1 (Nat.le_of_ble_eq_true rfl) ⟨Nat.zero_le _, Nat.zero_le _⟩ dX5_comes_56 (fun H locs hW hS => ?_)
        refine lv_aload_n hx hb dX5_comes_59 rfl (lv_at hl 0 rfl) ?_
        refine lv_iload hx hb dX5_comes_60 (lv_at hl 4 rfl) ?_
        refine lv_iconst (v := 3) hx hb dX5_comes_62 (by decide) ?_
        refine lv_iload_n hx hb dX5_comes_63 rfl (lv_at hl 3 rfl) ?_
        obtain ⟨σ13, u12, hf⟩ := b1_e hf
        refine mV (k := 193) (q := (5, 0)) (C := RX5) (T := TX5) (N := 14) (ci := 5) (n := 3) (As := [.int x4, .int 3, .int x3]) (rest := []) (c_X5_lay l D t b σ10 x4 3 x3 σ13 u12) sh_193 (by decide) rfl rfl hx hb hml hown hts hE hW hS q1361 q1363 q53 q96 q1364 hy_X5_lay ⟨rfl, rfl⟩ ⟨Nat.le_of_ble_eq_true rfl, Nat.le_of_ble_eq_true rfl⟩ rfl rfl hl.1 (Nat.le_of_ble_eq_true rfl) ⟨Nat.zero_le _, Nat.zero_le _⟩ dX5_comes_64 (fun H locs hW hS => ?_)
        refine lv_aload_n hx hb dX5_comes_67 rfl (lv_at hl 0 rfl) ?_
        refine getM hx hb hta hown hE.1 hW 0 (by decide) q1181 rfl dX5_comes_68 ?_
        refine lv_bipush (v := 9) hx hb dX5_comes_71 (by decide) ?_
        refine lv_dup2_11 hx hb dX5_comes_73 rfl rfl ?_
        refine iald hx hb hE.1 hW sh_194 (vp_lit (by decide +kernel)) dX5_comes_74 ?_
        refine lv_iconst (v := 1) hx hb dX5_comes_75 (by decide) ?_
        refine lv_iadd hx hb dX5_comes_76 ?_
        refine iast (k := 194) (i := 9) (x := ((σ13 194 (9 : Int32).toNatClampNeg) + 1)) hx hb hE.1 hW hS sh_194 (vp_lit (by decide +kernel)) dX5_comes_77 (fun H locs hW hS => ?_)
        obtain ⟨σ14, e15, hf⟩ := st_e hf
        rw [e15] at hW
        refine lv_aload_n hx hb dX5_comes_78 rfl (lv_at hl 0 rfl) ?_
        refine getM hx hb hta hown hE.1 hW 0 (by decide) q1181 rfl dX5_comes_79 ?_
        refine lv_iconst (v := 3) hx hb dX5_comes_82 (by decide) ?_
        refine lv_dup2_11 hx hb dX5_comes_83 rfl rfl ?_
        refine iald hx hb hE.1 hW sh_194 (vp_lit (by decide +kernel)) dX5_comes_84 ?_
        refine lv_iload_n hx hb dX5_comes_85 rfl (lv_at hl 1 rfl) ?_
        refine lv_iadd hx hb dX5_comes_86 ?_
        refine iast (k := 194) (i := 3) (x := ((σ14 194 (3 : Int32).toNatClampNeg) + x1)) hx hb hE.1 hW hS sh_194 (vp_lit (by decide +kernel)) dX5_comes_87 (fun H locs hW hS => ?_)
        obtain ⟨σ16, e17, hf⟩ := st_e hf
        rw [e17] at hW
        refine lv_iload hx hb dX5_comes_88 (lv_at hl 4 rfl) ?_
        cases hf
        exact W.iret hx hb hr (fun u hu _ => ⟨⟨rfl, by rw [hu]; exact hW⟩, hS.F hu⟩) hS.2.2 dX5_comes_90
      · have hf := ifn h1 hf
        refine lv_aload_n hx hb dX5_comes_19 rfl (lv_at hl 0 rfl) ?_
        refine lv_iload hx hb dX5_comes_20 (lv_at hl 4 rfl) ?_
        refine lv_iload hx hb dX5_comes_22 (lv_at hl 5 rfl) ?_
        refine lv_iconst (v := 0) hx hb dX5_comes_24 (by decide) ?_
        obtain ⟨σ20, u19, hf⟩ := b1_e hf
        refine mV (k := 193) (q := (5, 0)) (C := RX5) (T := TX5) (N := 14) (ci := 5) (n := 3) (As := [.int x4, .int x5, .int 0]) (rest := []) (c_X5_lay l D t b τ x4 x5 0 σ20 u19) sh_193 (by decide) rfl rfl hx hb hml hown hts hE hW hS q1361 q1363 q53 q96 q1364 hy_X5_lay ⟨rfl, rfl⟩ ⟨Nat.le_of_ble_eq_true rfl, Nat.le_of_ble_eq_true rfl⟩ rfl rfl hl.1 (Nat.le_of_ble_eq_true rfl) ⟨Nat.zero_le _, Nat.zero_le _⟩ dX5_comes_25 (fun H locs hW hS => ?_)
        refine lv_iinc (v := (x5 + 1)) (lv' := [(5, .int (x5 + 1)), (0, .ref (b + 193)), (1, .int x1), (2, .int x2), (3, .int x3), (4, .int x4)]) hx hb dX5_comes_28 hl (k := 5) rfl (by rfl) (by decide) rfl (fun ls hl => ?_)
        refine lv_goto (tgt := 12) hx hb dX5_comes_31 (by decide) ?_
        exact ih_12 σ20 x1 x2 x3 x4 (x5 + 1) _ _ _ hf hW hS (lv_sub hl [1, 2, 3, 4, 5, 0] rfl)
  exact key_12 10000 σ p1 p2 p3 (σ 194 (9 : Int32).toNatClampNeg) 0 _ _ _ hf hW hS (lv_sub hl [2, 3, 4, 5, 1, 0] rfl)
def f_X5_rain (σ : Sg) (p1 : Int32) : Option Int32 := gd (14 + p1) 1785 (if ((σ 194 (6 : Int32).toNatClampNeg) - (σ 194 (6 : Int32).toNatClampNeg) / 7 * 7) = 6 then (if ((σ 194 ((14 + p1)).toNatClampNeg) + 4) ≤ 9 then (some ((σ 194 ((14 + p1)).toNatClampNeg) + 4)) else (some 9)) else (if ((σ 194 ((14 + p1)).toNatClampNeg) + 0) ≤ 9 then (some ((σ 194 ((14 + p1)).toNatClampNeg) + 0)) else (some 9)))
set_option maxHeartbeats 4000000 in
set_option maxRecDepth 100000 in
theorem c_X5_rain (l : Launch) (D : va_G) (t : Nat → ClassId) (b : Nat) (σ : Sg) (p1 : Int32) (r : Int32) (hf : f_X5_rain σ p1 = some r) : Met l yX5_rain (Cond.code yX5_rain cX5_rain 3 (some .int) :: ALL) ({ frames := 0, cells := 0, slots := 0, locals := 0 }) (PM D t b σ [.ref (b + 193), .int p1]) (QG D t b σ (some (.int r))) 0 0 (geA b) := by
  refine Met.ofW (cc := cX5_rain) (maxL := 3) (ret := (some .int)) (by decide) rfl ?_
  intro p e s m args below meth c s₁ B hml hv
  obtain ⟨rfl, hW, hE⟩ := hv
  have hx := B.exec
  have hb := B.bytes
  have hr := B.returns
  have hts := atoms_spec (ws := Cond.code yX5_rain cX5_rain 3 (some .int) :: ALL) B.pre
  have hta := fun w h => hts w (List.mem_cons_of_mem _ h)
  have hown : s.vm.findClass RX5 = some m.cls := findClass_of_methodNamed B.named
  have hlocks := B.notSynchronized
  have hS : va_S (geA b) s.heap s.heap [] := va_S.rf
  have hl := lv_entry ([.ref (b + 193), .int p1]) (n := 3) (Nat.le_of_ble_eq_true rfl)
  rw [lg_entry_eq]
  generalize (lg_sl ([.ref (b + 193), .int p1]) ++ List.replicate (3 - (lg_sl ([.ref (b + 193), .int p1])).length) Slot.unset).toArray = ls at hl ⊢
  have hl : lv_has ls 3 [(0, .ref (b + 193)), (1, .int p1)] := hl
  unfold f_X5_rain at hf
  refine lv_aload_n hx hb dX5_rain_0 rfl (lv_at hl 0 rfl) ?_
  refine getM hx hb hta hown hE.1 hW 0 (by decide) q1181 rfl dX5_rain_1 ?_
  refine lv_bipush (v := 14) hx hb dX5_rain_4 (by decide) ?_
  refine lv_iload_n hx hb dX5_rain_6 rfl (lv_at hl 1 rfl) ?_
  refine lv_iadd hx hb dX5_rain_7 ?_
  obtain ⟨g1, hf⟩ := gd_e hf
  refine iald hx hb hE.1 hW sh_194 g1 dX5_rain_8 ?_
  refine lv_aload_n hx hb dX5_rain_9 rfl (lv_at hl 0 rfl) ?_
  refine getM hx hb hta hown hE.1 hW 0 (by decide) q1181 rfl dX5_rain_10 ?_
  refine lv_bipush (v := 6) hx hb dX5_rain_13 (by decide) ?_
  refine iald hx hb hE.1 hW sh_194 (vp_lit (by decide +kernel)) dX5_rain_15 ?_
  refine lv_bipush (v := 7) hx hb dX5_rain_16 (by decide) ?_
  refine lv_irem hx hb dX5_rain_18 (by decide) ?_
  refine lv_bipush (v := 6) hx hb dX5_rain_19 (by decide) ?_
  refine lv_icmp_ne (tgt := 28) hx hb dX5_rain_21 (by decide) (fun h2 => ?_) (fun h2 => ?_)
  · have hf := ifn h2 hf
    refine lv_iconst (v := 0) hx hb dX5_rain_28 (by decide) ?_
    refine lv_iadd hx hb dX5_rain_29 ?_
    refine lv_istore_n (lv' := [(2, .int ((σ 194 ((14 + p1)).toNatClampNeg) + 0)), (0, .ref (b + 193)), (1, .int p1)]) hx hb dX5_rain_30 rfl hl (by decide) rfl (fun ls hl => ?_)
    refine lv_iload_n hx hb dX5_rain_31 rfl (lv_at hl 0 rfl) ?_
    refine lv_bipush (v := 9) hx hb dX5_rain_32 (by decide) ?_
    refine lv_icmp_le (tgt := 42) hx hb dX5_rain_34 (by decide) (fun h4 => ?_) (fun h4 => ?_)
    · have hf := ifp h4 hf
      refine lv_iload_n hx hb dX5_rain_42 rfl (lv_at hl 0 rfl) ?_
      cases hf
      exact W.iret hx hb hr (fun u hu _ => ⟨⟨rfl, by rw [hu]; exact hW⟩, hS.F hu⟩) hS.2.2 dX5_rain_43
    · have hf := ifn h4 hf
      refine lv_bipush (v := 9) hx hb dX5_rain_37 (by decide) ?_
      refine lv_goto (tgt := 43) hx hb dX5_rain_39 (by decide) ?_
      cases hf
      exact W.iret hx hb hr (fun u hu _ => ⟨⟨rfl, by rw [hu]; exact hW⟩, hS.F hu⟩) hS.2.2 dX5_rain_43
  · have hf := ifp h2 hf
    refine lv_iconst (v := 4) hx hb dX5_rain_24 (by decide) ?_
    refine lv_goto (tgt := 29) hx hb dX5_rain_25 (by decide) ?_
    refine lv_iadd hx hb dX5_rain_29 ?_
    refine lv_istore_n (lv' := [(2, .int ((σ 194 ((14 + p1)).toNatClampNeg) + 4)), (0, .ref (b + 193)), (1, .int p1)]) hx hb dX5_rain_30 rfl hl (by decide) rfl (fun ls hl => ?_)
    refine lv_iload_n hx hb dX5_rain_31 rfl (lv_at hl 0 rfl) ?_
    refine lv_bipush (v := 9) hx hb dX5_rain_32 (by decide) ?_
    refine lv_icmp_le (tgt := 42) hx hb dX5_rain_34 (by decide) (fun h3 => ?_) (fun h3 => ?_)
    · have hf := ifp h3 hf
      refine lv_iload_n hx hb dX5_rain_42 rfl (lv_at hl 0 rfl) ?_
      cases hf
      exact W.iret hx hb hr (fun u hu _ => ⟨⟨rfl, by rw [hu]; exact hW⟩, hS.F hu⟩) hS.2.2 dX5_rain_43
    · have hf := ifn h3 hf
      refine lv_bipush (v := 9) hx hb dX5_rain_37 (by decide) ?_
      refine lv_goto (tgt := 43) hx hb dX5_rain_39 (by decide) ?_
      cases hf
      exact W.iret hx hb hr (fun u hu _ => ⟨⟨rfl, by rw [hu]; exact hW⟩, hS.F hu⟩) hS.2.2 dX5_rain_43
def f_X5_isDue (σ : Sg) : Option Int32 := b1 (f_X5_rain σ ((σ 194 (7 : Int32).toNatClampNeg) / 4)) fun y1 => b1 (f_X5_hasRoom σ) fun y3 => if y3 = 0 then (some 0) else (if ((σ 194 (7 : Int32).toNatClampNeg) - (σ 194 (7 : Int32).toNatClampNeg) / 4 * 4) = 0 then (if y1 = 0 then (some 1) else (if ((σ 194 (7 : Int32).toNatClampNeg) - (σ 194 (7 : Int32).toNatClampNeg) / 8 * 8) = 0 then (b1 (f_X5_in σ y1 1 4) fun y9 => if y9 = 0 then (some 0) else (some 1)) else (some 0))) else (if ((σ 194 (7 : Int32).toNatClampNeg) - (σ 194 (7 : Int32).toNatClampNeg) / 8 * 8) = 0 then (b1 (f_X5_in σ y1 1 4) fun y13 => if y13 = 0 then (some 0) else (some 1)) else (some 0)))
set_option maxHeartbeats 4000000 in
set_option maxRecDepth 100000 in
theorem c_X5_isDue (l : Launch) (D : va_G) (t : Nat → ClassId) (b : Nat) (σ : Sg) (r : Int32) (hf : f_X5_isDue σ = some r) : Met l yX5_isDue (Cond.code yX5_isDue cX5_isDue 2 (some .boolean) :: ALL) ({ frames := 4, cells := 0, slots := 0, locals := 85 }) (PM D t b σ [.ref (b + 193)]) (QG D t b σ (some (.int r))) 0 0 (geA b) := by
  refine Met.ofW (cc := cX5_isDue) (maxL := 2) (ret := (some .boolean)) (by decide) rfl ?_
  intro p e s m args below meth c s₁ B hml hv
  obtain ⟨rfl, hW, hE⟩ := hv
  have hx := B.exec
  have hb := B.bytes
  have hr := B.returns
  have hts := atoms_spec (ws := Cond.code yX5_isDue cX5_isDue 2 (some .boolean) :: ALL) B.pre
  have hta := fun w h => hts w (List.mem_cons_of_mem _ h)
  have hown : s.vm.findClass RX5 = some m.cls := findClass_of_methodNamed B.named
  have hlocks := B.notSynchronized
  have hS : va_S (geA b) s.heap s.heap [] := va_S.rf
  have hl := lv_entry ([.ref (b + 193)]) (n := 2) (Nat.le_of_ble_eq_true rfl)
  rw [lg_entry_eq]
  generalize (lg_sl ([.ref (b + 193)]) ++ List.replicate (2 - (lg_sl ([.ref (b + 193)])).length) Slot.unset).toArray = ls at hl ⊢
  have hl : lv_has ls 2 [(0, .ref (b + 193))] := hl
  unfold f_X5_isDue at hf
  refine lv_aload_n hx hb dX5_isDue_0 rfl (lv_at hl 0 rfl) ?_
  refine lv_aload_n hx hb dX5_isDue_1 rfl (lv_at hl 0 rfl) ?_
  refine getM hx hb hta hown hE.1 hW 0 (by decide) q1181 rfl dX5_isDue_2 ?_
  refine lv_bipush (v := 7) hx hb dX5_isDue_5 (by decide) ?_
  refine iald hx hb hE.1 hW sh_194 (vp_lit (by decide +kernel)) dX5_isDue_7 ?_
  refine lv_iconst (v := 4) hx hb dX5_isDue_8 (by decide) ?_
  refine lv_idiv hx hb dX5_isDue_9 (by decide) ?_
  obtain ⟨y1, u2, hf⟩ := b1_e hf
  refine mV (k := 193) (q := (5, 0)) (C := RX5) (T := TX5) (N := 14) (ci := 5) (n := 1) (As := [.int ((σ 194 (7 : Int32).toNatClampNeg) / 4)]) (rest := []) (c_X5_rain l D t b σ ((σ 194 (7 : Int32).toNatClampNeg) / 4) y1 u2) sh_193 (by decide) rfl rfl hx hb hml hown hts hE hW hS q1392 q1394 q58 q96 q1395 hy_X5_rain ⟨rfl, rfl⟩ ⟨Nat.le_of_ble_eq_true rfl, Nat.le_of_ble_eq_true rfl⟩ rfl rfl hl.1 (Nat.le_of_ble_eq_true rfl) ⟨Nat.zero_le _, Nat.zero_le _⟩ dX5_isDue_10 (fun H locs hW hS => ?_)
  refine lv_istore_n (lv' := [(1, .int y1), (0, .ref (b + 193))]) hx hb dX5_isDue_13 rfl hl (by decide) rfl (fun ls hl => ?_)
  refine lv_aload_n hx hb dX5_isDue_14 rfl (lv_at hl 1 rfl) ?_
  obtain ⟨y3, u4, hf⟩ := b1_e hf
  refine mV (k := 193) (q := (5, 0)) (C := RX5) (T := TX5) (N := 14) (ci := 5) (n := 0) (As := []) (rest := []) (c_X5_hasRoom l D t b σ y3 u4) sh_193 (by decide) rfl rfl hx hb hml hown hts hE hW hS q1341 q1343 q48 q96 q1344 hy_X5_hasRoom ⟨rfl, rfl⟩ ⟨Nat.le_of_ble_eq_true rfl, Nat.le_of_ble_eq_true rfl⟩ rfl rfl hl.1 (Nat.le_of_ble_eq_true rfl) ⟨Nat.zero_le _, Nat.zero_le _⟩ dX5_isDue_15 (fun H locs hW hS => ?_)
  refine lv_if_eq (tgt := 63) hx hb dX5_isDue_18 (by decide) (fun h5 => ?_) (fun h5 => ?_)
  · have hf := ifp h5 hf
    refine lv_iconst (v := 0) hx hb dX5_isDue_63 (by decide) ?_
    cases hf
    exact W.zret (ty := .boolean) hx hb hr (by decide) (fun u hu _ => ⟨⟨rfl, by rw [hu]; exact hW⟩, hS.F hu⟩) hS.2.2 dX5_isDue_64
  · have hf := ifn h5 hf
    refine lv_aload_n hx hb dX5_isDue_21 rfl (lv_at hl 1 rfl) ?_
    refine getM hx hb hta hown hE.1 hW 0 (by decide) q1181 rfl dX5_isDue_22 ?_
    refine lv_bipush (v := 7) hx hb dX5_isDue_25 (by decide) ?_
    refine iald hx hb hE.1 hW sh_194 (vp_lit (by decide +kernel)) dX5_isDue_27 ?_
    refine lv_iconst (v := 4) hx hb dX5_isDue_28 (by decide) ?_
    refine lv_irem hx hb dX5_isDue_29 (by decide) ?_
    refine lv_if_ne (tgt := 37) hx hb dX5_isDue_30 (by decide) (fun h6 => ?_) (fun h6 => ?_)
    · have hf := ifn h6 hf
      refine lv_aload_n hx hb dX5_isDue_37 rfl (lv_at hl 1 rfl) ?_
      refine getM hx hb hta hown hE.1 hW 0 (by decide) q1181 rfl dX5_isDue_38 ?_
      refine lv_bipush (v := 7) hx hb dX5_isDue_41 (by decide) ?_
      refine iald hx hb hE.1 hW sh_194 (vp_lit (by decide +kernel)) dX5_isDue_43 ?_
      refine lv_bipush (v := 8) hx hb dX5_isDue_44 (by decide) ?_
      refine lv_irem hx hb dX5_isDue_46 (by decide) ?_
      refine lv_if_ne (tgt := 63) hx hb dX5_isDue_47 (by decide) (fun h12 => ?_) (fun h12 => ?_)
      · have hf := ifn h12 hf
        refine lv_iconst (v := 0) hx hb dX5_isDue_63 (by decide) ?_
        cases hf
        exact W.zret (ty := .boolean) hx hb hr (by decide) (fun u hu _ => ⟨⟨rfl, by rw [hu]; exact hW⟩, hS.F hu⟩) hS.2.2 dX5_isDue_64
      · have hf := ifp h12 hf
        refine lv_iload_n hx hb dX5_isDue_50 rfl (lv_at hl 0 rfl) ?_
        refine lv_iconst (v := 1) hx hb dX5_isDue_51 (by decide) ?_
        refine lv_iconst (v := 4) hx hb dX5_isDue_52 (by decide) ?_
        obtain ⟨y13, u14, hf⟩ := b1_e hf
        refine mS (n := 3) (As := [.int y1, .int 1, .int 4]) (rest := []) (c_X5_in l D t b σ y1 1 4 y13 u14) hx hb hml hown hts hE hW hS q1239 q1240 q96 q1241 hs_X5_in ⟨rfl, rfl⟩ ⟨Nat.le_of_ble_eq_true rfl, Nat.le_of_ble_eq_true rfl⟩ rfl rfl hl.1 (Nat.le_of_ble_eq_true rfl) ⟨Nat.zero_le _, Nat.zero_le _⟩ dX5_isDue_53 (fun H locs hW hS => ?_)
        refine lv_if_eq (tgt := 63) hx hb dX5_isDue_56 (by decide) (fun h15 => ?_) (fun h15 => ?_)
        · have hf := ifp h15 hf
          refine lv_iconst (v := 0) hx hb dX5_isDue_63 (by decide) ?_
          cases hf
          exact W.zret (ty := .boolean) hx hb hr (by decide) (fun u hu _ => ⟨⟨rfl, by rw [hu]; exact hW⟩, hS.F hu⟩) hS.2.2 dX5_isDue_64
        · have hf := ifn h15 hf
          refine lv_iconst (v := 1) hx hb dX5_isDue_59 (by decide) ?_
          refine lv_goto (tgt := 64) hx hb dX5_isDue_60 (by decide) ?_
          cases hf
          exact W.zret (ty := .boolean) hx hb hr (by decide) (fun u hu _ => ⟨⟨rfl, by rw [hu]; exact hW⟩, hS.F hu⟩) hS.2.2 dX5_isDue_64
    · have hf := ifp h6 hf
      refine lv_iload_n hx hb dX5_isDue_33 rfl (lv_at hl 0 rfl) ?_
      refine lv_if_eq (tgt := 59) hx hb dX5_isDue_34 (by decide) (fun h7 => ?_) (fun h7 => ?_)
      · have hf := ifp h7 hf
        refine lv_iconst (v := 1) hx hb dX5_isDue_59 (by decide) ?_
        refine lv_goto (tgt := 64) hx hb dX5_isDue_60 (by decide) ?_
        cases hf
        exact W.zret (ty := .boolean) hx hb hr (by decide) (fun u hu _ => ⟨⟨rfl, by rw [hu]; exact hW⟩, hS.F hu⟩) hS.2.2 dX5_isDue_64
      · have hf := ifn h7 hf
        refine lv_aload_n hx hb dX5_isDue_37 rfl (lv_at hl 1 rfl) ?_
        refine getM hx hb hta hown hE.1 hW 0 (by decide) q1181 rfl dX5_isDue_38 ?_
        refine lv_bipush (v := 7) hx hb dX5_isDue_41 (by decide) ?_
        refine iald hx hb hE.1 hW sh_194 (vp_lit (by decide +kernel)) dX5_isDue_43 ?_
        refine lv_bipush (v := 8) hx hb dX5_isDue_44 (by decide) ?_
        refine lv_irem hx hb dX5_isDue_46 (by decide) ?_
        refine lv_if_ne (tgt := 63) hx hb dX5_isDue_47 (by decide) (fun h8 => ?_) (fun h8 => ?_)
        · have hf := ifn h8 hf
          refine lv_iconst (v := 0) hx hb dX5_isDue_63 (by decide) ?_
          cases hf
          exact W.zret (ty := .boolean) hx hb hr (by decide) (fun u hu _ => ⟨⟨rfl, by rw [hu]; exact hW⟩, hS.F hu⟩) hS.2.2 dX5_isDue_64
        · have hf := ifp h8 hf
          refine lv_iload_n hx hb dX5_isDue_50 rfl (lv_at hl 0 rfl) ?_
          refine lv_iconst (v := 1) hx hb dX5_isDue_51 (by decide) ?_
          refine lv_iconst (v := 4) hx hb dX5_isDue_52 (by decide) ?_
          obtain ⟨y9, u10, hf⟩ := b1_e hf
          refine mS (n := 3) (As := [.int y1, .int 1, .int 4]) (rest := []) (c_X5_in l D t b σ y1 1 4 y9 u10) hx hb hml hown hts hE hW hS q1239 q1240 q96 q1241 hs_X5_in ⟨rfl, rfl⟩ ⟨Nat.le_of_ble_eq_true rfl, Nat.le_of_ble_eq_true rfl⟩ rfl rfl hl.1 (Nat.le_of_ble_eq_true rfl) ⟨Nat.zero_le _, Nat.zero_le _⟩ dX5_isDue_53 (fun H locs hW hS => ?_)
          refine lv_if_eq (tgt := 63) hx hb dX5_isDue_56 (by decide) (fun h11 => ?_) (fun h11 => ?_)
          · have hf := ifp h11 hf
            refine lv_iconst (v := 0) hx hb dX5_isDue_63 (by decide) ?_
            cases hf
            exact W.zret (ty := .boolean) hx hb hr (by decide) (fun u hu _ => ⟨⟨rfl, by rw [hu]; exact hW⟩, hS.F hu⟩) hS.2.2 dX5_isDue_64
          · have hf := ifn h11 hf
            refine lv_iconst (v := 1) hx hb dX5_isDue_59 (by decide) ?_
            refine lv_goto (tgt := 64) hx hb dX5_isDue_60 (by decide) ?_
            cases hf
            exact W.zret (ty := .boolean) hx hb hr (by decide) (fun u hu _ => ⟨⟨rfl, by rw [hu]; exact hW⟩, hS.F hu⟩) hS.2.2 dX5_isDue_64
def f_X5_goesHome (σ : Sg) (p1 : Int32) : Option Sg := b1 (f_X5_lay σ p1 4 (-1)) fun σ3 => b1 (f_X5_lay σ3 p1 5 1) fun σ6 => some σ6
set_option maxHeartbeats 4000000 in
set_option maxRecDepth 100000 in
theorem c_X5_goesHome (l : Launch) (D : va_G) (t : Nat → ClassId) (b : Nat) (σ : Sg) (p1 : Int32) (σr : Sg) (hf : f_X5_goesHome σ p1 = some σr) : Met l yX5_goesHome (Cond.code yX5_goesHome cX5_goesHome 2 none :: ALL) ({ frames := 1, cells := 0, slots := 0, locals := 23 }) (PM D t b σ [.ref (b + 193), .int p1]) (QG D t b σr none) 0 0 (geA b) := by
  refine Met.ofW (cc := cX5_goesHome) (maxL := 2) (ret := none) (by decide) rfl ?_
  intro p e s m args below meth c s₁ B hml hv
  obtain ⟨rfl, hW, hE⟩ := hv
  have hx := B.exec
  have hb := B.bytes
  have hr := B.returns
  have hts := atoms_spec (ws := Cond.code yX5_goesHome cX5_goesHome 2 none :: ALL) B.pre
  have hta := fun w h => hts w (List.mem_cons_of_mem _ h)
  have hown : s.vm.findClass RX5 = some m.cls := findClass_of_methodNamed B.named
  have hlocks := B.notSynchronized
  have hS : va_S (geA b) s.heap s.heap [] := va_S.rf
  have hl := lv_entry ([.ref (b + 193), .int p1]) (n := 2) (Nat.le_of_ble_eq_true rfl)
  rw [lg_entry_eq]
  generalize (lg_sl ([.ref (b + 193), .int p1]) ++ List.replicate (2 - (lg_sl ([.ref (b + 193), .int p1])).length) Slot.unset).toArray = ls at hl ⊢
  have hl : lv_has ls 2 [(0, .ref (b + 193)), (1, .int p1)] := hl
  unfold f_X5_goesHome at hf
  refine lv_aload_n hx hb dX5_goesHome_0 rfl (lv_at hl 0 rfl) ?_
  refine lv_iload_n hx hb dX5_goesHome_1 rfl (lv_at hl 1 rfl) ?_
  refine lv_iconst (v := 4) hx hb dX5_goesHome_2 (by decide) ?_
  refine lv_iconst (v := (-1)) hx hb dX5_goesHome_3 (by decide) ?_
  obtain ⟨σ3, u2, hf⟩ := b1_e hf
  refine mV (k := 193) (q := (5, 0)) (C := RX5) (T := TX5) (N := 14) (ci := 5) (n := 3) (As := [.int p1, .int 4, .int (-1)]) (rest := []) (c_X5_lay l D t b σ p1 4 (-1) σ3 u2) sh_193 (by decide) rfl rfl hx hb hml hown hts hE hW hS q1361 q1363 q53 q96 q1364 hy_X5_lay ⟨rfl, rfl⟩ ⟨Nat.le_of_ble_eq_true rfl, Nat.le_of_ble_eq_true rfl⟩ rfl rfl hl.1 (Nat.le_of_ble_eq_true rfl) ⟨Nat.zero_le _, Nat.zero_le _⟩ dX5_goesHome_4 (fun H locs hW hS => ?_)
  refine lv_aload_n hx hb dX5_goesHome_7 rfl (lv_at hl 0 rfl) ?_
  refine lv_iload_n hx hb dX5_goesHome_8 rfl (lv_at hl 1 rfl) ?_
  refine lv_iconst (v := 5) hx hb dX5_goesHome_9 (by decide) ?_
  refine lv_iconst (v := 1) hx hb dX5_goesHome_10 (by decide) ?_
  obtain ⟨σ6, u5, hf⟩ := b1_e hf
  refine mV (k := 193) (q := (5, 0)) (C := RX5) (T := TX5) (N := 14) (ci := 5) (n := 3) (As := [.int p1, .int 5, .int 1]) (rest := []) (c_X5_lay l D t b σ3 p1 5 1 σ6 u5) sh_193 (by decide) rfl rfl hx hb hml hown hts hE hW hS q1361 q1363 q53 q96 q1364 hy_X5_lay ⟨rfl, rfl⟩ ⟨Nat.le_of_ble_eq_true rfl, Nat.le_of_ble_eq_true rfl⟩ rfl rfl hl.1 (Nat.le_of_ble_eq_true rfl) ⟨Nat.zero_le _, Nat.zero_le _⟩ dX5_goesHome_11 (fun H locs hW hS => ?_)
  cases hf
  exact W.vret hx hb hr (fun u hu _ => ⟨⟨rfl, by rw [hu]; exact hW⟩, hS.F hu⟩) hS.2.2 dX5_goesHome_14
def f_X5_feels (σ : Sg) (p1 : Int32) (p2 : Int32) : Option Sg := b1 (f_X5_of σ p1 1) fun y1 => if 0 ≤ (y1 + p2) then (if (y1 + p2) ≤ 100 then (b1 (f_X5_lay σ p1 1 (y1 + p2)) fun σ7 => some σ7) else (b1 (f_X5_lay σ p1 1 100) fun σ10 => some σ10)) else (b1 (f_X5_lay σ p1 1 0) fun σ13 => some σ13)
set_option maxHeartbeats 4000000 in
set_option maxRecDepth 100000 in
theorem c_X5_feels (l : Launch) (D : va_G) (t : Nat → ClassId) (b : Nat) (σ : Sg) (p1 : Int32) (p2 : Int32) (σr : Sg) (hf : f_X5_feels σ p1 p2 = some σr) : Met l yX5_feels (Cond.code yX5_feels cX5_feels 4 none :: ALL) ({ frames := 1, cells := 0, slots := 0, locals := 23 }) (PM D t b σ [.ref (b + 193), .int p1, .int p2]) (QG D t b σr none) 0 0 (geA b) := by
  refine Met.ofW (cc := cX5_feels) (maxL := 4) (ret := none) (by decide) rfl ?_
  intro p e s m args below meth c s₁ B hml hv
  obtain ⟨rfl, hW, hE⟩ := hv
  have hx := B.exec
  have hb := B.bytes
  have hr := B.returns
  have hts := atoms_spec (ws := Cond.code yX5_feels cX5_feels 4 none :: ALL) B.pre
  have hta := fun w h => hts w (List.mem_cons_of_mem _ h)
  have hown : s.vm.findClass RX5 = some m.cls := findClass_of_methodNamed B.named
  have hlocks := B.notSynchronized
  have hS : va_S (geA b) s.heap s.heap [] := va_S.rf
  have hl := lv_entry ([.ref (b + 193), .int p1, .int p2]) (n := 4) (Nat.le_of_ble_eq_true rfl)
  rw [lg_entry_eq]
  generalize (lg_sl ([.ref (b + 193), .int p1, .int p2]) ++ List.replicate (4 - (lg_sl ([.ref (b + 193), .int p1, .int p2])).length) Slot.unset).toArray = ls at hl ⊢
  have hl : lv_has ls 4 [(0, .ref (b + 193)), (1, .int p1), (2, .int p2)] := hl
  unfold f_X5_feels at hf
  refine lv_aload_n hx hb dX5_feels_0 rfl (lv_at hl 0 rfl) ?_
  refine lv_iload_n hx hb dX5_feels_1 rfl (lv_at hl 1 rfl) ?_
  refine lv_iconst (v := 1) hx hb dX5_feels_2 (by decide) ?_
  obtain ⟨y1, u2, hf⟩ := b1_e hf
  refine mV (k := 193) (q := (5, 0)) (C := RX5) (T := TX5) (N := 14) (ci := 5) (n := 2) (As := [.int p1, .int 1]) (rest := []) (c_X5_of l D t b σ p1 1 y1 u2) sh_193 (by decide) rfl rfl hx hb hml hown hts hE hW hS q1353 q1355 q51 q96 q1356 hy_X5_of ⟨rfl, rfl⟩ ⟨Nat.le_of_ble_eq_true rfl, Nat.le_of_ble_eq_true rfl⟩ rfl rfl hl.1 (Nat.le_of_ble_eq_true rfl) ⟨Nat.zero_le _, Nat.zero_le _⟩ dX5_feels_3 (fun H locs hW hS => ?_)
  refine lv_iload_n hx hb dX5_feels_6 rfl (lv_at hl 2 rfl) ?_
  refine lv_iadd hx hb dX5_feels_7 ?_
  refine lv_istore_n (lv' := [(3, .int (y1 + p2)), (0, .ref (b + 193)), (1, .int p1), (2, .int p2)]) hx hb dX5_feels_8 rfl hl (by decide) rfl (fun ls hl => ?_)
  refine lv_aload_n hx hb dX5_feels_9 rfl (lv_at hl 1 rfl) ?_
  refine lv_iload_n hx hb dX5_feels_10 rfl (lv_at hl 2 rfl) ?_
  refine lv_iconst (v := 1) hx hb dX5_feels_11 (by decide) ?_
  refine lv_iload_n hx hb dX5_feels_12 rfl (lv_at hl 0 rfl) ?_
  refine lv_if_ge (tgt := 20) hx hb dX5_feels_13 (by decide) (fun h3 => ?_) (fun h3 => ?_)
  · have hf := ifp h3 hf
    refine lv_iload_n hx hb dX5_feels_20 rfl (lv_at hl 0 rfl) ?_
    refine lv_bipush (v := 100) hx hb dX5_feels_21 (by decide) ?_
    refine lv_icmp_le (tgt := 31) hx hb dX5_feels_23 (by decide) (fun h4 => ?_) (fun h4 => ?_)
    · have hf := ifp h4 hf
      refine lv_iload_n hx hb dX5_feels_31 rfl (lv_at hl 0 rfl) ?_
      obtain ⟨σ7, u6, hf⟩ := b1_e hf
      refine mV (k := 193) (q := (5, 0)) (C := RX5) (T := TX5) (N := 14) (ci := 5) (n := 3) (As := [.int p1, .int 1, .int (y1 + p2)]) (rest := []) (c_X5_lay l D t b σ p1 1 (y1 + p2) σ7 u6) sh_193 (by decide) rfl rfl hx hb hml hown hts hE hW hS q1361 q1363 q53 q96 q1364 hy_X5_lay ⟨rfl, rfl⟩ ⟨Nat.le_of_ble_eq_true rfl, Nat.le_of_ble_eq_true rfl⟩ rfl rfl hl.1 (Nat.le_of_ble_eq_true rfl) ⟨Nat.zero_le _, Nat.zero_le _⟩ dX5_feels_32 (fun H locs hW hS => ?_)
      cases hf
      exact W.vret hx hb hr (fun u hu _ => ⟨⟨rfl, by rw [hu]; exact hW⟩, hS.F hu⟩) hS.2.2 dX5_feels_35
    · have hf := ifn h4 hf
      refine lv_bipush (v := 100) hx hb dX5_feels_26 (by decide) ?_
      refine lv_goto (tgt := 32) hx hb dX5_feels_28 (by decide) ?_
      obtain ⟨σ10, u9, hf⟩ := b1_e hf
      refine mV (k := 193) (q := (5, 0)) (C := RX5) (T := TX5) (N := 14) (ci := 5) (n := 3) (As := [.int p1, .int 1, .int 100]) (rest := []) (c_X5_lay l D t b σ p1 1 100 σ10 u9) sh_193 (by decide) rfl rfl hx hb hml hown hts hE hW hS q1361 q1363 q53 q96 q1364 hy_X5_lay ⟨rfl, rfl⟩ ⟨Nat.le_of_ble_eq_true rfl, Nat.le_of_ble_eq_true rfl⟩ rfl rfl hl.1 (Nat.le_of_ble_eq_true rfl) ⟨Nat.zero_le _, Nat.zero_le _⟩ dX5_feels_32 (fun H locs hW hS => ?_)
      cases hf
      exact W.vret hx hb hr (fun u hu _ => ⟨⟨rfl, by rw [hu]; exact hW⟩, hS.F hu⟩) hS.2.2 dX5_feels_35
  · have hf := ifn h3 hf
    refine lv_iconst (v := 0) hx hb dX5_feels_16 (by decide) ?_
    refine lv_goto (tgt := 32) hx hb dX5_feels_17 (by decide) ?_
    obtain ⟨σ13, u12, hf⟩ := b1_e hf
    refine mV (k := 193) (q := (5, 0)) (C := RX5) (T := TX5) (N := 14) (ci := 5) (n := 3) (As := [.int p1, .int 1, .int 0]) (rest := []) (c_X5_lay l D t b σ p1 1 0 σ13 u12) sh_193 (by decide) rfl rfl hx hb hml hown hts hE hW hS q1361 q1363 q53 q96 q1364 hy_X5_lay ⟨rfl, rfl⟩ ⟨Nat.le_of_ble_eq_true rfl, Nat.le_of_ble_eq_true rfl⟩ rfl rfl hl.1 (Nat.le_of_ble_eq_true rfl) ⟨Nat.zero_le _, Nat.zero_le _⟩ dX5_feels_32 (fun H locs hW hS => ?_)
    cases hf
    exact W.vret hx hb hr (fun u hu _ => ⟨⟨rfl, by rw [hu]; exact hW⟩, hS.F hu⟩) hS.2.2 dX5_feels_35
def f_X5_likes (σ : Sg) (p1 : Int32) (p2 : Int32) : Option Int32 := b1 (f_X5_its σ p2 1) fun y1 => b1 (f_X5_of σ p1 2) fun y3 => if y1 = y3 then (some 1) else (b1 (f_X5_of σ p1 1) fun y6 => if 50 ≤ y6 then (some 1) else (b1 (f_X5_its σ p2 1) fun y9 => if y9 = 4 then (some 1) else (some 0)))
set_option maxHeartbeats 4000000 in
set_option maxRecDepth 100000 in
theorem c_X5_likes (l : Launch) (D : va_G) (t : Nat → ClassId) (b : Nat) (σ : Sg) (p1 : Int32) (p2 : Int32) (r : Int32) (hf : f_X5_likes σ p1 p2 = some r) : Met l yX5_likes (Cond.code yX5_likes cX5_likes 3 (some .boolean) :: ALL) ({ frames := 1, cells := 0, slots := 0, locals := 22 }) (PM D t b σ [.ref (b + 193), .int p1, .int p2]) (QG D t b σ (some (.int r))) 0 0 (geA b) := by
  refine Met.ofW (cc := cX5_likes) (maxL := 3) (ret := (some .boolean)) (by decide) rfl ?_
  intro p e s m args below meth c s₁ B hml hv
  obtain ⟨rfl, hW, hE⟩ := hv
  have hx := B.exec
  have hb := B.bytes
  have hr := B.returns
  have hts := atoms_spec (ws := Cond.code yX5_likes cX5_likes 3 (some .boolean) :: ALL) B.pre
  have hta := fun w h => hts w (List.mem_cons_of_mem _ h)
  have hown : s.vm.findClass RX5 = some m.cls := findClass_of_methodNamed B.named
  have hlocks := B.notSynchronized
  have hS : va_S (geA b) s.heap s.heap [] := va_S.rf
  have hl := lv_entry ([.ref (b + 193), .int p1, .int p2]) (n := 3) (Nat.le_of_ble_eq_true rfl)
  rw [lg_entry_eq]
  generalize (lg_sl ([.ref (b + 193), .int p1, .int p2]) ++ List.replicate (3 - (lg_sl ([.ref (b + 193), .int p1, .int p2])).length) Slot.unset).toArray = ls at hl ⊢
  have hl : lv_has ls 3 [(0, .ref (b + 193)), (1, .int p1), (2, .int p2)] := hl
  unfold f_X5_likes at hf
  refine lv_aload_n hx hb dX5_likes_0 rfl (lv_at hl 0 rfl) ?_
  refine lv_iload_n hx hb dX5_likes_1 rfl (lv_at hl 2 rfl) ?_
  refine lv_iconst (v := 1) hx hb dX5_likes_2 (by decide) ?_
  obtain ⟨y1, u2, hf⟩ := b1_e hf
  refine mV (k := 193) (q := (5, 0)) (C := RX5) (T := TX5) (N := 14) (ci := 5) (n := 2) (As := [.int p2, .int 1]) (rest := []) (c_X5_its l D t b σ p2 1 y1 u2) sh_193 (by decide) rfl rfl hx hb hml hown hts hE hW hS q1252 q1254 q35 q96 q1255 hy_X5_its ⟨rfl, rfl⟩ ⟨Nat.le_of_ble_eq_true rfl, Nat.le_of_ble_eq_true rfl⟩ rfl rfl hl.1 (Nat.le_of_ble_eq_true rfl) ⟨Nat.zero_le _, Nat.zero_le _⟩ dX5_likes_3 (fun H locs hW hS => ?_)
  refine lv_aload_n hx hb dX5_likes_6 rfl (lv_at hl 0 rfl) ?_
  refine lv_iload_n hx hb dX5_likes_7 rfl (lv_at hl 1 rfl) ?_
  refine lv_iconst (v := 2) hx hb dX5_likes_8 (by decide) ?_
  obtain ⟨y3, u4, hf⟩ := b1_e hf
  refine mV (k := 193) (q := (5, 0)) (C := RX5) (T := TX5) (N := 14) (ci := 5) (n := 2) (As := [.int p1, .int 2]) (rest := [.int y1]) (c_X5_of l D t b σ p1 2 y3 u4) sh_193 (by decide) rfl rfl hx hb hml hown hts hE hW hS q1353 q1355 q51 q96 q1356 hy_X5_of ⟨rfl, rfl⟩ ⟨Nat.le_of_ble_eq_true rfl, Nat.le_of_ble_eq_true rfl⟩ rfl rfl hl.1 (Nat.le_of_ble_eq_true rfl) ⟨Nat.zero_le _, Nat.zero_le _⟩ dX5_likes_9 (fun H locs hW hS => ?_)
  refine lv_icmp_eq (tgt := 36) hx hb dX5_likes_12 (by decide) (fun h5 => ?_) (fun h5 => ?_)
  · have hf := ifp h5 hf
    refine lv_iconst (v := 1) hx hb dX5_likes_36 (by decide) ?_
    refine lv_goto (tgt := 41) hx hb dX5_likes_37 (by decide) ?_
    cases hf
    exact W.zret (ty := .boolean) hx hb hr (by decide) (fun u hu _ => ⟨⟨rfl, by rw [hu]; exact hW⟩, hS.F hu⟩) hS.2.2 dX5_likes_41
  · have hf := ifn h5 hf
    refine lv_aload_n hx hb dX5_likes_15 rfl (lv_at hl 0 rfl) ?_
    refine lv_iload_n hx hb dX5_likes_16 rfl (lv_at hl 1 rfl) ?_
    refine lv_iconst (v := 1) hx hb dX5_likes_17 (by decide) ?_
    obtain ⟨y6, u7, hf⟩ := b1_e hf
    refine mV (k := 193) (q := (5, 0)) (C := RX5) (T := TX5) (N := 14) (ci := 5) (n := 2) (As := [.int p1, .int 1]) (rest := []) (c_X5_of l D t b σ p1 1 y6 u7) sh_193 (by decide) rfl rfl hx hb hml hown hts hE hW hS q1353 q1355 q51 q96 q1356 hy_X5_of ⟨rfl, rfl⟩ ⟨Nat.le_of_ble_eq_true rfl, Nat.le_of_ble_eq_true rfl⟩ rfl rfl hl.1 (Nat.le_of_ble_eq_true rfl) ⟨Nat.zero_le _, Nat.zero_le _⟩ dX5_likes_18 (fun H locs hW hS => ?_)
    refine lv_bipush (v := 50) hx hb dX5_likes_21 (by decide) ?_
    refine lv_icmp_ge (tgt := 36) hx hb dX5_likes_23 (by decide) (fun h8 => ?_) (fun h8 => ?_)
    · have hf := ifp h8 hf
      refine lv_iconst (v := 1) hx hb dX5_likes_36 (by decide) ?_
      refine lv_goto (tgt := 41) hx hb dX5_likes_37 (by decide) ?_
      cases hf
      exact W.zret (ty := .boolean) hx hb hr (by decide) (fun u hu _ => ⟨⟨rfl, by rw [hu]; exact hW⟩, hS.F hu⟩) hS.2.2 dX5_likes_41
    · have hf := ifn h8 hf
      refine lv_aload_n hx hb dX5_likes_26 rfl (lv_at hl 0 rfl) ?_
      refine lv_iload_n hx hb dX5_likes_27 rfl (lv_at hl 2 rfl) ?_
      refine lv_iconst (v := 1) hx hb dX5_likes_28 (by decide) ?_
      obtain ⟨y9, u10, hf⟩ := b1_e hf
      refine mV (k := 193) (q := (5, 0)) (C := RX5) (T := TX5) (N := 14) (ci := 5) (n := 2) (As := [.int p2, .int 1]) (rest := []) (c_X5_its l D t b σ p2 1 y9 u10) sh_193 (by decide) rfl rfl hx hb hml hown hts hE hW hS q1252 q1254 q35 q96 q1255 hy_X5_its ⟨rfl, rfl⟩ ⟨Nat.le_of_ble_eq_true rfl, Nat.le_of_ble_eq_true rfl⟩ rfl rfl hl.1 (Nat.le_of_ble_eq_true rfl) ⟨Nat.zero_le _, Nat.zero_le _⟩ dX5_likes_29 (fun H locs hW hS => ?_)
      refine lv_iconst (v := 4) hx hb dX5_likes_32 (by decide) ?_
      refine lv_icmp_ne (tgt := 40) hx hb dX5_likes_33 (by decide) (fun h11 => ?_) (fun h11 => ?_)
      · have hf := ifn h11 hf
        refine lv_iconst (v := 0) hx hb dX5_likes_40 (by decide) ?_
        cases hf
        exact W.zret (ty := .boolean) hx hb hr (by decide) (fun u hu _ => ⟨⟨rfl, by rw [hu]; exact hW⟩, hS.F hu⟩) hS.2.2 dX5_likes_41
      · have hf := ifp h11 hf
        refine lv_iconst (v := 1) hx hb dX5_likes_36 (by decide) ?_
        refine lv_goto (tgt := 41) hx hb dX5_likes_37 (by decide) ?_
        cases hf
        exact W.zret (ty := .boolean) hx hb hr (by decide) (fun u hu _ => ⟨⟨rfl, by rw [hu]; exact hW⟩, hS.F hu⟩) hS.2.2 dX5_likes_41
def f_X5_wants (σ : Sg) (p1 : Int32) (p2 : Int32) : Option Int32 := b1 (f_X5_of σ p1 0) fun y1 => b1 (f_X5_its σ p2 2) fun y3 => if y1 < y3 then (some 0) else (b1 (f_X5_of σ p1 6) fun y6 => if 2 ≤ y6 then (some 0) else (b1 (f_X5_likes σ p1 p2) fun y9 => if y9 = 0 then (some 0) else (some 1)))
set_option maxHeartbeats 4000000 in
set_option maxRecDepth 100000 in
theorem c_X5_wants (l : Launch) (D : va_G) (t : Nat → ClassId) (b : Nat) (σ : Sg) (p1 : Int32) (p2 : Int32) (r : Int32) (hf : f_X5_wants σ p1 p2 = some r) : Met l yX5_wants (Cond.code yX5_wants cX5_wants 3 (some .boolean) :: ALL) ({ frames := 2, cells := 0, slots := 0, locals := 44 }) (PM D t b σ [.ref (b + 193), .int p1, .int p2]) (QG D t b σ (some (.int r))) 0 0 (geA b) := by
  refine Met.ofW (cc := cX5_wants) (maxL := 3) (ret := (some .boolean)) (by decide) rfl ?_
  intro p e s m args below meth c s₁ B hml hv
  obtain ⟨rfl, hW, hE⟩ := hv
  have hx := B.exec
  have hb := B.bytes
  have hr := B.returns
  have hts := atoms_spec (ws := Cond.code yX5_wants cX5_wants 3 (some .boolean) :: ALL) B.pre
  have hta := fun w h => hts w (List.mem_cons_of_mem _ h)
  have hown : s.vm.findClass RX5 = some m.cls := findClass_of_methodNamed B.named
  have hlocks := B.notSynchronized
  have hS : va_S (geA b) s.heap s.heap [] := va_S.rf
  have hl := lv_entry ([.ref (b + 193), .int p1, .int p2]) (n := 3) (Nat.le_of_ble_eq_true rfl)
  rw [lg_entry_eq]
  generalize (lg_sl ([.ref (b + 193), .int p1, .int p2]) ++ List.replicate (3 - (lg_sl ([.ref (b + 193), .int p1, .int p2])).length) Slot.unset).toArray = ls at hl ⊢
  have hl : lv_has ls 3 [(0, .ref (b + 193)), (1, .int p1), (2, .int p2)] := hl
  unfold f_X5_wants at hf
  refine lv_aload_n hx hb dX5_wants_0 rfl (lv_at hl 0 rfl) ?_
  refine lv_iload_n hx hb dX5_wants_1 rfl (lv_at hl 1 rfl) ?_
  refine lv_iconst (v := 0) hx hb dX5_wants_2 (by decide) ?_
  obtain ⟨y1, u2, hf⟩ := b1_e hf
  refine mV (k := 193) (q := (5, 0)) (C := RX5) (T := TX5) (N := 14) (ci := 5) (n := 2) (As := [.int p1, .int 0]) (rest := []) (c_X5_of l D t b σ p1 0 y1 u2) sh_193 (by decide) rfl rfl hx hb hml hown hts hE hW hS q1353 q1355 q51 q96 q1356 hy_X5_of ⟨rfl, rfl⟩ ⟨Nat.le_of_ble_eq_true rfl, Nat.le_of_ble_eq_true rfl⟩ rfl rfl hl.1 (Nat.le_of_ble_eq_true rfl) ⟨Nat.zero_le _, Nat.zero_le _⟩ dX5_wants_3 (fun H locs hW hS => ?_)
  refine lv_aload_n hx hb dX5_wants_6 rfl (lv_at hl 0 rfl) ?_
  refine lv_iload_n hx hb dX5_wants_7 rfl (lv_at hl 2 rfl) ?_
  refine lv_iconst (v := 2) hx hb dX5_wants_8 (by decide) ?_
  obtain ⟨y3, u4, hf⟩ := b1_e hf
  refine mV (k := 193) (q := (5, 0)) (C := RX5) (T := TX5) (N := 14) (ci := 5) (n := 2) (As := [.int p2, .int 2]) (rest := [.int y1]) (c_X5_its l D t b σ p2 2 y3 u4) sh_193 (by decide) rfl rfl hx hb hml hown hts hE hW hS q1252 q1254 q35 q96 q1255 hy_X5_its ⟨rfl, rfl⟩ ⟨Nat.le_of_ble_eq_true rfl, Nat.le_of_ble_eq_true rfl⟩ rfl rfl hl.1 (Nat.le_of_ble_eq_true rfl) ⟨Nat.zero_le _, Nat.zero_le _⟩ dX5_wants_9 (fun H locs hW hS => ?_)
  refine lv_icmp_lt (tgt := 39) hx hb dX5_wants_12 (by decide) (fun h5 => ?_) (fun h5 => ?_)
  · have hf := ifp h5 hf
    refine lv_iconst (v := 0) hx hb dX5_wants_39 (by decide) ?_
    cases hf
    exact W.zret (ty := .boolean) hx hb hr (by decide) (fun u hu _ => ⟨⟨rfl, by rw [hu]; exact hW⟩, hS.F hu⟩) hS.2.2 dX5_wants_40
  · have hf := ifn h5 hf
    refine lv_aload_n hx hb dX5_wants_15 rfl (lv_at hl 0 rfl) ?_
    refine lv_iload_n hx hb dX5_wants_16 rfl (lv_at hl 1 rfl) ?_
    refine lv_bipush (v := 6) hx hb dX5_wants_17 (by decide) ?_
    obtain ⟨y6, u7, hf⟩ := b1_e hf
    refine mV (k := 193) (q := (5, 0)) (C := RX5) (T := TX5) (N := 14) (ci := 5) (n := 2) (As := [.int p1, .int 6]) (rest := []) (c_X5_of l D t b σ p1 6 y6 u7) sh_193 (by decide) rfl rfl hx hb hml hown hts hE hW hS q1353 q1355 q51 q96 q1356 hy_X5_of ⟨rfl, rfl⟩ ⟨Nat.le_of_ble_eq_true rfl, Nat.le_of_ble_eq_true rfl⟩ rfl rfl hl.1 (Nat.le_of_ble_eq_true rfl) ⟨Nat.zero_le _, Nat.zero_le _⟩ dX5_wants_19 (fun H locs hW hS => ?_)
    refine lv_iconst (v := 2) hx hb dX5_wants_22 (by decide) ?_
    refine lv_icmp_ge (tgt := 39) hx hb dX5_wants_23 (by decide) (fun h8 => ?_) (fun h8 => ?_)
    · have hf := ifp h8 hf
      refine lv_iconst (v := 0) hx hb dX5_wants_39 (by decide) ?_
      cases hf
      exact W.zret (ty := .boolean) hx hb hr (by decide) (fun u hu _ => ⟨⟨rfl, by rw [hu]; exact hW⟩, hS.F hu⟩) hS.2.2 dX5_wants_40
    · have hf := ifn h8 hf
      refine lv_aload_n hx hb dX5_wants_26 rfl (lv_at hl 0 rfl) ?_
      refine lv_iload_n hx hb dX5_wants_27 rfl (lv_at hl 1 rfl) ?_
      refine lv_iload_n hx hb dX5_wants_28 rfl (lv_at hl 2 rfl) ?_
      obtain ⟨y9, u10, hf⟩ := b1_e hf
      refine mV (k := 193) (q := (5, 0)) (C := RX5) (T := TX5) (N := 14) (ci := 5) (n := 2) (As := [.int p1, .int p2]) (rest := []) (c_X5_likes l D t b σ p1 p2 y9 u10) sh_193 (by decide) rfl rfl hx hb hml hown hts hE hW hS q1423 q1425 q65 q96 q1426 hy_X5_likes ⟨rfl, rfl⟩ ⟨Nat.le_of_ble_eq_true rfl, Nat.le_of_ble_eq_true rfl⟩ rfl rfl hl.1 (Nat.le_of_ble_eq_true rfl) ⟨Nat.zero_le _, Nat.zero_le _⟩ dX5_wants_29 (fun H locs hW hS => ?_)
      refine lv_if_eq (tgt := 39) hx hb dX5_wants_32 (by decide) (fun h11 => ?_) (fun h11 => ?_)
      · have hf := ifp h11 hf
        refine lv_iconst (v := 0) hx hb dX5_wants_39 (by decide) ?_
        cases hf
        exact W.zret (ty := .boolean) hx hb hr (by decide) (fun u hu _ => ⟨⟨rfl, by rw [hu]; exact hW⟩, hS.F hu⟩) hS.2.2 dX5_wants_40
      · have hf := ifn h11 hf
        refine lv_iconst (v := 1) hx hb dX5_wants_35 (by decide) ?_
        refine lv_goto (tgt := 40) hx hb dX5_wants_36 (by decide) ?_
        cases hf
        exact W.zret (ty := .boolean) hx hb hr (by decide) (fun u hu _ => ⟨⟨rfl, by rw [hu]; exact hW⟩, hS.F hu⟩) hS.2.2 dX5_wants_40
def l_X5_wins_34 : Nat → Sg → Int32 → Int32 → Int32 → Int32 → Int32 → Option Sg
  | 0, _, _, _, _, _, _ => none
  | n + 1, τ, x1, x2, x3, x4, x5 => b1 (f_X5_prizes τ x2 x3 x4) fun y7 => if y7 = 0 then (l_X5_wins_34 n τ x1 x2 x3 (x4 + 1) x5) else (b1 (f_X5_prizes τ x2 x3 x4) fun y10 => b1 (f_X5_sets τ x2 ((7 + (4 * x3)) + x4) (y10 - 1)) fun σ14 => b1 (f_X5_of σ14 x1 7) fun y15 => b1 (f_X5_lay σ14 x1 7 (y15 + 1)) fun σ19 => gd (10 + x3) 1785 (st (u2 σ19 194 ((10 + x3)).toNatClampNeg ((σ19 194 ((10 + x3)).toNatClampNeg) + 1)) fun σ21 => if x5 = 0 then (b1 (f_X5_feels σ21 x1 20) fun σ26 => some σ26) else (b1 (f_X5_feels σ21 x1 30) fun σ29 => some σ29)))
def f_X5_wins (σ : Sg) (p1 : Int32) (p2 : Int32) (p3 : Int32) : Option Sg := b1 (f_X5_of σ p1 3) fun y1 => b1 (f_X5_prizes σ p2 p3 y1) fun y3 => if y3 ≤ 0 then (l_X5_wins_34 10000 σ p1 p2 p3 0 0) else (b1 (f_X5_prizes σ p2 p3 y1) fun y31 => b1 (f_X5_sets σ p2 ((7 + (4 * p3)) + y1) (y31 - 1)) fun σ35 => b1 (f_X5_of σ35 p1 7) fun y36 => b1 (f_X5_lay σ35 p1 7 (y36 + 1)) fun σ40 => gd (10 + p3) 1785 (st (u2 σ40 194 ((10 + p3)).toNatClampNeg ((σ40 194 ((10 + p3)).toNatClampNeg) + 1)) fun σ42 => b1 (f_X5_feels σ42 p1 30) fun σ47 => some σ47))
set_option maxHeartbeats 4000000 in
set_option maxRecDepth 100000 in
theorem c_X5_wins (l : Launch) (D : va_G) (t : Nat → ClassId) (b : Nat) (σ : Sg) (p1 : Int32) (p2 : Int32) (p3 : Int32) (σr : Sg) (hf : f_X5_wins σ p1 p2 p3 = some σr) : Met l yX5_wins (Cond.code yX5_wins cX5_wins 6 none :: ALL) ({ frames := 2, cells := 0, slots := 0, locals := 46 }) (PM D t b σ [.ref (b + 193), .int p1, .int p2, .int p3]) (QG D t b σr none) 0 0 (geA b) := by
  refine Met.ofW (cc := cX5_wins) (maxL := 6) (ret := none) (by decide) rfl ?_
  intro p e s m args below meth c s₁ B hml hv
  obtain ⟨rfl, hW, hE⟩ := hv
  have hx := B.exec
  have hb := B.bytes
  have hr := B.returns
  have hts := atoms_spec (ws := Cond.code yX5_wins cX5_wins 6 none :: ALL) B.pre
  have hta := fun w h => hts w (List.mem_cons_of_mem _ h)
  have hown : s.vm.findClass RX5 = some m.cls := findClass_of_methodNamed B.named
  have hlocks := B.notSynchronized
  have hS : va_S (geA b) s.heap s.heap [] := va_S.rf
  have hl := lv_entry ([.ref (b + 193), .int p1, .int p2, .int p3]) (n := 6) (Nat.le_of_ble_eq_true rfl)
  rw [lg_entry_eq]
  generalize (lg_sl ([.ref (b + 193), .int p1, .int p2, .int p3]) ++ List.replicate (6 - (lg_sl ([.ref (b + 193), .int p1, .int p2, .int p3])).length) Slot.unset).toArray = ls at hl ⊢
  have hl : lv_has ls 6 [(0, .ref (b + 193)), (1, .int p1), (2, .int p2), (3, .int p3)] := hl
  unfold f_X5_wins at hf
  refine lv_aload_n hx hb dX5_wins_0 rfl (lv_at hl 0 rfl) ?_
  refine lv_iload_n hx hb dX5_wins_1 rfl (lv_at hl 1 rfl) ?_
  refine lv_iconst (v := 3) hx hb dX5_wins_2 (by decide) ?_
  obtain ⟨y1, u2, hf⟩ := b1_e hf
  refine mV (k := 193) (q := (5, 0)) (C := RX5) (T := TX5) (N := 14) (ci := 5) (n := 2) (As := [.int p1, .int 3]) (rest := []) (c_X5_of l D t b σ p1 3 y1 u2) sh_193 (by decide) rfl rfl hx hb hml hown hts hE hW hS q1353 q1355 q51 q96 q1356 hy_X5_of ⟨rfl, rfl⟩ ⟨Nat.le_of_ble_eq_true rfl, Nat.le_of_ble_eq_true rfl⟩ rfl rfl hl.1 (Nat.le_of_ble_eq_true rfl) ⟨Nat.zero_le _, Nat.zero_le _⟩ dX5_wins_3 (fun H locs hW hS => ?_)
  refine lv_istore (lv' := [(4, .int y1), (0, .ref (b + 193)), (1, .int p1), (2, .int p2), (3, .int p3)]) hx hb dX5_wins_6 hl (by decide) rfl (fun ls hl => ?_)
  refine lv_aload_n hx hb dX5_wins_8 rfl (lv_at hl 1 rfl) ?_
  refine lv_iload_n hx hb dX5_wins_9 rfl (lv_at hl 3 rfl) ?_
  refine lv_iload_n hx hb dX5_wins_10 rfl (lv_at hl 4 rfl) ?_
  refine lv_iload hx hb dX5_wins_11 (lv_at hl 0 rfl) ?_
  obtain ⟨y3, u4, hf⟩ := b1_e hf
  refine mV (k := 193) (q := (5, 0)) (C := RX5) (T := TX5) (N := 14) (ci := 5) (n := 3) (As := [.int p2, .int p3, .int y1]) (rest := []) (c_X5_prizes l D t b σ p2 p3 y1 y3 u4) sh_193 (by decide) rfl rfl hx hb hml hown hts hE hW hS q1313 q1315 q44 q96 q1316 hy_X5_prizes ⟨rfl, rfl⟩ ⟨Nat.le_of_ble_eq_true rfl, Nat.le_of_ble_eq_true rfl⟩ rfl rfl hl.1 (Nat.le_of_ble_eq_true rfl) ⟨Nat.zero_le _, Nat.zero_le _⟩ dX5_wins_13 (fun H locs hW hS => ?_)
  refine lv_if_le (tgt := 23) hx hb dX5_wins_16 (by decide) (fun h5 => ?_) (fun h5 => ?_)
  · have hf := ifp h5 hf
    refine lv_iconst (v := 0) hx hb dX5_wins_23 (by decide) ?_
    refine lv_istore (lv' := [(5, .int 0), (4, .int y1), (0, .ref (b + 193)), (1, .int p1), (2, .int p2), (3, .int p3)]) hx hb dX5_wins_24 hl (by decide) rfl (fun ls hl => ?_)
    refine lv_iload hx hb dX5_wins_26 (lv_at hl 0 rfl) ?_
    refine lv_if_ne (tgt := 51) hx hb dX5_wins_28 (by decide) (fun h6 => absurd h6 (by decide)) (fun h6 => ?_)
    refine lv_iconst (v := 0) hx hb dX5_wins_31 (by decide) ?_
    refine lv_istore (lv' := [(4, .int 0), (5, .int 0), (0, .ref (b + 193)), (1, .int p1), (2, .int p2), (3, .int p3)]) hx hb dX5_wins_32 hl (by decide) rfl (fun ls hl => ?_)
    have key_34 : ∀ (n : Nat) (τ : Sg) (x1 : Int32) (x2 : Int32) (x3 : Int32) (x4 : Int32) (x5 : Int32) (H : Heap) (locs : List Loc) (ls : Array Slot), l_X5_wins_34 n τ x1 x2 x3 x4 x5 = some σr → wd D t b τ H → va_S (geA b) s.heap H locs → lv_has ls 6 [(0, .ref (b + 193)), (1, .int x1), (2, .int x2), (3, .int x3), (4, .int x4), (5, .int x5)] → W p l e (headSpec (Cond.code yX5_wins cX5_wins 6 none :: ALL) ({ frames := 2, cells := 0, slots := 0, locals := 46 })).room s m (([.ref (b + 193), .int p1, .int p2, .int p3] : List Value).toArray) below meth c H locs 0 0 (MQ below (QG D t b σr none) (([.ref (b + 193), .int p1, .int p2, .int p3] : List Value).toArray) s 0 0 (geA b)) (F0 m 34 ls []) := by
      intro n
      induction n with
      | zero =>
        intro τ x1 x2 x3 x4 x5 H locs ls hf
        rw [l_X5_wins_34.eq_1] at hf
        cases hf
      | succ n ih_34 =>
        intro τ x1 x2 x3 x4 x5 H locs ls hf hW hS hl
        rw [l_X5_wins_34.eq_2] at hf
        refine lv_aload_n hx hb dX5_wins_34 rfl (lv_at hl 0 rfl) ?_
        refine lv_iload_n hx hb dX5_wins_35 rfl (lv_at hl 2 rfl) ?_
        refine lv_iload_n hx hb dX5_wins_36 rfl (lv_at hl 3 rfl) ?_
        refine lv_iload hx hb dX5_wins_37 (lv_at hl 4 rfl) ?_
        obtain ⟨y7, u8, hf⟩ := b1_e hf
        refine mV (k := 193) (q := (5, 0)) (C := RX5) (T := TX5) (N := 14) (ci := 5) (n := 3) (As := [.int x2, .int x3, .int x4]) (rest := []) (c_X5_prizes l D t b τ x2 x3 x4 y7 u8) sh_193 (by decide) rfl rfl hx hb hml hown hts hE hW hS q1313 q1315 q44 q96 q1316 hy_X5_prizes ⟨rfl, rfl⟩ ⟨Nat.le_of_ble_eq_true rfl, Nat.le_of_ble_eq_true rfl⟩ rfl rfl hl.1 (Nat.le_of_ble_eq_true rfl) ⟨Nat.zero_le _, Nat.zero_le _⟩ dX5_wins_39 (fun H locs hW hS => ?_)
        refine lv_if_ne (tgt := 51) hx hb dX5_wins_42 (by decide) (fun h9 => ?_) (fun h9 => ?_)
        · have hf := ifn h9 hf
          refine lv_aload_n hx hb dX5_wins_51 rfl (lv_at hl 0 rfl) ?_
          refine lv_iload_n hx hb dX5_wins_52 rfl (lv_at hl 2 rfl) ?_
          refine lv_bipush (v := 7) hx hb dX5_wins_53 (by decide) ?_
          refine lv_iconst (v := 4) hx hb dX5_wins_55 (by decide) ?_
          refine lv_iload_n hx hb dX5_wins_56 rfl (lv_at hl 3 rfl) ?_
          refine lv_imul hx hb dX5_wins_57 ?_
          refine lv_iadd hx hb dX5_wins_58 ?_
          refine lv_iload hx hb dX5_wins_59 (lv_at hl 4 rfl) ?_
          refine lv_iadd hx hb dX5_wins_61 ?_
          refine lv_aload_n hx hb dX5_wins_62 rfl (lv_at hl 0 rfl) ?_
          refine lv_iload_n hx hb dX5_wins_63 rfl (lv_at hl 2 rfl) ?_
          refine lv_iload_n hx hb dX5_wins_64 rfl (lv_at hl 3 rfl) ?_
          refine lv_iload hx hb dX5_wins_65 (lv_at hl 4 rfl) ?_
          obtain ⟨y10, u11, hf⟩ := b1_e hf
          refine mV (k := 193) (q := (5, 0)) (C := RX5) (T := TX5) (N := 14) (ci := 5) (n := 3) (As := [.int x2, .int x3, .int x4]) (rest := [.int ((7 + (4 * x3)) + x4), .int x2, .ref (b + 193)]) (c_X5_prizes l D t b τ x2 x3 x4 y10 u11) sh_193 (by decide) rfl rfl hx hb hml hown hts hE hW hS q1313 q1315 q44 q96 q1316 hy_X5_prizes ⟨rfl, rfl⟩ ⟨Nat.le_of_ble_eq_true rfl, Nat.le_of_ble_eq_true rfl⟩ rfl rfl hl.1 (Nat.le_of_ble_eq_true rfl) ⟨Nat.zero_le _, Nat.zero_le _⟩ dX5_wins_67 (fun H locs hW hS => ?_)
          refine lv_iconst (v := 1) hx hb dX5_wins_70 (by decide) ?_
          refine lv_isub hx hb dX5_wins_71 ?_
          obtain ⟨σ14, u13, hf⟩ := b1_e hf
          refine mV (k := 193) (q := (5, 0)) (C := RX5) (T := TX5) (N := 14) (ci := 5) (n := 3) (As := [.int x2, .int ((7 + (4 * x3)) + x4), .int (y10 - 1)]) (rest := []) (c_X5_sets l D t b τ x2 ((7 + (4 * x3)) + x4) (y10 - 1) σ14 u13) sh_193 (by decide) rfl rfl hx hb hml hown hts hE hW hS q1271 q1273 q39 q96 q1274 hy_X5_sets ⟨rfl, rfl⟩ ⟨Nat.le_of_ble_eq_true rfl, Nat.le_of_ble_eq_true rfl⟩ rfl rfl hl.1 (Nat.le_of_ble_eq_true rfl) ⟨Nat.zero_le _, Nat.zero_le _⟩ dX5_wins_72 (fun H locs hW hS => ?_)
          refine lv_aload_n hx hb dX5_wins_75 rfl (lv_at hl 0 rfl) ?_
          refine lv_iload_n hx hb dX5_wins_76 rfl (lv_at hl 1 rfl) ?_
          refine lv_bipush (v := 7) hx hb dX5_wins_77 (by decide) ?_
          refine lv_aload_n hx hb dX5_wins_79 rfl (lv_at hl 0 rfl) ?_
          refine lv_iload_n hx hb dX5_wins_80 rfl (lv_at hl 1 rfl) ?_
          refine lv_bipush (v := 7) hx hb dX5_wins_81 (by decide) ?_
          obtain ⟨y15, u16, hf⟩ := b1_e hf
          refine mV (k := 193) (q := (5, 0)) (C := RX5) (T := TX5) (N := 14) (ci := 5) (n := 2) (As := [.int x1, .int 7]) (rest := [.int 7, .int x1, .ref (b + 193)]) (c_X5_of l D t b σ14 x1 7 y15 u16) sh_193 (by decide) rfl rfl hx hb hml hown hts hE hW hS q1353 q1355 q51 q96 q1356 hy_X5_of ⟨rfl, rfl⟩ ⟨Nat.le_of_ble_eq_true rfl, Nat.le_of_ble_eq_true rfl⟩ rfl rfl hl.1 (Nat.le_of_ble_eq_true rfl) ⟨Nat.zero_le _, Nat.zero_le _⟩ dX5_wins_83 (fun H locs hW hS => ?_)
          refine lv_iconst (v := 1) hx hb dX5_wins_86 (by decide) ?_
          refine lv_iadd hx hb dX5_wins_87 ?_
          obtain ⟨σ19, u18, hf⟩ := b1_e hf
          refine mV (k := 193) (q := (5, 0)) (C := RX5) (T := TX5) (N := 14) (ci := 5) (n := 3) (As := [.int x1, .int 7, .int (y15 + 1)]) (rest := []) (c_X5_lay l D t b σ14 x1 7 (y15 + 1) σ19 u18) sh_193 (by decide) rfl rfl hx hb hml hown hts hE hW hS q1361 q1363 q53 q96 q1364 hy_X5_lay ⟨rfl, rfl⟩ ⟨Nat.le_of_ble_eq_true rfl, Nat.le_of_ble_eq_true rfl⟩ rfl rfl hl.1 (Nat.le_of_ble_eq_true rfl) ⟨Nat.zero_le _, Nat.zero_le _⟩ dX5_wins_88 (fun H locs hW hS => ?_)
          refine lv_aload_n hx hb dX5_wins_91 rfl (lv_at hl 0 rfl) ?_
          refine getM hx hb hta hown hE.1 hW 0 (by decide) q1181 rfl dX5_wins_92 ?_
          refine lv_bipush (v := 10) hx hb dX5_wins_95 (by decide) ?_
          refine lv_iload_n hx hb dX5_wins_97 rfl (lv_at hl 3 rfl) ?_
          refine lv_iadd hx hb dX5_wins_98 ?_
          refine lv_dup2_11 hx hb dX5_wins_99 rfl rfl ?_
          obtain ⟨g20, hf⟩ := gd_e hf
          refine iald hx hb hE.1 hW sh_194 g20 dX5_wins_100 ?_
          refine lv_iconst (v := 1) hx hb dX5_wins_101 (by decide) ?_
          refine lv_iadd hx hb dX5_wins_102 ?_
          refine iast (k := 194) (i := (10 + x3)) (x := ((σ19 194 ((10 + x3)).toNatClampNeg) + 1)) hx hb hE.1 hW hS sh_194 g20 dX5_wins_103 (fun H locs hW hS => ?_)
          obtain ⟨σ21, e22, hf⟩ := st_e hf
          rw [e22] at hW
          refine lv_aload_n hx hb dX5_wins_104 rfl (lv_at hl 0 rfl) ?_
          refine lv_iload_n hx hb dX5_wins_105 rfl (lv_at hl 1 rfl) ?_
          refine lv_iload hx hb dX5_wins_106 (lv_at hl 5 rfl) ?_
          refine lv_if_eq (tgt := 116) hx hb dX5_wins_108 (by decide) (fun h23 => ?_) (fun h23 => ?_)
          · have hf := ifp h23 hf
            refine lv_bipush (v := 20) hx hb dX5_wins_116 (by decide) ?_
            obtain ⟨σ26, u25, hf⟩ := b1_e hf
            refine mV (k := 193) (q := (5, 0)) (C := RX5) (T := TX5) (N := 14) (ci := 5) (n := 2) (As := [.int x1, .int 20]) (rest := []) (c_X5_feels l D t b σ21 x1 20 σ26 u25) sh_193 (by decide) rfl rfl hx hb hml hown hts hE hW hS q1411 q1413 q62 q96 q1414 hy_X5_feels ⟨rfl, rfl⟩ ⟨Nat.le_of_ble_eq_true rfl, Nat.le_of_ble_eq_true rfl⟩ rfl rfl hl.1 (Nat.le_of_ble_eq_true rfl) ⟨Nat.zero_le _, Nat.zero_le _⟩ dX5_wins_118 (fun H locs hW hS => ?_)
            cases hf
            exact W.vret hx hb hr (fun u hu _ => ⟨⟨rfl, by rw [hu]; exact hW⟩, hS.F hu⟩) hS.2.2 dX5_wins_121
          · have hf := ifn h23 hf
            refine lv_bipush (v := 30) hx hb dX5_wins_111 (by decide) ?_
            refine lv_goto (tgt := 118) hx hb dX5_wins_113 (by decide) ?_
            obtain ⟨σ29, u28, hf⟩ := b1_e hf
            refine mV (k := 193) (q := (5, 0)) (C := RX5) (T := TX5) (N := 14) (ci := 5) (n := 2) (As := [.int x1, .int 30]) (rest := []) (c_X5_feels l D t b σ21 x1 30 σ29 u28) sh_193 (by decide) rfl rfl hx hb hml hown hts hE hW hS q1411 q1413 q62 q96 q1414 hy_X5_feels ⟨rfl, rfl⟩ ⟨Nat.le_of_ble_eq_true rfl, Nat.le_of_ble_eq_true rfl⟩ rfl rfl hl.1 (Nat.le_of_ble_eq_true rfl) ⟨Nat.zero_le _, Nat.zero_le _⟩ dX5_wins_118 (fun H locs hW hS => ?_)
            cases hf
            exact W.vret hx hb hr (fun u hu _ => ⟨⟨rfl, by rw [hu]; exact hW⟩, hS.F hu⟩) hS.2.2 dX5_wins_121
        · have hf := ifp h9 hf
          refine lv_iinc (v := (x4 + 1)) (lv' := [(4, .int (x4 + 1)), (0, .ref (b + 193)), (1, .int x1), (2, .int x2), (3, .int x3), (5, .int x5)]) hx hb dX5_wins_45 hl (k := 4) rfl (by rfl) (by decide) rfl (fun ls hl => ?_)
          refine lv_goto (tgt := 34) hx hb dX5_wins_48 (by decide) ?_
          exact ih_34 τ x1 x2 x3 (x4 + 1) x5 _ _ _ hf hW hS (lv_sub hl [1, 2, 3, 4, 0, 5] rfl)
    exact key_34 10000 σ p1 p2 p3 0 0 _ _ _ hf hW hS (lv_sub hl [2, 3, 4, 5, 0, 1] rfl)
  · have hf := ifn h5 hf
    refine lv_iconst (v := 1) hx hb dX5_wins_19 (by decide) ?_
    refine lv_goto (tgt := 24) hx hb dX5_wins_20 (by decide) ?_
    refine lv_istore (lv' := [(5, .int 1), (4, .int y1), (0, .ref (b + 193)), (1, .int p1), (2, .int p2), (3, .int p3)]) hx hb dX5_wins_24 hl (by decide) rfl (fun ls hl => ?_)
    refine lv_iload hx hb dX5_wins_26 (lv_at hl 0 rfl) ?_
    refine lv_if_ne (tgt := 51) hx hb dX5_wins_28 (by decide) (fun h30 => ?_) (fun h30 => absurd h30 (by decide))
    refine lv_aload_n hx hb dX5_wins_51 rfl (lv_at hl 2 rfl) ?_
    refine lv_iload_n hx hb dX5_wins_52 rfl (lv_at hl 4 rfl) ?_
    refine lv_bipush (v := 7) hx hb dX5_wins_53 (by decide) ?_
    refine lv_iconst (v := 4) hx hb dX5_wins_55 (by decide) ?_
    refine lv_iload_n hx hb dX5_wins_56 rfl (lv_at hl 5 rfl) ?_
    refine lv_imul hx hb dX5_wins_57 ?_
    refine lv_iadd hx hb dX5_wins_58 ?_
    refine lv_iload hx hb dX5_wins_59 (lv_at hl 1 rfl) ?_
    refine lv_iadd hx hb dX5_wins_61 ?_
    refine lv_aload_n hx hb dX5_wins_62 rfl (lv_at hl 2 rfl) ?_
    refine lv_iload_n hx hb dX5_wins_63 rfl (lv_at hl 4 rfl) ?_
    refine lv_iload_n hx hb dX5_wins_64 rfl (lv_at hl 5 rfl) ?_
    refine lv_iload hx hb dX5_wins_65 (lv_at hl 1 rfl) ?_
    obtain ⟨y31, u32, hf⟩ := b1_e hf
    refine mV (k := 193) (q := (5, 0)) (C := RX5) (T := TX5) (N := 14) (ci := 5) (n := 3) (As := [.int p2, .int p3, .int y1]) (rest := [.int ((7 + (4 * p3)) + y1), .int p2, .ref (b + 193)]) (c_X5_prizes l D t b σ p2 p3 y1 y31 u32) sh_193 (by decide) rfl rfl hx hb hml hown hts hE hW hS q1313 q1315 q44 q96 q1316 hy_X5_prizes ⟨rfl, rfl⟩ ⟨Nat.le_of_ble_eq_true rfl, Nat.le_of_ble_eq_true rfl⟩ rfl rfl hl.1 (Nat.le_of_ble_eq_true rfl) ⟨Nat.zero_le _, Nat.zero_le _⟩ dX5_wins_67 (fun H locs hW hS => ?_)
    refine lv_iconst (v := 1) hx hb dX5_wins_70 (by decide) ?_
    refine lv_isub hx hb dX5_wins_71 ?_
    obtain ⟨σ35, u34, hf⟩ := b1_e hf
    refine mV (k := 193) (q := (5, 0)) (C := RX5) (T := TX5) (N := 14) (ci := 5) (n := 3) (As := [.int p2, .int ((7 + (4 * p3)) + y1), .int (y31 - 1)]) (rest := []) (c_X5_sets l D t b σ p2 ((7 + (4 * p3)) + y1) (y31 - 1) σ35 u34) sh_193 (by decide) rfl rfl hx hb hml hown hts hE hW hS q1271 q1273 q39 q96 q1274 hy_X5_sets ⟨rfl, rfl⟩ ⟨Nat.le_of_ble_eq_true rfl, Nat.le_of_ble_eq_true rfl⟩ rfl rfl hl.1 (Nat.le_of_ble_eq_true rfl) ⟨Nat.zero_le _, Nat.zero_le _⟩ dX5_wins_72 (fun H locs hW hS => ?_)
    refine lv_aload_n hx hb dX5_wins_75 rfl (lv_at hl 2 rfl) ?_
    refine lv_iload_n hx hb dX5_wins_76 rfl (lv_at hl 3 rfl) ?_
    refine lv_bipush (v := 7) hx hb dX5_wins_77 (by decide) ?_
    refine lv_aload_n hx hb dX5_wins_79 rfl (lv_at hl 2 rfl) ?_
    refine lv_iload_n hx hb dX5_wins_80 rfl (lv_at hl 3 rfl) ?_
    refine lv_bipush (v := 7) hx hb dX5_wins_81 (by decide) ?_
    obtain ⟨y36, u37, hf⟩ := b1_e hf
    refine mV (k := 193) (q := (5, 0)) (C := RX5) (T := TX5) (N := 14) (ci := 5) (n := 2) (As := [.int p1, .int 7]) (rest := [.int 7, .int p1, .ref (b + 193)]) (c_X5_of l D t b σ35 p1 7 y36 u37) sh_193 (by decide) rfl rfl hx hb hml hown hts hE hW hS q1353 q1355 q51 q96 q1356 hy_X5_of ⟨rfl, rfl⟩ ⟨Nat.le_of_ble_eq_true rfl, Nat.le_of_ble_eq_true rfl⟩ rfl rfl hl.1 (Nat.le_of_ble_eq_true rfl) ⟨Nat.zero_le _, Nat.zero_le _⟩ dX5_wins_83 (fun H locs hW hS => ?_)
    refine lv_iconst (v := 1) hx hb dX5_wins_86 (by decide) ?_
    refine lv_iadd hx hb dX5_wins_87 ?_
    obtain ⟨σ40, u39, hf⟩ := b1_e hf
    refine mV (k := 193) (q := (5, 0)) (C := RX5) (T := TX5) (N := 14) (ci := 5) (n := 3) (As := [.int p1, .int 7, .int (y36 + 1)]) (rest := []) (c_X5_lay l D t b σ35 p1 7 (y36 + 1) σ40 u39) sh_193 (by decide) rfl rfl hx hb hml hown hts hE hW hS q1361 q1363 q53 q96 q1364 hy_X5_lay ⟨rfl, rfl⟩ ⟨Nat.le_of_ble_eq_true rfl, Nat.le_of_ble_eq_true rfl⟩ rfl rfl hl.1 (Nat.le_of_ble_eq_true rfl) ⟨Nat.zero_le _, Nat.zero_le _⟩ dX5_wins_88 (fun H locs hW hS => ?_)
    refine lv_aload_n hx hb dX5_wins_91 rfl (lv_at hl 2 rfl) ?_
    refine getM hx hb hta hown hE.1 hW 0 (by decide) q1181 rfl dX5_wins_92 ?_
    refine lv_bipush (v := 10) hx hb dX5_wins_95 (by decide) ?_
    refine lv_iload_n hx hb dX5_wins_97 rfl (lv_at hl 5 rfl) ?_
    refine lv_iadd hx hb dX5_wins_98 ?_
    refine lv_dup2_11 hx hb dX5_wins_99 rfl rfl ?_
    obtain ⟨g41, hf⟩ := gd_e hf
    refine iald hx hb hE.1 hW sh_194 g41 dX5_wins_100 ?_
    refine lv_iconst (v := 1) hx hb dX5_wins_101 (by decide) ?_
    refine lv_iadd hx hb dX5_wins_102 ?_
    refine iast (k := 194) (i := (10 + p3)) (x := ((σ40 194 ((10 + p3)).toNatClampNeg) + 1)) hx hb hE.1 hW hS sh_194 g41 dX5_wins_103 (fun H locs hW hS => ?_)
    obtain ⟨σ42, e43, hf⟩ := st_e hf
    rw [e43] at hW
    refine lv_aload_n hx hb dX5_wins_104 rfl (lv_at hl 2 rfl) ?_
    refine lv_iload_n hx hb dX5_wins_105 rfl (lv_at hl 3 rfl) ?_
    refine lv_iload hx hb dX5_wins_106 (lv_at hl 0 rfl) ?_
    refine lv_if_eq (tgt := 116) hx hb dX5_wins_108 (by decide) (fun h44 => absurd h44 (by decide)) (fun h44 => ?_)
    refine lv_bipush (v := 30) hx hb dX5_wins_111 (by decide) ?_
    refine lv_goto (tgt := 118) hx hb dX5_wins_113 (by decide) ?_
    obtain ⟨σ47, u46, hf⟩ := b1_e hf
    refine mV (k := 193) (q := (5, 0)) (C := RX5) (T := TX5) (N := 14) (ci := 5) (n := 2) (As := [.int p1, .int 30]) (rest := []) (c_X5_feels l D t b σ42 p1 30 σ47 u46) sh_193 (by decide) rfl rfl hx hb hml hown hts hE hW hS q1411 q1413 q62 q96 q1414 hy_X5_feels ⟨rfl, rfl⟩ ⟨Nat.le_of_ble_eq_true rfl, Nat.le_of_ble_eq_true rfl⟩ rfl rfl hl.1 (Nat.le_of_ble_eq_true rfl) ⟨Nat.zero_le _, Nat.zero_le _⟩ dX5_wins_118 (fun H locs hW hS => ?_)
    cases hf
    exact W.vret hx hb hr (fun u hu _ => ⟨⟨rfl, by rw [hu]; exact hW⟩, hS.F hu⟩) hS.2.2 dX5_wins_121
def f_X5_playsAt (σ : Sg) (p1 : Int32) (p2 : Int32) : Option Sg := b1 (f_X5_its σ p2 2) fun y1 => b1 (f_X5_of σ p1 0) fun y3 => b1 (f_X5_lay σ p1 0 (y3 - y1)) fun σ7 => b1 (f_X5_its σ7 p2 4) fun y8 => b1 (f_X5_sets σ7 p2 4 (y8 + y1)) fun σ12 => b1 (f_X5_its σ12 p2 5) fun y13 => b1 (f_X5_sets σ12 p2 5 (y13 + 1)) fun σ17 => b1 (f_X5_of σ17 p1 6) fun y18 => b1 (f_X5_lay σ17 p1 6 (y18 + 1)) fun σ22 => st (u2 σ22 194 (4 : Int32).toNatClampNeg ((σ22 194 (4 : Int32).toNatClampNeg) + y1)) fun σ23 => st (u2 σ23 194 (5 : Int32).toNatClampNeg ((σ23 194 (5 : Int32).toNatClampNeg) + 1)) fun σ25 => gd p2 7 (st (u2 σ25 199 (p2).toNatClampNeg 1) fun σ28 => b1 (f_X5_its σ28 p2 1) fun y30 => if y30 = 4 then (b1 (f_X5_feels σ28 p1 15) fun σ35 => some σ35) else (b1 (f_X5_its σ28 p2 5) fun y36 => b1 (f_X5_every σ28 y30) fun y38 => nz y38 (if (y36 - y36 / y38 * y38) = 0 then (b1 (f_X5_bestLevel σ28 p2) fun y42 => if y42 = (-1) then (b1 (f_X5_feels σ28 p1 (-8)) fun σ47 => some σ47) else (b1 (f_X5_bestLevel σ28 p2) fun y48 => b1 (f_X5_wins σ28 p1 p2 y48) fun σ52 => some σ52)) else (b1 (f_X5_feels σ28 p1 (-8)) fun σ55 => some σ55))))
set_option maxHeartbeats 4000000 in
set_option maxRecDepth 100000 in
theorem c_X5_playsAt (l : Launch) (D : va_G) (t : Nat → ClassId) (b : Nat) (σ : Sg) (p1 : Int32) (p2 : Int32) (σr : Sg) (hf : f_X5_playsAt σ p1 p2 = some σr) : Met l yX5_playsAt (Cond.code yX5_playsAt cX5_playsAt 5 none :: ALL) ({ frames := 4, cells := 0, slots := 0, locals := 89 }) (PM D t b σ [.ref (b + 193), .int p1, .int p2]) (QG D t b σr none) 0 0 (geA b) := by
  refine Met.ofW (cc := cX5_playsAt) (maxL := 5) (ret := none) (by decide) rfl ?_
  intro p e s m args below meth c s₁ B hml hv
  obtain ⟨rfl, hW, hE⟩ := hv
  have hx := B.exec
  have hb := B.bytes
  have hr := B.returns
  have hts := atoms_spec (ws := Cond.code yX5_playsAt cX5_playsAt 5 none :: ALL) B.pre
  have hta := fun w h => hts w (List.mem_cons_of_mem _ h)
  have hown : s.vm.findClass RX5 = some m.cls := findClass_of_methodNamed B.named
  have hlocks := B.notSynchronized
  have hS : va_S (geA b) s.heap s.heap [] := va_S.rf
  have hl := lv_entry ([.ref (b + 193), .int p1, .int p2]) (n := 5) (Nat.le_of_ble_eq_true rfl)
  rw [lg_entry_eq]
  generalize (lg_sl ([.ref (b + 193), .int p1, .int p2]) ++ List.replicate (5 - (lg_sl ([.ref (b + 193), .int p1, .int p2])).length) Slot.unset).toArray = ls at hl ⊢
  have hl : lv_has ls 5 [(0, .ref (b + 193)), (1, .int p1), (2, .int p2)] := hl
  unfold f_X5_playsAt at hf
  refine lv_aload_n hx hb dX5_playsAt_0 rfl (lv_at hl 0 rfl) ?_
  refine lv_iload_n hx hb dX5_playsAt_1 rfl (lv_at hl 2 rfl) ?_
  refine lv_iconst (v := 2) hx hb dX5_playsAt_2 (by decide) ?_
  obtain ⟨y1, u2, hf⟩ := b1_e hf
  refine mV (k := 193) (q := (5, 0)) (C := RX5) (T := TX5) (N := 14) (ci := 5) (n := 2) (As := [.int p2, .int 2]) (rest := []) (c_X5_its l D t b σ p2 2 y1 u2) sh_193 (by decide) rfl rfl hx hb hml hown hts hE hW hS q1252 q1254 q35 q96 q1255 hy_X5_its ⟨rfl, rfl⟩ ⟨Nat.le_of_ble_eq_true rfl, Nat.le_of_ble_eq_true rfl⟩ rfl rfl hl.1 (Nat.le_of_ble_eq_true rfl) ⟨Nat.zero_le _, Nat.zero_le _⟩ dX5_playsAt_3 (fun H locs hW hS => ?_)
  refine lv_istore_n (lv' := [(3, .int y1), (0, .ref (b + 193)), (1, .int p1), (2, .int p2)]) hx hb dX5_playsAt_6 rfl hl (by decide) rfl (fun ls hl => ?_)
  refine lv_aload_n hx hb dX5_playsAt_7 rfl (lv_at hl 1 rfl) ?_
  refine lv_iload_n hx hb dX5_playsAt_8 rfl (lv_at hl 2 rfl) ?_
  refine lv_iconst (v := 0) hx hb dX5_playsAt_9 (by decide) ?_
  refine lv_aload_n hx hb dX5_playsAt_10 rfl (lv_at hl 1 rfl) ?_
  refine lv_iload_n hx hb dX5_playsAt_11 rfl (lv_at hl 2 rfl) ?_
  refine lv_iconst (v := 0) hx hb dX5_playsAt_12 (by decide) ?_
  obtain ⟨y3, u4, hf⟩ := b1_e hf
  refine mV (k := 193) (q := (5, 0)) (C := RX5) (T := TX5) (N := 14) (ci := 5) (n := 2) (As := [.int p1, .int 0]) (rest := [.int 0, .int p1, .ref (b + 193)]) (c_X5_of l D t b σ p1 0 y3 u4) sh_193 (by decide) rfl rfl hx hb hml hown hts hE hW hS q1353 q1355 q51 q96 q1356 hy_X5_of ⟨rfl, rfl⟩ ⟨Nat.le_of_ble_eq_true rfl, Nat.le_of_ble_eq_true rfl⟩ rfl rfl hl.1 (Nat.le_of_ble_eq_true rfl) ⟨Nat.zero_le _, Nat.zero_le _⟩ dX5_playsAt_13 (fun H locs hW hS => ?_)
  refine lv_iload_n hx hb dX5_playsAt_16 rfl (lv_at hl 0 rfl) ?_
  refine lv_isub hx hb dX5_playsAt_17 ?_
  obtain ⟨σ7, u6, hf⟩ := b1_e hf
  refine mV (k := 193) (q := (5, 0)) (C := RX5) (T := TX5) (N := 14) (ci := 5) (n := 3) (As := [.int p1, .int 0, .int (y3 - y1)]) (rest := []) (c_X5_lay l D t b σ p1 0 (y3 - y1) σ7 u6) sh_193 (by decide) rfl rfl hx hb hml hown hts hE hW hS q1361 q1363 q53 q96 q1364 hy_X5_lay ⟨rfl, rfl⟩ ⟨Nat.le_of_ble_eq_true rfl, Nat.le_of_ble_eq_true rfl⟩ rfl rfl hl.1 (Nat.le_of_ble_eq_true rfl) ⟨Nat.zero_le _, Nat.zero_le _⟩ dX5_playsAt_18 (fun H locs hW hS => ?_)
  refine lv_aload_n hx hb dX5_playsAt_21 rfl (lv_at hl 1 rfl) ?_
  refine lv_iload_n hx hb dX5_playsAt_22 rfl (lv_at hl 3 rfl) ?_
  refine lv_iconst (v := 4) hx hb dX5_playsAt_23 (by decide) ?_
  refine lv_aload_n hx hb dX5_playsAt_24 rfl (lv_at hl 1 rfl) ?_
  refine lv_iload_n hx hb dX5_playsAt_25 rfl (lv_at hl 3 rfl) ?_
  refine lv_iconst (v := 4) hx hb dX5_playsAt_26 (by decide) ?_
  obtain ⟨y8, u9, hf⟩ := b1_e hf
  refine mV (k := 193) (q := (5, 0)) (C := RX5) (T := TX5) (N := 14) (ci := 5) (n := 2) (As := [.int p2, .int 4]) (rest := [.int 4, .int p2, .ref (b + 193)]) (c_X5_its l D t b σ7 p2 4 y8 u9) sh_193 (by decide) rfl rfl hx hb hml hown hts hE hW hS q1252 q1254 q35 q96 q1255 hy_X5_its ⟨rfl, rfl⟩ ⟨Nat.le_of_ble_eq_true rfl, Nat.le_of_ble_eq_true rfl⟩ rfl rfl hl.1 (Nat.le_of_ble_eq_true rfl) ⟨Nat.zero_le _, Nat.zero_le _⟩ dX5_playsAt_27 (fun H locs hW hS => ?_)
  refine lv_iload_n hx hb dX5_playsAt_30 rfl (lv_at hl 0 rfl) ?_
  refine lv_iadd hx hb dX5_playsAt_31 ?_
  obtain ⟨σ12, u11, hf⟩ := b1_e hf
  refine mV (k := 193) (q := (5, 0)) (C := RX5) (T := TX5) (N := 14) (ci := 5) (n := 3) (As := [.int p2, .int 4, .int (y8 + y1)]) (rest := []) (c_X5_sets l D t b σ7 p2 4 (y8 + y1) σ12 u11) sh_193 (by decide) rfl rfl hx hb hml hown hts hE hW hS q1271 q1273 q39 q96 q1274 hy_X5_sets ⟨rfl, rfl⟩ ⟨Nat.le_of_ble_eq_true rfl, Nat.le_of_ble_eq_true rfl⟩ rfl rfl hl.1 (Nat.le_of_ble_eq_true rfl) ⟨Nat.zero_le _, Nat.zero_le _⟩ dX5_playsAt_32 (fun H locs hW hS => ?_)
  refine lv_aload_n hx hb dX5_playsAt_35 rfl (lv_at hl 1 rfl) ?_
  refine lv_iload_n hx hb dX5_playsAt_36 rfl (lv_at hl 3 rfl) ?_
  refine lv_iconst (v := 5) hx hb dX5_playsAt_37 (by decide) ?_
  refine lv_aload_n hx hb dX5_playsAt_38 rfl (lv_at hl 1 rfl) ?_
  refine lv_iload_n hx hb dX5_playsAt_39 rfl (lv_at hl 3 rfl) ?_
  refine lv_iconst (v := 5) hx hb dX5_playsAt_40 (by decide) ?_
  obtain ⟨y13, u14, hf⟩ := b1_e hf
  refine mV (k := 193) (q := (5, 0)) (C := RX5) (T := TX5) (N := 14) (ci := 5) (n := 2) (As := [.int p2, .int 5]) (rest := [.int 5, .int p2, .ref (b + 193)]) (c_X5_its l D t b σ12 p2 5 y13 u14) sh_193 (by decide) rfl rfl hx hb hml hown hts hE hW hS q1252 q1254 q35 q96 q1255 hy_X5_its ⟨rfl, rfl⟩ ⟨Nat.le_of_ble_eq_true rfl, Nat.le_of_ble_eq_true rfl⟩ rfl rfl hl.1 (Nat.le_of_ble_eq_true rfl) ⟨Nat.zero_le _, Nat.zero_le _⟩ dX5_playsAt_41 (fun H locs hW hS => ?_)
  refine lv_iconst (v := 1) hx hb dX5_playsAt_44 (by decide) ?_
  refine lv_iadd hx hb dX5_playsAt_45 ?_
  obtain ⟨σ17, u16, hf⟩ := b1_e hf
  refine mV (k := 193) (q := (5, 0)) (C := RX5) (T := TX5) (N := 14) (ci := 5) (n := 3) (As := [.int p2, .int 5, .int (y13 + 1)]) (rest := []) (c_X5_sets l D t b σ12 p2 5 (y13 + 1) σ17 u16) sh_193 (by decide) rfl rfl hx hb hml hown hts hE hW hS q1271 q1273 q39 q96 q1274 hy_X5_sets ⟨rfl, rfl⟩ ⟨Nat.le_of_ble_eq_true rfl, Nat.le_of_ble_eq_true rfl⟩ rfl rfl hl.1 (Nat.le_of_ble_eq_true rfl) ⟨Nat.zero_le _, Nat.zero_le _⟩ dX5_playsAt_46 (fun H locs hW hS => ?_)
  refine lv_aload_n hx hb dX5_playsAt_49 rfl (lv_at hl 1 rfl) ?_
  refine lv_iload_n hx hb dX5_playsAt_50 rfl (lv_at hl 2 rfl) ?_
  refine lv_bipush (v := 6) hx hb dX5_playsAt_51 (by decide) ?_
  refine lv_aload_n hx hb dX5_playsAt_53 rfl (lv_at hl 1 rfl) ?_
  refine lv_iload_n hx hb dX5_playsAt_54 rfl (lv_at hl 2 rfl) ?_
  refine lv_bipush (v := 6) hx hb dX5_playsAt_55 (by decide) ?_
  obtain ⟨y18, u19, hf⟩ := b1_e hf
  refine mV (k := 193) (q := (5, 0)) (C := RX5) (T := TX5) (N := 14) (ci := 5) (n := 2) (As := [.int p1, .int 6]) (rest := [.int 6, .int p1, .ref (b + 193)]) (c_X5_of l D t b σ17 p1 6 y18 u19) sh_193 (by decide) rfl rfl hx hb hml hown hts hE hW hS q1353 q1355 q51 q96 q1356 hy_X5_of ⟨rfl, rfl⟩ ⟨Nat.le_of_ble_eq_true rfl, Nat.le_of_ble_eq_true rfl⟩ rfl rfl hl.1 (Nat.le_of_ble_eq_true rfl) ⟨Nat.zero_le _, Nat.zero_le _⟩ dX5_playsAt_57 (fun H locs hW hS => ?_)
  refine lv_iconst (v := 1) hx hb dX5_playsAt_60 (by decide) ?_
  refine lv_iadd hx hb dX5_playsAt_61 ?_
  obtain ⟨σ22, u21, hf⟩ := b1_e hf
  refine mV (k := 193) (q := (5, 0)) (C := RX5) (T := TX5) (N := 14) (ci := 5) (n := 3) (As := [.int p1, .int 6, .int (y18 + 1)]) (rest := []) (c_X5_lay l D t b σ17 p1 6 (y18 + 1) σ22 u21) sh_193 (by decide) rfl rfl hx hb hml hown hts hE hW hS q1361 q1363 q53 q96 q1364 hy_X5_lay ⟨rfl, rfl⟩ ⟨Nat.le_of_ble_eq_true rfl, Nat.le_of_ble_eq_true rfl⟩ rfl rfl hl.1 (Nat.le_of_ble_eq_true rfl) ⟨Nat.zero_le _, Nat.zero_le _⟩ dX5_playsAt_62 (fun H locs hW hS => ?_)
  refine lv_aload_n hx hb dX5_playsAt_65 rfl (lv_at hl 1 rfl) ?_
  refine getM hx hb hta hown hE.1 hW 0 (by decide) q1181 rfl dX5_playsAt_66 ?_
  refine lv_iconst (v := 4) hx hb dX5_playsAt_69 (by decide) ?_
  refine lv_dup2_11 hx hb dX5_playsAt_70 rfl rfl ?_
  refine iald hx hb hE.1 hW sh_194 (vp_lit (by decide +kernel)) dX5_playsAt_71 ?_
  refine lv_iload_n hx hb dX5_playsAt_72 rfl (lv_at hl 0 rfl) ?_
  refine lv_iadd hx hb dX5_playsAt_73 ?_
  refine iast (k := 194) (i := 4) (x := ((σ22 194 (4 : Int32).toNatClampNeg) + y1)) hx hb hE.1 hW hS sh_194 (vp_lit (by decide +kernel)) dX5_playsAt_74 (fun H locs hW hS => ?_)
  obtain ⟨σ23, e24, hf⟩ := st_e hf
  rw [e24] at hW
  refine lv_aload_n hx hb dX5_playsAt_75 rfl (lv_at hl 1 rfl) ?_
  refine getM hx hb hta hown hE.1 hW 0 (by decide) q1181 rfl dX5_playsAt_76 ?_
  refine lv_iconst (v := 5) hx hb dX5_playsAt_79 (by decide) ?_
  refine lv_dup2_11 hx hb dX5_playsAt_80 rfl rfl ?_
  refine iald hx hb hE.1 hW sh_194 (vp_lit (by decide +kernel)) dX5_playsAt_81 ?_
  refine lv_iconst (v := 1) hx hb dX5_playsAt_82 (by decide) ?_
  refine lv_iadd hx hb dX5_playsAt_83 ?_
  refine iast (k := 194) (i := 5) (x := ((σ23 194 (5 : Int32).toNatClampNeg) + 1)) hx hb hE.1 hW hS sh_194 (vp_lit (by decide +kernel)) dX5_playsAt_84 (fun H locs hW hS => ?_)
  obtain ⟨σ25, e26, hf⟩ := st_e hf
  rw [e26] at hW
  refine lv_aload_n hx hb dX5_playsAt_85 rfl (lv_at hl 1 rfl) ?_
  refine getM hx hb hta hown hE.1 hW 7 (by decide) q1188 rfl dX5_playsAt_86 ?_
  refine lv_iload_n hx hb dX5_playsAt_89 rfl (lv_at hl 3 rfl) ?_
  refine lv_iconst (v := 1) hx hb dX5_playsAt_90 (by decide) ?_
  obtain ⟨g27, hf⟩ := gd_e hf
  refine iast (k := 199) (i := p2) (x := 1) hx hb hE.1 hW hS sh_199 g27 dX5_playsAt_91 (fun H locs hW hS => ?_)
  obtain ⟨σ28, e29, hf⟩ := st_e hf
  rw [e29] at hW
  refine lv_aload_n hx hb dX5_playsAt_92 rfl (lv_at hl 1 rfl) ?_
  refine lv_iload_n hx hb dX5_playsAt_93 rfl (lv_at hl 3 rfl) ?_
  refine lv_iconst (v := 1) hx hb dX5_playsAt_94 (by decide) ?_
  obtain ⟨y30, u31, hf⟩ := b1_e hf
  refine mV (k := 193) (q := (5, 0)) (C := RX5) (T := TX5) (N := 14) (ci := 5) (n := 2) (As := [.int p2, .int 1]) (rest := []) (c_X5_its l D t b σ28 p2 1 y30 u31) sh_193 (by decide) rfl rfl hx hb hml hown hts hE hW hS q1252 q1254 q35 q96 q1255 hy_X5_its ⟨rfl, rfl⟩ ⟨Nat.le_of_ble_eq_true rfl, Nat.le_of_ble_eq_true rfl⟩ rfl rfl hl.1 (Nat.le_of_ble_eq_true rfl) ⟨Nat.zero_le _, Nat.zero_le _⟩ dX5_playsAt_95 (fun H locs hW hS => ?_)
  refine lv_istore (lv' := [(4, .int y30), (3, .int y1), (0, .ref (b + 193)), (1, .int p1), (2, .int p2)]) hx hb dX5_playsAt_98 hl (by decide) rfl (fun ls hl => ?_)
  refine lv_iload hx hb dX5_playsAt_100 (lv_at hl 0 rfl) ?_
  refine lv_iconst (v := 4) hx hb dX5_playsAt_102 (by decide) ?_
  refine lv_icmp_ne (tgt := 116) hx hb dX5_playsAt_103 (by decide) (fun h32 => ?_) (fun h32 => ?_)
  · have hf := ifn h32 hf
    refine lv_aload_n hx hb dX5_playsAt_116 rfl (lv_at hl 2 rfl) ?_
    refine lv_iload_n hx hb dX5_playsAt_117 rfl (lv_at hl 4 rfl) ?_
    refine lv_iconst (v := 5) hx hb dX5_playsAt_118 (by decide) ?_
    obtain ⟨y36, u37, hf⟩ := b1_e hf
    refine mV (k := 193) (q := (5, 0)) (C := RX5) (T := TX5) (N := 14) (ci := 5) (n := 2) (As := [.int p2, .int 5]) (rest := []) (c_X5_its l D t b σ28 p2 5 y36 u37) sh_193 (by decide) rfl rfl hx hb hml hown hts hE hW hS q1252 q1254 q35 q96 q1255 hy_X5_its ⟨rfl, rfl⟩ ⟨Nat.le_of_ble_eq_true rfl, Nat.le_of_ble_eq_true rfl⟩ rfl rfl hl.1 (Nat.le_of_ble_eq_true rfl) ⟨Nat.zero_le _, Nat.zero_le _⟩ dX5_playsAt_119 (fun H locs hW hS => ?_)
    refine lv_iload hx hb dX5_playsAt_122 (lv_at hl 0 rfl) ?_
    obtain ⟨y38, u39, hf⟩ := b1_e hf
    refine mS (n := 1) (As := [.int y30]) (rest := [.int y36]) (c_X5_every l D t b σ28 y30 y38 u39) hx hb hml hown hts hE hW hS q1431 q1432 q96 q1433 hs_X5_every ⟨rfl, rfl⟩ ⟨Nat.le_of_ble_eq_true rfl, Nat.le_of_ble_eq_true rfl⟩ rfl rfl hl.1 (Nat.le_of_ble_eq_true rfl) ⟨Nat.zero_le _, Nat.zero_le _⟩ dX5_playsAt_124 (fun H locs hW hS => ?_)
    obtain ⟨g40, hf⟩ := nz_e hf
    refine lv_irem hx hb dX5_playsAt_127 g40 ?_
    refine lv_if_ne (tgt := 154) hx hb dX5_playsAt_128 (by decide) (fun h41 => ?_) (fun h41 => ?_)
    · have hf := ifn h41 hf
      refine lv_aload_n hx hb dX5_playsAt_154 rfl (lv_at hl 2 rfl) ?_
      refine lv_iload_n hx hb dX5_playsAt_155 rfl (lv_at hl 3 rfl) ?_
      refine lv_bipush (v := (-8)) hx hb dX5_playsAt_156 (by decide) ?_
      obtain ⟨σ55, u54, hf⟩ := b1_e hf
      refine mV (k := 193) (q := (5, 0)) (C := RX5) (T := TX5) (N := 14) (ci := 5) (n := 2) (As := [.int p1, .int (-8)]) (rest := []) (c_X5_feels l D t b σ28 p1 (-8) σ55 u54) sh_193 (by decide) rfl rfl hx hb hml hown hts hE hW hS q1411 q1413 q62 q96 q1414 hy_X5_feels ⟨rfl, rfl⟩ ⟨Nat.le_of_ble_eq_true rfl, Nat.le_of_ble_eq_true rfl⟩ rfl rfl hl.1 (Nat.le_of_ble_eq_true rfl) ⟨Nat.zero_le _, Nat.zero_le _⟩ dX5_playsAt_158 (fun H locs hW hS => ?_)
      cases hf
      exact W.vret hx hb hr (fun u hu _ => ⟨⟨rfl, by rw [hu]; exact hW⟩, hS.F hu⟩) hS.2.2 dX5_playsAt_161
    · have hf := ifp h41 hf
      refine lv_aload_n hx hb dX5_playsAt_131 rfl (lv_at hl 2 rfl) ?_
      refine lv_iload_n hx hb dX5_playsAt_132 rfl (lv_at hl 4 rfl) ?_
      obtain ⟨y42, u43, hf⟩ := b1_e hf
      refine mV (k := 193) (q := (5, 0)) (C := RX5) (T := TX5) (N := 14) (ci := 5) (n := 1) (As := [.int p2]) (rest := []) (c_X5_bestLevel l D t b σ28 p2 y42 u43) sh_193 (by decide) rfl rfl hx hb hml hown hts hE hW hS q1434 q1436 q67 q96 q1437 hy_X5_bestLevel ⟨rfl, rfl⟩ ⟨Nat.le_of_ble_eq_true rfl, Nat.le_of_ble_eq_true rfl⟩ rfl rfl hl.1 (Nat.le_of_ble_eq_true rfl) ⟨Nat.zero_le _, Nat.zero_le _⟩ dX5_playsAt_133 (fun H locs hW hS => ?_)
      refine lv_iconst (v := (-1)) hx hb dX5_playsAt_136 (by decide) ?_
      refine lv_icmp_eq (tgt := 154) hx hb dX5_playsAt_137 (by decide) (fun h44 => ?_) (fun h44 => ?_)
      · have hf := ifp h44 hf
        refine lv_aload_n hx hb dX5_playsAt_154 rfl (lv_at hl 2 rfl) ?_
        refine lv_iload_n hx hb dX5_playsAt_155 rfl (lv_at hl 3 rfl) ?_
        refine lv_bipush (v := (-8)) hx hb dX5_playsAt_156 (by decide) ?_
        obtain ⟨σ47, u46, hf⟩ := b1_e hf
        refine mV (k := 193) (q := (5, 0)) (C := RX5) (T := TX5) (N := 14) (ci := 5) (n := 2) (As := [.int p1, .int (-8)]) (rest := []) (c_X5_feels l D t b σ28 p1 (-8) σ47 u46) sh_193 (by decide) rfl rfl hx hb hml hown hts hE hW hS q1411 q1413 q62 q96 q1414 hy_X5_feels ⟨rfl, rfl⟩ ⟨Nat.le_of_ble_eq_true rfl, Nat.le_of_ble_eq_true rfl⟩ rfl rfl hl.1 (Nat.le_of_ble_eq_true rfl) ⟨Nat.zero_le _, Nat.zero_le _⟩ dX5_playsAt_158 (fun H locs hW hS => ?_)
        cases hf
        exact W.vret hx hb hr (fun u hu _ => ⟨⟨rfl, by rw [hu]; exact hW⟩, hS.F hu⟩) hS.2.2 dX5_playsAt_161
      · have hf := ifn h44 hf
        refine lv_aload_n hx hb dX5_playsAt_140 rfl (lv_at hl 2 rfl) ?_
        refine lv_iload_n hx hb dX5_playsAt_141 rfl (lv_at hl 3 rfl) ?_
        refine lv_iload_n hx hb dX5_playsAt_142 rfl (lv_at hl 4 rfl) ?_
        refine lv_aload_n hx hb dX5_playsAt_143 rfl (lv_at hl 2 rfl) ?_
        refine lv_iload_n hx hb dX5_playsAt_144 rfl (lv_at hl 4 rfl) ?_
        obtain ⟨y48, u49, hf⟩ := b1_e hf
        refine mV (k := 193) (q := (5, 0)) (C := RX5) (T := TX5) (N := 14) (ci := 5) (n := 1) (As := [.int p2]) (rest := [.int p2, .int p1, .ref (b + 193)]) (c_X5_bestLevel l D t b σ28 p2 y48 u49) sh_193 (by decide) rfl rfl hx hb hml hown hts hE hW hS q1434 q1436 q67 q96 q1437 hy_X5_bestLevel ⟨rfl, rfl⟩ ⟨Nat.le_of_ble_eq_true rfl, Nat.le_of_ble_eq_true rfl⟩ rfl rfl hl.1 (Nat.le_of_ble_eq_true rfl) ⟨Nat.zero_le _, Nat.zero_le _⟩ dX5_playsAt_145 (fun H locs hW hS => ?_)
        obtain ⟨σ52, u51, hf⟩ := b1_e hf
        refine mV (k := 193) (q := (5, 0)) (C := RX5) (T := TX5) (N := 14) (ci := 5) (n := 3) (As := [.int p1, .int p2, .int y48]) (rest := []) (c_X5_wins l D t b σ28 p1 p2 y48 σ52 u51) sh_193 (by decide) rfl rfl hx hb hml hown hts hE hW hS q1445 q1447 q69 q96 q1448 hy_X5_wins ⟨rfl, rfl⟩ ⟨Nat.le_of_ble_eq_true rfl, Nat.le_of_ble_eq_true rfl⟩ rfl rfl hl.1 (Nat.le_of_ble_eq_true rfl) ⟨Nat.zero_le _, Nat.zero_le _⟩ dX5_playsAt_148 (fun H locs hW hS => ?_)
        refine lv_goto (tgt := 161) hx hb dX5_playsAt_151 (by decide) ?_
        cases hf
        exact W.vret hx hb hr (fun u hu _ => ⟨⟨rfl, by rw [hu]; exact hW⟩, hS.F hu⟩) hS.2.2 dX5_playsAt_161
  · have hf := ifp h32 hf
    refine lv_aload_n hx hb dX5_playsAt_106 rfl (lv_at hl 2 rfl) ?_
    refine lv_iload_n hx hb dX5_playsAt_107 rfl (lv_at hl 3 rfl) ?_
    refine lv_bipush (v := 15) hx hb dX5_playsAt_108 (by decide) ?_
    obtain ⟨σ35, u34, hf⟩ := b1_e hf
    refine mV (k := 193) (q := (5, 0)) (C := RX5) (T := TX5) (N := 14) (ci := 5) (n := 2) (As := [.int p1, .int 15]) (rest := []) (c_X5_feels l D t b σ28 p1 15 σ35 u34) sh_193 (by decide) rfl rfl hx hb hml hown hts hE hW hS q1411 q1413 q62 q96 q1414 hy_X5_feels ⟨rfl, rfl⟩ ⟨Nat.le_of_ble_eq_true rfl, Nat.le_of_ble_eq_true rfl⟩ rfl rfl hl.1 (Nat.le_of_ble_eq_true rfl) ⟨Nat.zero_le _, Nat.zero_le _⟩ dX5_playsAt_110 (fun H locs hW hS => ?_)
    refine lv_goto (tgt := 161) hx hb dX5_playsAt_113 (by decide) ?_
    cases hf
    exact W.vret hx hb hr (fun u hu _ => ⟨⟨rfl, by rw [hu]; exact hW⟩, hS.F hu⟩) hS.2.2 dX5_playsAt_161
def f_X5_moves (σ : Sg) (p1 : Int32) : Option Sg := b1 (f_X5_of σ p1 4) fun y1 => b1 (f_X5_lay σ p1 6 0) fun σ5 => b1 (f_X5_of σ5 p1 5) fun y6 => if y6 = 0 then (if y1 = 11 then (b1 (f_X5_lay σ5 p1 5 1) fun σ13 => b1 (f_X5_lay σ13 p1 4 (y1 - 1)) fun σ17 => some σ17) else (b1 (f_X5_lay σ5 p1 5 0) fun σ21 => b1 (f_X5_lay σ21 p1 4 (y1 + 1)) fun σ25 => some σ25)) else (if y1 = 0 then (b1 (f_X5_goesHome σ5 p1) fun σ29 => some σ29) else (b1 (f_X5_lay σ5 p1 4 (y1 - 1)) fun σ32 => some σ32))
set_option maxHeartbeats 4000000 in
set_option maxRecDepth 100000 in
theorem c_X5_moves (l : Launch) (D : va_G) (t : Nat → ClassId) (b : Nat) (σ : Sg) (p1 : Int32) (σr : Sg) (hf : f_X5_moves σ p1 = some σr) : Met l yX5_moves (Cond.code yX5_moves cX5_moves 4 none :: ALL) ({ frames := 2, cells := 0, slots := 0, locals := 44 }) (PM D t b σ [.ref (b + 193), .int p1]) (QG D t b σr none) 0 0 (geA b) := by
  refine Met.ofW (cc := cX5_moves) (maxL := 4) (ret := none) (by decide) rfl ?_
  intro p e s m args below meth c s₁ B hml hv
  obtain ⟨rfl, hW, hE⟩ := hv
  have hx := B.exec
  have hb := B.bytes
  have hr := B.returns
  have hts := atoms_spec (ws := Cond.code yX5_moves cX5_moves 4 none :: ALL) B.pre
  have hta := fun w h => hts w (List.mem_cons_of_mem _ h)
  have hown : s.vm.findClass RX5 = some m.cls := findClass_of_methodNamed B.named
  have hlocks := B.notSynchronized
  have hS : va_S (geA b) s.heap s.heap [] := va_S.rf
  have hl := lv_entry ([.ref (b + 193), .int p1]) (n := 4) (Nat.le_of_ble_eq_true rfl)
  rw [lg_entry_eq]
  generalize (lg_sl ([.ref (b + 193), .int p1]) ++ List.replicate (4 - (lg_sl ([.ref (b + 193), .int p1])).length) Slot.unset).toArray = ls at hl ⊢
  have hl : lv_has ls 4 [(0, .ref (b + 193)), (1, .int p1)] := hl
  unfold f_X5_moves at hf
  refine lv_aload_n hx hb dX5_moves_0 rfl (lv_at hl 0 rfl) ?_
  refine lv_iload_n hx hb dX5_moves_1 rfl (lv_at hl 1 rfl) ?_
  refine lv_iconst (v := 4) hx hb dX5_moves_2 (by decide) ?_
  obtain ⟨y1, u2, hf⟩ := b1_e hf
  refine mV (k := 193) (q := (5, 0)) (C := RX5) (T := TX5) (N := 14) (ci := 5) (n := 2) (As := [.int p1, .int 4]) (rest := []) (c_X5_of l D t b σ p1 4 y1 u2) sh_193 (by decide) rfl rfl hx hb hml hown hts hE hW hS q1353 q1355 q51 q96 q1356 hy_X5_of ⟨rfl, rfl⟩ ⟨Nat.le_of_ble_eq_true rfl, Nat.le_of_ble_eq_true rfl⟩ rfl rfl hl.1 (Nat.le_of_ble_eq_true rfl) ⟨Nat.zero_le _, Nat.zero_le _⟩ dX5_moves_3 (fun H locs hW hS => ?_)
  refine lv_istore_n (lv' := [(2, .int y1), (0, .ref (b + 193)), (1, .int p1)]) hx hb dX5_moves_6 rfl hl (by decide) rfl (fun ls hl => ?_)
  refine lv_aload_n hx hb dX5_moves_7 rfl (lv_at hl 1 rfl) ?_
  refine lv_iload_n hx hb dX5_moves_8 rfl (lv_at hl 2 rfl) ?_
  refine lv_bipush (v := 6) hx hb dX5_moves_9 (by decide) ?_
  refine lv_iconst (v := 0) hx hb dX5_moves_11 (by decide) ?_
  obtain ⟨σ5, u4, hf⟩ := b1_e hf
  refine mV (k := 193) (q := (5, 0)) (C := RX5) (T := TX5) (N := 14) (ci := 5) (n := 3) (As := [.int p1, .int 6, .int 0]) (rest := []) (c_X5_lay l D t b σ p1 6 0 σ5 u4) sh_193 (by decide) rfl rfl hx hb hml hown hts hE hW hS q1361 q1363 q53 q96 q1364 hy_X5_lay ⟨rfl, rfl⟩ ⟨Nat.le_of_ble_eq_true rfl, Nat.le_of_ble_eq_true rfl⟩ rfl rfl hl.1 (Nat.le_of_ble_eq_true rfl) ⟨Nat.zero_le _, Nat.zero_le _⟩ dX5_moves_12 (fun H locs hW hS => ?_)
  refine lv_aload_n hx hb dX5_moves_15 rfl (lv_at hl 1 rfl) ?_
  refine lv_iload_n hx hb dX5_moves_16 rfl (lv_at hl 2 rfl) ?_
  refine lv_iconst (v := 5) hx hb dX5_moves_17 (by decide) ?_
  obtain ⟨y6, u7, hf⟩ := b1_e hf
  refine mV (k := 193) (q := (5, 0)) (C := RX5) (T := TX5) (N := 14) (ci := 5) (n := 2) (As := [.int p1, .int 5]) (rest := []) (c_X5_of l D t b σ5 p1 5 y6 u7) sh_193 (by decide) rfl rfl hx hb hml hown hts hE hW hS q1353 q1355 q51 q96 q1356 hy_X5_of ⟨rfl, rfl⟩ ⟨Nat.le_of_ble_eq_true rfl, Nat.le_of_ble_eq_true rfl⟩ rfl rfl hl.1 (Nat.le_of_ble_eq_true rfl) ⟨Nat.zero_le _, Nat.zero_le _⟩ dX5_moves_18 (fun H locs hW hS => ?_)
  refine lv_if_ne (tgt := 73) hx hb dX5_moves_21 (by decide) (fun h8 => ?_) (fun h8 => ?_)
  · have hf := ifn h8 hf
    refine lv_iload_n hx hb dX5_moves_73 rfl (lv_at hl 0 rfl) ?_
    refine lv_if_ne (tgt := 85) hx hb dX5_moves_74 (by decide) (fun h26 => ?_) (fun h26 => ?_)
    · have hf := ifn h26 hf
      refine lv_aload_n hx hb dX5_moves_85 rfl (lv_at hl 1 rfl) ?_
      refine lv_iload_n hx hb dX5_moves_86 rfl (lv_at hl 2 rfl) ?_
      refine lv_iconst (v := 4) hx hb dX5_moves_87 (by decide) ?_
      refine lv_iload_n hx hb dX5_moves_88 rfl (lv_at hl 0 rfl) ?_
      refine lv_iconst (v := 1) hx hb dX5_moves_89 (by decide) ?_
      refine lv_isub hx hb dX5_moves_90 ?_
      obtain ⟨σ32, u31, hf⟩ := b1_e hf
      refine mV (k := 193) (q := (5, 0)) (C := RX5) (T := TX5) (N := 14) (ci := 5) (n := 3) (As := [.int p1, .int 4, .int (y1 - 1)]) (rest := []) (c_X5_lay l D t b σ5 p1 4 (y1 - 1) σ32 u31) sh_193 (by decide) rfl rfl hx hb hml hown hts hE hW hS q1361 q1363 q53 q96 q1364 hy_X5_lay ⟨rfl, rfl⟩ ⟨Nat.le_of_ble_eq_true rfl, Nat.le_of_ble_eq_true rfl⟩ rfl rfl hl.1 (Nat.le_of_ble_eq_true rfl) ⟨Nat.zero_le _, Nat.zero_le _⟩ dX5_moves_91 (fun H locs hW hS => ?_)
      cases hf
      exact W.vret hx hb hr (fun u hu _ => ⟨⟨rfl, by rw [hu]; exact hW⟩, hS.F hu⟩) hS.2.2 dX5_moves_94
    · have hf := ifp h26 hf
      refine lv_aload_n hx hb dX5_moves_77 rfl (lv_at hl 1 rfl) ?_
      refine lv_iload_n hx hb dX5_moves_78 rfl (lv_at hl 2 rfl) ?_
      obtain ⟨σ29, u28, hf⟩ := b1_e hf
      refine mV (k := 193) (q := (5, 0)) (C := RX5) (T := TX5) (N := 14) (ci := 5) (n := 1) (As := [.int p1]) (rest := []) (c_X5_goesHome l D t b σ5 p1 σ29 u28) sh_193 (by decide) rfl rfl hx hb hml hown hts hE hW hS q1415 q1417 q63 q96 q1418 hy_X5_goesHome ⟨rfl, rfl⟩ ⟨Nat.le_of_ble_eq_true rfl, Nat.le_of_ble_eq_true rfl⟩ rfl rfl hl.1 (Nat.le_of_ble_eq_true rfl) ⟨Nat.zero_le _, Nat.zero_le _⟩ dX5_moves_79 (fun H locs hW hS => ?_)
      refine lv_goto (tgt := 94) hx hb dX5_moves_82 (by decide) ?_
      cases hf
      exact W.vret hx hb hr (fun u hu _ => ⟨⟨rfl, by rw [hu]; exact hW⟩, hS.F hu⟩) hS.2.2 dX5_moves_94
  · have hf := ifp h8 hf
    refine lv_iload_n hx hb dX5_moves_24 rfl (lv_at hl 0 rfl) ?_
    refine lv_bipush (v := 11) hx hb dX5_moves_25 (by decide) ?_
    refine lv_icmp_ne (tgt := 34) hx hb dX5_moves_27 (by decide) (fun h9 => ?_) (fun h9 => ?_)
    · have hf := ifn h9 hf
      refine lv_iconst (v := 0) hx hb dX5_moves_34 (by decide) ?_
      refine lv_istore_n (lv' := [(3, .int 0), (2, .int y1), (0, .ref (b + 193)), (1, .int p1)]) hx hb dX5_moves_35 rfl hl (by decide) rfl (fun ls hl => ?_)
      refine lv_aload_n hx hb dX5_moves_36 rfl (lv_at hl 2 rfl) ?_
      refine lv_iload_n hx hb dX5_moves_37 rfl (lv_at hl 3 rfl) ?_
      refine lv_iconst (v := 5) hx hb dX5_moves_38 (by decide) ?_
      refine lv_iload_n hx hb dX5_moves_39 rfl (lv_at hl 0 rfl) ?_
      refine lv_if_eq (tgt := 47) hx hb dX5_moves_40 (by decide) (fun h18 => ?_) (fun h18 => absurd h18 (by decide))
      refine lv_iconst (v := 0) hx hb dX5_moves_47 (by decide) ?_
      obtain ⟨σ21, u20, hf⟩ := b1_e hf
      refine mV (k := 193) (q := (5, 0)) (C := RX5) (T := TX5) (N := 14) (ci := 5) (n := 3) (As := [.int p1, .int 5, .int 0]) (rest := []) (c_X5_lay l D t b σ5 p1 5 0 σ21 u20) sh_193 (by decide) rfl rfl hx hb hml hown hts hE hW hS q1361 q1363 q53 q96 q1364 hy_X5_lay ⟨rfl, rfl⟩ ⟨Nat.le_of_ble_eq_true rfl, Nat.le_of_ble_eq_true rfl⟩ rfl rfl hl.1 (Nat.le_of_ble_eq_true rfl) ⟨Nat.zero_le _, Nat.zero_le _⟩ dX5_moves_48 (fun H locs hW hS => ?_)
      refine lv_aload_n hx hb dX5_moves_51 rfl (lv_at hl 2 rfl) ?_
      refine lv_iload_n hx hb dX5_moves_52 rfl (lv_at hl 3 rfl) ?_
      refine lv_iconst (v := 4) hx hb dX5_moves_53 (by decide) ?_
      refine lv_iload_n hx hb dX5_moves_54 rfl (lv_at hl 0 rfl) ?_
      refine lv_if_eq (tgt := 64) hx hb dX5_moves_55 (by decide) (fun h22 => ?_) (fun h22 => absurd h22 (by decide))
      refine lv_iload_n hx hb dX5_moves_64 rfl (lv_at hl 1 rfl) ?_
      refine lv_iconst (v := 1) hx hb dX5_moves_65 (by decide) ?_
      refine lv_iadd hx hb dX5_moves_66 ?_
      obtain ⟨σ25, u24, hf⟩ := b1_e hf
      refine mV (k := 193) (q := (5, 0)) (C := RX5) (T := TX5) (N := 14) (ci := 5) (n := 3) (As := [.int p1, .int 4, .int (y1 + 1)]) (rest := []) (c_X5_lay l D t b σ21 p1 4 (y1 + 1) σ25 u24) sh_193 (by decide) rfl rfl hx hb hml hown hts hE hW hS q1361 q1363 q53 q96 q1364 hy_X5_lay ⟨rfl, rfl⟩ ⟨Nat.le_of_ble_eq_true rfl, Nat.le_of_ble_eq_true rfl⟩ rfl rfl hl.1 (Nat.le_of_ble_eq_true rfl) ⟨Nat.zero_le _, Nat.zero_le _⟩ dX5_moves_67 (fun H locs hW hS => ?_)
      refine lv_goto (tgt := 94) hx hb dX5_moves_70 (by decide) ?_
      cases hf
      exact W.vret hx hb hr (fun u hu _ => ⟨⟨rfl, by rw [hu]; exact hW⟩, hS.F hu⟩) hS.2.2 dX5_moves_94
    · have hf := ifp h9 hf
      refine lv_iconst (v := 1) hx hb dX5_moves_30 (by decide) ?_
      refine lv_goto (tgt := 35) hx hb dX5_moves_31 (by decide) ?_
      refine lv_istore_n (lv' := [(3, .int 1), (2, .int y1), (0, .ref (b + 193)), (1, .int p1)]) hx hb dX5_moves_35 rfl hl (by decide) rfl (fun ls hl => ?_)
      refine lv_aload_n hx hb dX5_moves_36 rfl (lv_at hl 2 rfl) ?_
      refine lv_iload_n hx hb dX5_moves_37 rfl (lv_at hl 3 rfl) ?_
      refine lv_iconst (v := 5) hx hb dX5_moves_38 (by decide) ?_
      refine lv_iload_n hx hb dX5_moves_39 rfl (lv_at hl 0 rfl) ?_
      refine lv_if_eq (tgt := 47) hx hb dX5_moves_40 (by decide) (fun h10 => absurd h10 (by decide)) (fun h10 => ?_)
      refine lv_iconst (v := 1) hx hb dX5_moves_43 (by decide) ?_
      refine lv_goto (tgt := 48) hx hb dX5_moves_44 (by decide) ?_
      obtain ⟨σ13, u12, hf⟩ := b1_e hf
      refine mV (k := 193) (q := (5, 0)) (C := RX5) (T := TX5) (N := 14) (ci := 5) (n := 3) (As := [.int p1, .int 5, .int 1]) (rest := []) (c_X5_lay l D t b σ5 p1 5 1 σ13 u12) sh_193 (by decide) rfl rfl hx hb hml hown hts hE hW hS q1361 q1363 q53 q96 q1364 hy_X5_lay ⟨rfl, rfl⟩ ⟨Nat.le_of_ble_eq_true rfl, Nat.le_of_ble_eq_true rfl⟩ rfl rfl hl.1 (Nat.le_of_ble_eq_true rfl) ⟨Nat.zero_le _, Nat.zero_le _⟩ dX5_moves_48 (fun H locs hW hS => ?_)
      refine lv_aload_n hx hb dX5_moves_51 rfl (lv_at hl 2 rfl) ?_
      refine lv_iload_n hx hb dX5_moves_52 rfl (lv_at hl 3 rfl) ?_
      refine lv_iconst (v := 4) hx hb dX5_moves_53 (by decide) ?_
      refine lv_iload_n hx hb dX5_moves_54 rfl (lv_at hl 0 rfl) ?_
      refine lv_if_eq (tgt := 64) hx hb dX5_moves_55 (by decide) (fun h14 => absurd h14 (by decide)) (fun h14 => ?_)
      refine lv_iload_n hx hb dX5_moves_58 rfl (lv_at hl 1 rfl) ?_
      refine lv_iconst (v := 1) hx hb dX5_moves_59 (by decide) ?_
      refine lv_isub hx hb dX5_moves_60 ?_
      refine lv_goto (tgt := 67) hx hb dX5_moves_61 (by decide) ?_
      obtain ⟨σ17, u16, hf⟩ := b1_e hf
      refine mV (k := 193) (q := (5, 0)) (C := RX5) (T := TX5) (N := 14) (ci := 5) (n := 3) (As := [.int p1, .int 4, .int (y1 - 1)]) (rest := []) (c_X5_lay l D t b σ13 p1 4 (y1 - 1) σ17 u16) sh_193 (by decide) rfl rfl hx hb hml hown hts hE hW hS q1361 q1363 q53 q96 q1364 hy_X5_lay ⟨rfl, rfl⟩ ⟨Nat.le_of_ble_eq_true rfl, Nat.le_of_ble_eq_true rfl⟩ rfl rfl hl.1 (Nat.le_of_ble_eq_true rfl) ⟨Nat.zero_le _, Nat.zero_le _⟩ dX5_moves_67 (fun H locs hW hS => ?_)
      refine lv_goto (tgt := 94) hx hb dX5_moves_70 (by decide) ?_
      cases hf
      exact W.vret hx hb hr (fun u hu _ => ⟨⟨rfl, by rw [hu]; exact hW⟩, hS.F hu⟩) hS.2.2 dX5_moves_94
def f_X5_acts (σ : Sg) (p1 : Int32) (p2 : Int32) : Option Sg := b1 (f_X5_of σ p1 4) fun y1 => b1 (f_X5_openOn σ y1) fun y3 => if y3 = (-1) then (b1 (f_X5_half σ p2) fun y6 => b1 (f_X5_feels σ p1 (-y6)) fun σ10 => b1 (f_X5_of σ10 p1 1) fun y11 => if y11 = 0 then (b1 (f_X5_goesHome σ10 p1) fun σ16 => some σ16) else (if y3 = (-1) then (b1 (f_X5_moves σ10 p1) fun σ20 => some σ20) else (b1 (f_X5_wants σ10 p1 y3) fun y21 => if y21 = 0 then (b1 (f_X5_moves σ10 p1) fun σ26 => some σ26) else (gd y3 7 (if (σ10 199 (y3).toNatClampNeg) = 0 then (b1 (f_X5_playsAt σ10 p1 y3) fun σ31 => some σ31) else (b1 (f_X5_moves σ10 p1) fun σ34 => some σ34)))))) else (b1 (f_X5_its σ y3 3) fun y35 => if y35 = 0 then (b1 (f_X5_half σ p2) fun y38 => b1 (f_X5_feels σ p1 (-y38)) fun σ42 => b1 (f_X5_of σ42 p1 1) fun y43 => if y43 = 0 then (b1 (f_X5_goesHome σ42 p1) fun σ48 => some σ48) else (if y3 = (-1) then (b1 (f_X5_moves σ42 p1) fun σ52 => some σ52) else (b1 (f_X5_wants σ42 p1 y3) fun y53 => if y53 = 0 then (b1 (f_X5_moves σ42 p1) fun σ58 => some σ58) else (gd y3 7 (if (σ42 199 (y3).toNatClampNeg) = 0 then (b1 (f_X5_playsAt σ42 p1 y3) fun σ63 => some σ63) else (b1 (f_X5_moves σ42 p1) fun σ66 => some σ66)))))) else (b1 (f_X5_of σ p1 1) fun y67 => if y67 = 0 then (b1 (f_X5_goesHome σ p1) fun σ72 => some σ72) else (if y3 = (-1) then (b1 (f_X5_moves σ p1) fun σ76 => some σ76) else (b1 (f_X5_wants σ p1 y3) fun y77 => if y77 = 0 then (b1 (f_X5_moves σ p1) fun σ82 => some σ82) else (gd y3 7 (if (σ 199 (y3).toNatClampNeg) = 0 then (b1 (f_X5_playsAt σ p1 y3) fun σ87 => some σ87) else (b1 (f_X5_moves σ p1) fun σ90 => some σ90)))))))
set_option maxHeartbeats 4000000 in
set_option maxRecDepth 100000 in
theorem c_X5_acts (l : Launch) (D : va_G) (t : Nat → ClassId) (b : Nat) (σ : Sg) (p1 : Int32) (p2 : Int32) (σr : Sg) (hf : f_X5_acts σ p1 p2 = some σr) : Met l yX5_acts (Cond.code yX5_acts cX5_acts 4 none :: ALL) ({ frames := 5, cells := 0, slots := 0, locals := 113 }) (PM D t b σ [.ref (b + 193), .int p1, .int p2]) (QG D t b σr none) 0 0 (geA b) := by
  refine Met.ofW (cc := cX5_acts) (maxL := 4) (ret := none) (by decide) rfl ?_
  intro p e s m args below meth c s₁ B hml hv
  obtain ⟨rfl, hW, hE⟩ := hv
  have hx := B.exec
  have hb := B.bytes
  have hr := B.returns
  have hts := atoms_spec (ws := Cond.code yX5_acts cX5_acts 4 none :: ALL) B.pre
  have hta := fun w h => hts w (List.mem_cons_of_mem _ h)
  have hown : s.vm.findClass RX5 = some m.cls := findClass_of_methodNamed B.named
  have hlocks := B.notSynchronized
  have hS : va_S (geA b) s.heap s.heap [] := va_S.rf
  have hl := lv_entry ([.ref (b + 193), .int p1, .int p2]) (n := 4) (Nat.le_of_ble_eq_true rfl)
  rw [lg_entry_eq]
  generalize (lg_sl ([.ref (b + 193), .int p1, .int p2]) ++ List.replicate (4 - (lg_sl ([.ref (b + 193), .int p1, .int p2])).length) Slot.unset).toArray = ls at hl ⊢
  have hl : lv_has ls 4 [(0, .ref (b + 193)), (1, .int p1), (2, .int p2)] := hl
  unfold f_X5_acts at hf
  refine lv_aload_n hx hb dX5_acts_0 rfl (lv_at hl 0 rfl) ?_
  refine lv_aload_n hx hb dX5_acts_1 rfl (lv_at hl 0 rfl) ?_
  refine lv_iload_n hx hb dX5_acts_2 rfl (lv_at hl 1 rfl) ?_
  refine lv_iconst (v := 4) hx hb dX5_acts_3 (by decide) ?_
  obtain ⟨y1, u2, hf⟩ := b1_e hf
  refine mV (k := 193) (q := (5, 0)) (C := RX5) (T := TX5) (N := 14) (ci := 5) (n := 2) (As := [.int p1, .int 4]) (rest := [.ref (b + 193)]) (c_X5_of l D t b σ p1 4 y1 u2) sh_193 (by decide) rfl rfl hx hb hml hown hts hE hW hS q1353 q1355 q51 q96 q1356 hy_X5_of ⟨rfl, rfl⟩ ⟨Nat.le_of_ble_eq_true rfl, Nat.le_of_ble_eq_true rfl⟩ rfl rfl hl.1 (Nat.le_of_ble_eq_true rfl) ⟨Nat.zero_le _, Nat.zero_le _⟩ dX5_acts_4 (fun H locs hW hS => ?_)
  obtain ⟨y3, u4, hf⟩ := b1_e hf
  refine mV (k := 193) (q := (5, 0)) (C := RX5) (T := TX5) (N := 14) (ci := 5) (n := 1) (As := [.int y1]) (rest := []) (c_X5_openOn l D t b σ y1 y3 u4) sh_193 (by decide) rfl rfl hx hb hml hown hts hE hW hS q1404 q1406 q61 q96 q1407 hy_X5_openOn ⟨rfl, rfl⟩ ⟨Nat.le_of_ble_eq_true rfl, Nat.le_of_ble_eq_true rfl⟩ rfl rfl hl.1 (Nat.le_of_ble_eq_true rfl) ⟨Nat.zero_le _, Nat.zero_le _⟩ dX5_acts_7 (fun H locs hW hS => ?_)
  refine lv_istore_n (lv' := [(3, .int y3), (0, .ref (b + 193)), (1, .int p1), (2, .int p2)]) hx hb dX5_acts_10 rfl hl (by decide) rfl (fun ls hl => ?_)
  refine lv_iload_n hx hb dX5_acts_11 rfl (lv_at hl 0 rfl) ?_
  refine lv_iconst (v := (-1)) hx hb dX5_acts_12 (by decide) ?_
  refine lv_icmp_eq (tgt := 25) hx hb dX5_acts_13 (by decide) (fun h5 => ?_) (fun h5 => ?_)
  · have hf := ifp h5 hf
    refine lv_aload_n hx hb dX5_acts_25 rfl (lv_at hl 1 rfl) ?_
    refine lv_iload_n hx hb dX5_acts_26 rfl (lv_at hl 2 rfl) ?_
    refine lv_iload_n hx hb dX5_acts_27 rfl (lv_at hl 3 rfl) ?_
    obtain ⟨y6, u7, hf⟩ := b1_e hf
    refine mS (n := 1) (As := [.int p2]) (rest := [.int p1, .ref (b + 193)]) (c_X5_half l D t b σ p2 y6 u7) hx hb hml hown hts hE hW hS q1408 q1409 q96 q1410 hs_X5_half ⟨rfl, rfl⟩ ⟨Nat.le_of_ble_eq_true rfl, Nat.le_of_ble_eq_true rfl⟩ rfl rfl hl.1 (Nat.le_of_ble_eq_true rfl) ⟨Nat.zero_le _, Nat.zero_le _⟩ dX5_acts_28 (fun H locs hW hS => ?_)
    refine lv_ineg hx hb dX5_acts_31 ?_
    obtain ⟨σ10, u9, hf⟩ := b1_e hf
    refine mV (k := 193) (q := (5, 0)) (C := RX5) (T := TX5) (N := 14) (ci := 5) (n := 2) (As := [.int p1, .int (-y6)]) (rest := []) (c_X5_feels l D t b σ p1 (-y6) σ10 u9) sh_193 (by decide) rfl rfl hx hb hml hown hts hE hW hS q1411 q1413 q62 q96 q1414 hy_X5_feels ⟨rfl, rfl⟩ ⟨Nat.le_of_ble_eq_true rfl, Nat.le_of_ble_eq_true rfl⟩ rfl rfl hl.1 (Nat.le_of_ble_eq_true rfl) ⟨Nat.zero_le _, Nat.zero_le _⟩ dX5_acts_32 (fun H locs hW hS => ?_)
    refine lv_aload_n hx hb dX5_acts_35 rfl (lv_at hl 1 rfl) ?_
    refine lv_iload_n hx hb dX5_acts_36 rfl (lv_at hl 2 rfl) ?_
    refine lv_iconst (v := 1) hx hb dX5_acts_37 (by decide) ?_
    obtain ⟨y11, u12, hf⟩ := b1_e hf
    refine mV (k := 193) (q := (5, 0)) (C := RX5) (T := TX5) (N := 14) (ci := 5) (n := 2) (As := [.int p1, .int 1]) (rest := []) (c_X5_of l D t b σ10 p1 1 y11 u12) sh_193 (by decide) rfl rfl hx hb hml hown hts hE hW hS q1353 q1355 q51 q96 q1356 hy_X5_of ⟨rfl, rfl⟩ ⟨Nat.le_of_ble_eq_true rfl, Nat.le_of_ble_eq_true rfl⟩ rfl rfl hl.1 (Nat.le_of_ble_eq_true rfl) ⟨Nat.zero_le _, Nat.zero_le _⟩ dX5_acts_38 (fun H locs hW hS => ?_)
    refine lv_if_ne (tgt := 52) hx hb dX5_acts_41 (by decide) (fun h13 => ?_) (fun h13 => ?_)
    · have hf := ifn h13 hf
      refine lv_iload_n hx hb dX5_acts_52 rfl (lv_at hl 0 rfl) ?_
      refine lv_iconst (v := (-1)) hx hb dX5_acts_53 (by decide) ?_
      refine lv_icmp_eq (tgt := 84) hx hb dX5_acts_54 (by decide) (fun h17 => ?_) (fun h17 => ?_)
      · have hf := ifp h17 hf
        refine lv_aload_n hx hb dX5_acts_84 rfl (lv_at hl 1 rfl) ?_
        refine lv_iload_n hx hb dX5_acts_85 rfl (lv_at hl 2 rfl) ?_
        obtain ⟨σ20, u19, hf⟩ := b1_e hf
        refine mV (k := 193) (q := (5, 0)) (C := RX5) (T := TX5) (N := 14) (ci := 5) (n := 1) (As := [.int p1]) (rest := []) (c_X5_moves l D t b σ10 p1 σ20 u19) sh_193 (by decide) rfl rfl hx hb hml hown hts hE hW hS q1449 q1451 q70 q96 q1452 hy_X5_moves ⟨rfl, rfl⟩ ⟨Nat.le_of_ble_eq_true rfl, Nat.le_of_ble_eq_true rfl⟩ rfl rfl hl.1 (Nat.le_of_ble_eq_true rfl) ⟨Nat.zero_le _, Nat.zero_le _⟩ dX5_acts_86 (fun H locs hW hS => ?_)
        cases hf
        exact W.vret hx hb hr (fun u hu _ => ⟨⟨rfl, by rw [hu]; exact hW⟩, hS.F hu⟩) hS.2.2 dX5_acts_89
      · have hf := ifn h17 hf
        refine lv_aload_n hx hb dX5_acts_57 rfl (lv_at hl 1 rfl) ?_
        refine lv_iload_n hx hb dX5_acts_58 rfl (lv_at hl 2 rfl) ?_
        refine lv_iload_n hx hb dX5_acts_59 rfl (lv_at hl 0 rfl) ?_
        obtain ⟨y21, u22, hf⟩ := b1_e hf
        refine mV (k := 193) (q := (5, 0)) (C := RX5) (T := TX5) (N := 14) (ci := 5) (n := 2) (As := [.int p1, .int y3]) (rest := []) (c_X5_wants l D t b σ10 p1 y3 y21 u22) sh_193 (by decide) rfl rfl hx hb hml hown hts hE hW hS q1419 q1421 q64 q96 q1422 hy_X5_wants ⟨rfl, rfl⟩ ⟨Nat.le_of_ble_eq_true rfl, Nat.le_of_ble_eq_true rfl⟩ rfl rfl hl.1 (Nat.le_of_ble_eq_true rfl) ⟨Nat.zero_le _, Nat.zero_le _⟩ dX5_acts_60 (fun H locs hW hS => ?_)
        refine lv_if_eq (tgt := 84) hx hb dX5_acts_63 (by decide) (fun h23 => ?_) (fun h23 => ?_)
        · have hf := ifp h23 hf
          refine lv_aload_n hx hb dX5_acts_84 rfl (lv_at hl 1 rfl) ?_
          refine lv_iload_n hx hb dX5_acts_85 rfl (lv_at hl 2 rfl) ?_
          obtain ⟨σ26, u25, hf⟩ := b1_e hf
          refine mV (k := 193) (q := (5, 0)) (C := RX5) (T := TX5) (N := 14) (ci := 5) (n := 1) (As := [.int p1]) (rest := []) (c_X5_moves l D t b σ10 p1 σ26 u25) sh_193 (by decide) rfl rfl hx hb hml hown hts hE hW hS q1449 q1451 q70 q96 q1452 hy_X5_moves ⟨rfl, rfl⟩ ⟨Nat.le_of_ble_eq_true rfl, Nat.le_of_ble_eq_true rfl⟩ rfl rfl hl.1 (Nat.le_of_ble_eq_true rfl) ⟨Nat.zero_le _, Nat.zero_le _⟩ dX5_acts_86 (fun H locs hW hS => ?_)
          cases hf
          exact W.vret hx hb hr (fun u hu _ => ⟨⟨rfl, by rw [hu]; exact hW⟩, hS.F hu⟩) hS.2.2 dX5_acts_89
        · have hf := ifn h23 hf
          refine lv_aload_n hx hb dX5_acts_66 rfl (lv_at hl 1 rfl) ?_
          refine getM hx hb hta hown hE.1 hW 7 (by decide) q1188 rfl dX5_acts_67 ?_
          refine lv_iload_n hx hb dX5_acts_70 rfl (lv_at hl 0 rfl) ?_
          obtain ⟨g27, hf⟩ := gd_e hf
          refine iald hx hb hE.1 hW sh_199 g27 dX5_acts_71 ?_
          refine lv_if_ne (tgt := 84) hx hb dX5_acts_72 (by decide) (fun h28 => ?_) (fun h28 => ?_)
          · have hf := ifn h28 hf
            refine lv_aload_n hx hb dX5_acts_84 rfl (lv_at hl 1 rfl) ?_
            refine lv_iload_n hx hb dX5_acts_85 rfl (lv_at hl 2 rfl) ?_
            obtain ⟨σ34, u33, hf⟩ := b1_e hf
            refine mV (k := 193) (q := (5, 0)) (C := RX5) (T := TX5) (N := 14) (ci := 5) (n := 1) (As := [.int p1]) (rest := []) (c_X5_moves l D t b σ10 p1 σ34 u33) sh_193 (by decide) rfl rfl hx hb hml hown hts hE hW hS q1449 q1451 q70 q96 q1452 hy_X5_moves ⟨rfl, rfl⟩ ⟨Nat.le_of_ble_eq_true rfl, Nat.le_of_ble_eq_true rfl⟩ rfl rfl hl.1 (Nat.le_of_ble_eq_true rfl) ⟨Nat.zero_le _, Nat.zero_le _⟩ dX5_acts_86 (fun H locs hW hS => ?_)
            cases hf
            exact W.vret hx hb hr (fun u hu _ => ⟨⟨rfl, by rw [hu]; exact hW⟩, hS.F hu⟩) hS.2.2 dX5_acts_89
          · have hf := ifp h28 hf
            refine lv_aload_n hx hb dX5_acts_75 rfl (lv_at hl 1 rfl) ?_
            refine lv_iload_n hx hb dX5_acts_76 rfl (lv_at hl 2 rfl) ?_
            refine lv_iload_n hx hb dX5_acts_77 rfl (lv_at hl 0 rfl) ?_
            obtain ⟨σ31, u30, hf⟩ := b1_e hf
            refine mV (k := 193) (q := (5, 0)) (C := RX5) (T := TX5) (N := 14) (ci := 5) (n := 2) (As := [.int p1, .int y3]) (rest := []) (c_X5_playsAt l D t b σ10 p1 y3 σ31 u30) sh_193 (by decide) rfl rfl hx hb hml hown hts hE hW hS q1427 q1429 q66 q96 q1430 hy_X5_playsAt ⟨rfl, rfl⟩ ⟨Nat.le_of_ble_eq_true rfl, Nat.le_of_ble_eq_true rfl⟩ rfl rfl hl.1 (Nat.le_of_ble_eq_true rfl) ⟨Nat.zero_le _, Nat.zero_le _⟩ dX5_acts_78 (fun H locs hW hS => ?_)
            refine lv_goto (tgt := 89) hx hb dX5_acts_81 (by decide) ?_
            cases hf
            exact W.vret hx hb hr (fun u hu _ => ⟨⟨rfl, by rw [hu]; exact hW⟩, hS.F hu⟩) hS.2.2 dX5_acts_89
    · have hf := ifp h13 hf
      refine lv_aload_n hx hb dX5_acts_44 rfl (lv_at hl 1 rfl) ?_
      refine lv_iload_n hx hb dX5_acts_45 rfl (lv_at hl 2 rfl) ?_
      obtain ⟨σ16, u15, hf⟩ := b1_e hf
      refine mV (k := 193) (q := (5, 0)) (C := RX5) (T := TX5) (N := 14) (ci := 5) (n := 1) (As := [.int p1]) (rest := []) (c_X5_goesHome l D t b σ10 p1 σ16 u15) sh_193 (by decide) rfl rfl hx hb hml hown hts hE hW hS q1415 q1417 q63 q96 q1418 hy_X5_goesHome ⟨rfl, rfl⟩ ⟨Nat.le_of_ble_eq_true rfl, Nat.le_of_ble_eq_true rfl⟩ rfl rfl hl.1 (Nat.le_of_ble_eq_true rfl) ⟨Nat.zero_le _, Nat.zero_le _⟩ dX5_acts_46 (fun H locs hW hS => ?_)
      refine lv_goto (tgt := 89) hx hb dX5_acts_49 (by decide) ?_
      cases hf
      exact W.vret hx hb hr (fun u hu _ => ⟨⟨rfl, by rw [hu]; exact hW⟩, hS.F hu⟩) hS.2.2 dX5_acts_89
  · have hf := ifn h5 hf
    refine lv_aload_n hx hb dX5_acts_16 rfl (lv_at hl 1 rfl) ?_
    refine lv_iload_n hx hb dX5_acts_17 rfl (lv_at hl 0 rfl) ?_
    refine lv_iconst (v := 3) hx hb dX5_acts_18 (by decide) ?_
    obtain ⟨y35, u36, hf⟩ := b1_e hf
    refine mV (k := 193) (q := (5, 0)) (C := RX5) (T := TX5) (N := 14) (ci := 5) (n := 2) (As := [.int y3, .int 3]) (rest := []) (c_X5_its l D t b σ y3 3 y35 u36) sh_193 (by decide) rfl rfl hx hb hml hown hts hE hW hS q1252 q1254 q35 q96 q1255 hy_X5_its ⟨rfl, rfl⟩ ⟨Nat.le_of_ble_eq_true rfl, Nat.le_of_ble_eq_true rfl⟩ rfl rfl hl.1 (Nat.le_of_ble_eq_true rfl) ⟨Nat.zero_le _, Nat.zero_le _⟩ dX5_acts_19 (fun H locs hW hS => ?_)
    refine lv_if_ne (tgt := 35) hx hb dX5_acts_22 (by decide) (fun h37 => ?_) (fun h37 => ?_)
    · have hf := ifn h37 hf
      refine lv_aload_n hx hb dX5_acts_35 rfl (lv_at hl 1 rfl) ?_
      refine lv_iload_n hx hb dX5_acts_36 rfl (lv_at hl 2 rfl) ?_
      refine lv_iconst (v := 1) hx hb dX5_acts_37 (by decide) ?_
      obtain ⟨y67, u68, hf⟩ := b1_e hf
      refine mV (k := 193) (q := (5, 0)) (C := RX5) (T := TX5) (N := 14) (ci := 5) (n := 2) (As := [.int p1, .int 1]) (rest := []) (c_X5_of l D t b σ p1 1 y67 u68) sh_193 (by decide) rfl rfl hx hb hml hown hts hE hW hS q1353 q1355 q51 q96 q1356 hy_X5_of ⟨rfl, rfl⟩ ⟨Nat.le_of_ble_eq_true rfl, Nat.le_of_ble_eq_true rfl⟩ rfl rfl hl.1 (Nat.le_of_ble_eq_true rfl) ⟨Nat.zero_le _, Nat.zero_le _⟩ dX5_acts_38 (fun H locs hW hS => ?_)
      refine lv_if_ne (tgt := 52) hx hb dX5_acts_41 (by decide) (fun h69 => ?_) (fun h69 => ?_)
      · have hf := ifn h69 hf
        refine lv_iload_n hx hb dX5_acts_52 rfl (lv_at hl 0 rfl) ?_
        refine lv_iconst (v := (-1)) hx hb dX5_acts_53 (by decide) ?_
        refine lv_icmp_eq (tgt := 84) hx hb dX5_acts_54 (by decide) (fun h73 => ?_) (fun h73 => ?_)
        · have hf := ifp h73 hf
          refine lv_aload_n hx hb dX5_acts_84 rfl (lv_at hl 1 rfl) ?_
          refine lv_iload_n hx hb dX5_acts_85 rfl (lv_at hl 2 rfl) ?_
          obtain ⟨σ76, u75, hf⟩ := b1_e hf
          refine mV (k := 193) (q := (5, 0)) (C := RX5) (T := TX5) (N := 14) (ci := 5) (n := 1) (As := [.int p1]) (rest := []) (c_X5_moves l D t b σ p1 σ76 u75) sh_193 (by decide) rfl rfl hx hb hml hown hts hE hW hS q1449 q1451 q70 q96 q1452 hy_X5_moves ⟨rfl, rfl⟩ ⟨Nat.le_of_ble_eq_true rfl, Nat.le_of_ble_eq_true rfl⟩ rfl rfl hl.1 (Nat.le_of_ble_eq_true rfl) ⟨Nat.zero_le _, Nat.zero_le _⟩ dX5_acts_86 (fun H locs hW hS => ?_)
          cases hf
          exact W.vret hx hb hr (fun u hu _ => ⟨⟨rfl, by rw [hu]; exact hW⟩, hS.F hu⟩) hS.2.2 dX5_acts_89
        · have hf := ifn h73 hf
          refine lv_aload_n hx hb dX5_acts_57 rfl (lv_at hl 1 rfl) ?_
          refine lv_iload_n hx hb dX5_acts_58 rfl (lv_at hl 2 rfl) ?_
          refine lv_iload_n hx hb dX5_acts_59 rfl (lv_at hl 0 rfl) ?_
          obtain ⟨y77, u78, hf⟩ := b1_e hf
          refine mV (k := 193) (q := (5, 0)) (C := RX5) (T := TX5) (N := 14) (ci := 5) (n := 2) (As := [.int p1, .int y3]) (rest := []) (c_X5_wants l D t b σ p1 y3 y77 u78) sh_193 (by decide) rfl rfl hx hb hml hown hts hE hW hS q1419 q1421 q64 q96 q1422 hy_X5_wants ⟨rfl, rfl⟩ ⟨Nat.le_of_ble_eq_true rfl, Nat.le_of_ble_eq_true rfl⟩ rfl rfl hl.1 (Nat.le_of_ble_eq_true rfl) ⟨Nat.zero_le _, Nat.zero_le _⟩ dX5_acts_60 (fun H locs hW hS => ?_)
          refine lv_if_eq (tgt := 84) hx hb dX5_acts_63 (by decide) (fun h79 => ?_) (fun h79 => ?_)
          · have hf := ifp h79 hf
            refine lv_aload_n hx hb dX5_acts_84 rfl (lv_at hl 1 rfl) ?_
            refine lv_iload_n hx hb dX5_acts_85 rfl (lv_at hl 2 rfl) ?_
            obtain ⟨σ82, u81, hf⟩ := b1_e hf
            refine mV (k := 193) (q := (5, 0)) (C := RX5) (T := TX5) (N := 14) (ci := 5) (n := 1) (As := [.int p1]) (rest := []) (c_X5_moves l D t b σ p1 σ82 u81) sh_193 (by decide) rfl rfl hx hb hml hown hts hE hW hS q1449 q1451 q70 q96 q1452 hy_X5_moves ⟨rfl, rfl⟩ ⟨Nat.le_of_ble_eq_true rfl, Nat.le_of_ble_eq_true rfl⟩ rfl rfl hl.1 (Nat.le_of_ble_eq_true rfl) ⟨Nat.zero_le _, Nat.zero_le _⟩ dX5_acts_86 (fun H locs hW hS => ?_)
            cases hf
            exact W.vret hx hb hr (fun u hu _ => ⟨⟨rfl, by rw [hu]; exact hW⟩, hS.F hu⟩) hS.2.2 dX5_acts_89
          · have hf := ifn h79 hf
            refine lv_aload_n hx hb dX5_acts_66 rfl (lv_at hl 1 rfl) ?_
            refine getM hx hb hta hown hE.1 hW 7 (by decide) q1188 rfl dX5_acts_67 ?_
            refine lv_iload_n hx hb dX5_acts_70 rfl (lv_at hl 0 rfl) ?_
            obtain ⟨g83, hf⟩ := gd_e hf
            refine iald hx hb hE.1 hW sh_199 g83 dX5_acts_71 ?_
            refine lv_if_ne (tgt := 84) hx hb dX5_acts_72 (by decide) (fun h84 => ?_) (fun h84 => ?_)
            · have hf := ifn h84 hf
              refine lv_aload_n hx hb dX5_acts_84 rfl (lv_at hl 1 rfl) ?_
              refine lv_iload_n hx hb dX5_acts_85 rfl (lv_at hl 2 rfl) ?_
              obtain ⟨σ90, u89, hf⟩ := b1_e hf
              refine mV (k := 193) (q := (5, 0)) (C := RX5) (T := TX5) (N := 14) (ci := 5) (n := 1) (As := [.int p1]) (rest := []) (c_X5_moves l D t b σ p1 σ90 u89) sh_193 (by decide) rfl rfl hx hb hml hown hts hE hW hS q1449 q1451 q70 q96 q1452 hy_X5_moves ⟨rfl, rfl⟩ ⟨Nat.le_of_ble_eq_true rfl, Nat.le_of_ble_eq_true rfl⟩ rfl rfl hl.1 (Nat.le_of_ble_eq_true rfl) ⟨Nat.zero_le _, Nat.zero_le _⟩ dX5_acts_86 (fun H locs hW hS => ?_)
              cases hf
              exact W.vret hx hb hr (fun u hu _ => ⟨⟨rfl, by rw [hu]; exact hW⟩, hS.F hu⟩) hS.2.2 dX5_acts_89
            · have hf := ifp h84 hf
              refine lv_aload_n hx hb dX5_acts_75 rfl (lv_at hl 1 rfl) ?_
              refine lv_iload_n hx hb dX5_acts_76 rfl (lv_at hl 2 rfl) ?_
              refine lv_iload_n hx hb dX5_acts_77 rfl (lv_at hl 0 rfl) ?_
              obtain ⟨σ87, u86, hf⟩ := b1_e hf
              refine mV (k := 193) (q := (5, 0)) (C := RX5) (T := TX5) (N := 14) (ci := 5) (n := 2) (As := [.int p1, .int y3]) (rest := []) (c_X5_playsAt l D t b σ p1 y3 σ87 u86) sh_193 (by decide) rfl rfl hx hb hml hown hts hE hW hS q1427 q1429 q66 q96 q1430 hy_X5_playsAt ⟨rfl, rfl⟩ ⟨Nat.le_of_ble_eq_true rfl, Nat.le_of_ble_eq_true rfl⟩ rfl rfl hl.1 (Nat.le_of_ble_eq_true rfl) ⟨Nat.zero_le _, Nat.zero_le _⟩ dX5_acts_78 (fun H locs hW hS => ?_)
              refine lv_goto (tgt := 89) hx hb dX5_acts_81 (by decide) ?_
              cases hf
              exact W.vret hx hb hr (fun u hu _ => ⟨⟨rfl, by rw [hu]; exact hW⟩, hS.F hu⟩) hS.2.2 dX5_acts_89
      · have hf := ifp h69 hf
        refine lv_aload_n hx hb dX5_acts_44 rfl (lv_at hl 1 rfl) ?_
        refine lv_iload_n hx hb dX5_acts_45 rfl (lv_at hl 2 rfl) ?_
        obtain ⟨σ72, u71, hf⟩ := b1_e hf
        refine mV (k := 193) (q := (5, 0)) (C := RX5) (T := TX5) (N := 14) (ci := 5) (n := 1) (As := [.int p1]) (rest := []) (c_X5_goesHome l D t b σ p1 σ72 u71) sh_193 (by decide) rfl rfl hx hb hml hown hts hE hW hS q1415 q1417 q63 q96 q1418 hy_X5_goesHome ⟨rfl, rfl⟩ ⟨Nat.le_of_ble_eq_true rfl, Nat.le_of_ble_eq_true rfl⟩ rfl rfl hl.1 (Nat.le_of_ble_eq_true rfl) ⟨Nat.zero_le _, Nat.zero_le _⟩ dX5_acts_46 (fun H locs hW hS => ?_)
        refine lv_goto (tgt := 89) hx hb dX5_acts_49 (by decide) ?_
        cases hf
        exact W.vret hx hb hr (fun u hu _ => ⟨⟨rfl, by rw [hu]; exact hW⟩, hS.F hu⟩) hS.2.2 dX5_acts_89
    · have hf := ifp h37 hf
      refine lv_aload_n hx hb dX5_acts_25 rfl (lv_at hl 1 rfl) ?_
      refine lv_iload_n hx hb dX5_acts_26 rfl (lv_at hl 2 rfl) ?_
      refine lv_iload_n hx hb dX5_acts_27 rfl (lv_at hl 3 rfl) ?_
      obtain ⟨y38, u39, hf⟩ := b1_e hf
      refine mS (n := 1) (As := [.int p2]) (rest := [.int p1, .ref (b + 193)]) (c_X5_half l D t b σ p2 y38 u39) hx hb hml hown hts hE hW hS q1408 q1409 q96 q1410 hs_X5_half ⟨rfl, rfl⟩ ⟨Nat.le_of_ble_eq_true rfl, Nat.le_of_ble_eq_true rfl⟩ rfl rfl hl.1 (Nat.le_of_ble_eq_true rfl) ⟨Nat.zero_le _, Nat.zero_le _⟩ dX5_acts_28 (fun H locs hW hS => ?_)
      refine lv_ineg hx hb dX5_acts_31 ?_
      obtain ⟨σ42, u41, hf⟩ := b1_e hf
      refine mV (k := 193) (q := (5, 0)) (C := RX5) (T := TX5) (N := 14) (ci := 5) (n := 2) (As := [.int p1, .int (-y38)]) (rest := []) (c_X5_feels l D t b σ p1 (-y38) σ42 u41) sh_193 (by decide) rfl rfl hx hb hml hown hts hE hW hS q1411 q1413 q62 q96 q1414 hy_X5_feels ⟨rfl, rfl⟩ ⟨Nat.le_of_ble_eq_true rfl, Nat.le_of_ble_eq_true rfl⟩ rfl rfl hl.1 (Nat.le_of_ble_eq_true rfl) ⟨Nat.zero_le _, Nat.zero_le _⟩ dX5_acts_32 (fun H locs hW hS => ?_)
      refine lv_aload_n hx hb dX5_acts_35 rfl (lv_at hl 1 rfl) ?_
      refine lv_iload_n hx hb dX5_acts_36 rfl (lv_at hl 2 rfl) ?_
      refine lv_iconst (v := 1) hx hb dX5_acts_37 (by decide) ?_
      obtain ⟨y43, u44, hf⟩ := b1_e hf
      refine mV (k := 193) (q := (5, 0)) (C := RX5) (T := TX5) (N := 14) (ci := 5) (n := 2) (As := [.int p1, .int 1]) (rest := []) (c_X5_of l D t b σ42 p1 1 y43 u44) sh_193 (by decide) rfl rfl hx hb hml hown hts hE hW hS q1353 q1355 q51 q96 q1356 hy_X5_of ⟨rfl, rfl⟩ ⟨Nat.le_of_ble_eq_true rfl, Nat.le_of_ble_eq_true rfl⟩ rfl rfl hl.1 (Nat.le_of_ble_eq_true rfl) ⟨Nat.zero_le _, Nat.zero_le _⟩ dX5_acts_38 (fun H locs hW hS => ?_)
      refine lv_if_ne (tgt := 52) hx hb dX5_acts_41 (by decide) (fun h45 => ?_) (fun h45 => ?_)
      · have hf := ifn h45 hf
        refine lv_iload_n hx hb dX5_acts_52 rfl (lv_at hl 0 rfl) ?_
        refine lv_iconst (v := (-1)) hx hb dX5_acts_53 (by decide) ?_
        refine lv_icmp_eq (tgt := 84) hx hb dX5_acts_54 (by decide) (fun h49 => ?_) (fun h49 => ?_)
        · have hf := ifp h49 hf
          refine lv_aload_n hx hb dX5_acts_84 rfl (lv_at hl 1 rfl) ?_
          refine lv_iload_n hx hb dX5_acts_85 rfl (lv_at hl 2 rfl) ?_
          obtain ⟨σ52, u51, hf⟩ := b1_e hf
          refine mV (k := 193) (q := (5, 0)) (C := RX5) (T := TX5) (N := 14) (ci := 5) (n := 1) (As := [.int p1]) (rest := []) (c_X5_moves l D t b σ42 p1 σ52 u51) sh_193 (by decide) rfl rfl hx hb hml hown hts hE hW hS q1449 q1451 q70 q96 q1452 hy_X5_moves ⟨rfl, rfl⟩ ⟨Nat.le_of_ble_eq_true rfl, Nat.le_of_ble_eq_true rfl⟩ rfl rfl hl.1 (Nat.le_of_ble_eq_true rfl) ⟨Nat.zero_le _, Nat.zero_le _⟩ dX5_acts_86 (fun H locs hW hS => ?_)
          cases hf
          exact W.vret hx hb hr (fun u hu _ => ⟨⟨rfl, by rw [hu]; exact hW⟩, hS.F hu⟩) hS.2.2 dX5_acts_89
        · have hf := ifn h49 hf
          refine lv_aload_n hx hb dX5_acts_57 rfl (lv_at hl 1 rfl) ?_
          refine lv_iload_n hx hb dX5_acts_58 rfl (lv_at hl 2 rfl) ?_
          refine lv_iload_n hx hb dX5_acts_59 rfl (lv_at hl 0 rfl) ?_
          obtain ⟨y53, u54, hf⟩ := b1_e hf
          refine mV (k := 193) (q := (5, 0)) (C := RX5) (T := TX5) (N := 14) (ci := 5) (n := 2) (As := [.int p1, .int y3]) (rest := []) (c_X5_wants l D t b σ42 p1 y3 y53 u54) sh_193 (by decide) rfl rfl hx hb hml hown hts hE hW hS q1419 q1421 q64 q96 q1422 hy_X5_wants ⟨rfl, rfl⟩ ⟨Nat.le_of_ble_eq_true rfl, Nat.le_of_ble_eq_true rfl⟩ rfl rfl hl.1 (Nat.le_of_ble_eq_true rfl) ⟨Nat.zero_le _, Nat.zero_le _⟩ dX5_acts_60 (fun H locs hW hS => ?_)
          refine lv_if_eq (tgt := 84) hx hb dX5_acts_63 (by decide) (fun h55 => ?_) (fun h55 => ?_)
          · have hf := ifp h55 hf
            refine lv_aload_n hx hb dX5_acts_84 rfl (lv_at hl 1 rfl) ?_
            refine lv_iload_n hx hb dX5_acts_85 rfl (lv_at hl 2 rfl) ?_
            obtain ⟨σ58, u57, hf⟩ := b1_e hf
            refine mV (k := 193) (q := (5, 0)) (C := RX5) (T := TX5) (N := 14) (ci := 5) (n := 1) (As := [.int p1]) (rest := []) (c_X5_moves l D t b σ42 p1 σ58 u57) sh_193 (by decide) rfl rfl hx hb hml hown hts hE hW hS q1449 q1451 q70 q96 q1452 hy_X5_moves ⟨rfl, rfl⟩ ⟨Nat.le_of_ble_eq_true rfl, Nat.le_of_ble_eq_true rfl⟩ rfl rfl hl.1 (Nat.le_of_ble_eq_true rfl) ⟨Nat.zero_le _, Nat.zero_le _⟩ dX5_acts_86 (fun H locs hW hS => ?_)
            cases hf
            exact W.vret hx hb hr (fun u hu _ => ⟨⟨rfl, by rw [hu]; exact hW⟩, hS.F hu⟩) hS.2.2 dX5_acts_89
          · have hf := ifn h55 hf
            refine lv_aload_n hx hb dX5_acts_66 rfl (lv_at hl 1 rfl) ?_
            refine getM hx hb hta hown hE.1 hW 7 (by decide) q1188 rfl dX5_acts_67 ?_
            refine lv_iload_n hx hb dX5_acts_70 rfl (lv_at hl 0 rfl) ?_
            obtain ⟨g59, hf⟩ := gd_e hf
            refine iald hx hb hE.1 hW sh_199 g59 dX5_acts_71 ?_
            refine lv_if_ne (tgt := 84) hx hb dX5_acts_72 (by decide) (fun h60 => ?_) (fun h60 => ?_)
            · have hf := ifn h60 hf
              refine lv_aload_n hx hb dX5_acts_84 rfl (lv_at hl 1 rfl) ?_
              refine lv_iload_n hx hb dX5_acts_85 rfl (lv_at hl 2 rfl) ?_
              obtain ⟨σ66, u65, hf⟩ := b1_e hf
              refine mV (k := 193) (q := (5, 0)) (C := RX5) (T := TX5) (N := 14) (ci := 5) (n := 1) (As := [.int p1]) (rest := []) (c_X5_moves l D t b σ42 p1 σ66 u65) sh_193 (by decide) rfl rfl hx hb hml hown hts hE hW hS q1449 q1451 q70 q96 q1452 hy_X5_moves ⟨rfl, rfl⟩ ⟨Nat.le_of_ble_eq_true rfl, Nat.le_of_ble_eq_true rfl⟩ rfl rfl hl.1 (Nat.le_of_ble_eq_true rfl) ⟨Nat.zero_le _, Nat.zero_le _⟩ dX5_acts_86 (fun H locs hW hS => ?_)
              cases hf
              exact W.vret hx hb hr (fun u hu _ => ⟨⟨rfl, by rw [hu]; exact hW⟩, hS.F hu⟩) hS.2.2 dX5_acts_89
            · have hf := ifp h60 hf
              refine lv_aload_n hx hb dX5_acts_75 rfl (lv_at hl 1 rfl) ?_
              refine lv_iload_n hx hb dX5_acts_76 rfl (lv_at hl 2 rfl) ?_
              refine lv_iload_n hx hb dX5_acts_77 rfl (lv_at hl 0 rfl) ?_
              obtain ⟨σ63, u62, hf⟩ := b1_e hf
              refine mV (k := 193) (q := (5, 0)) (C := RX5) (T := TX5) (N := 14) (ci := 5) (n := 2) (As := [.int p1, .int y3]) (rest := []) (c_X5_playsAt l D t b σ42 p1 y3 σ63 u62) sh_193 (by decide) rfl rfl hx hb hml hown hts hE hW hS q1427 q1429 q66 q96 q1430 hy_X5_playsAt ⟨rfl, rfl⟩ ⟨Nat.le_of_ble_eq_true rfl, Nat.le_of_ble_eq_true rfl⟩ rfl rfl hl.1 (Nat.le_of_ble_eq_true rfl) ⟨Nat.zero_le _, Nat.zero_le _⟩ dX5_acts_78 (fun H locs hW hS => ?_)
              refine lv_goto (tgt := 89) hx hb dX5_acts_81 (by decide) ?_
              cases hf
              exact W.vret hx hb hr (fun u hu _ => ⟨⟨rfl, by rw [hu]; exact hW⟩, hS.F hu⟩) hS.2.2 dX5_acts_89
      · have hf := ifp h45 hf
        refine lv_aload_n hx hb dX5_acts_44 rfl (lv_at hl 1 rfl) ?_
        refine lv_iload_n hx hb dX5_acts_45 rfl (lv_at hl 2 rfl) ?_
        obtain ⟨σ48, u47, hf⟩ := b1_e hf
        refine mV (k := 193) (q := (5, 0)) (C := RX5) (T := TX5) (N := 14) (ci := 5) (n := 1) (As := [.int p1]) (rest := []) (c_X5_goesHome l D t b σ42 p1 σ48 u47) sh_193 (by decide) rfl rfl hx hb hml hown hts hE hW hS q1415 q1417 q63 q96 q1418 hy_X5_goesHome ⟨rfl, rfl⟩ ⟨Nat.le_of_ble_eq_true rfl, Nat.le_of_ble_eq_true rfl⟩ rfl rfl hl.1 (Nat.le_of_ble_eq_true rfl) ⟨Nat.zero_le _, Nat.zero_le _⟩ dX5_acts_46 (fun H locs hW hS => ?_)
        refine lv_goto (tgt := 89) hx hb dX5_acts_49 (by decide) ?_
        cases hf
        exact W.vret hx hb hr (fun u hu _ => ⟨⟨rfl, by rw [hu]; exact hW⟩, hS.F hu⟩) hS.2.2 dX5_acts_89
def l_X5_endsDay_26 (k : Sg → Int32 → Option Sg) : Nat → Sg → Int32 → Option Sg
  | 0, _, _ => none
  | n + 1, τ, x1 => if (τ 194 (8 : Int32).toNatClampNeg) ≤ x1 then (st (u2 τ 194 (6 : Int32).toNatClampNeg ((τ 194 (6 : Int32).toNatClampNeg) + 1)) fun σ3 => st (u2 σ3 194 (7 : Int32).toNatClampNeg 0) fun σ5 => some σ5) else (b1 (f_X5_its τ x1 6) fun y7 => if y7 = 1 then (b1 (f_X5_its τ x1 0) fun y10 => b1 (f_X5_rent τ y10) fun y12 => b1 (f_X5_its τ x1 4) fun y14 => if y12 ≤ y14 then (b1 (f_X5_its τ x1 4) fun y17 => b1 (f_X5_sets τ x1 4 (y17 - y12)) fun σ21 => if y12 = y12 then (b1 (f_X5_sets σ21 x1 6 1) fun σ25 => st (u2 σ25 194 (1 : Int32).toNatClampNeg ((σ25 194 (1 : Int32).toNatClampNeg) + y12)) fun σ26 => l_X5_endsDay_26 k n σ26 (x1 + 1)) else (b1 (f_X5_sets σ21 x1 6 0) fun σ30 => st (u2 σ30 194 (1 : Int32).toNatClampNeg ((σ30 194 (1 : Int32).toNatClampNeg) + y12)) fun σ31 => l_X5_endsDay_26 k n σ31 (x1 + 1))) else (b1 (f_X5_its τ x1 4) fun y33 => b1 (f_X5_its τ x1 4) fun y35 => b1 (f_X5_sets τ x1 4 (y35 - y33)) fun σ39 => if y33 = y12 then (b1 (f_X5_sets σ39 x1 6 1) fun σ43 => st (u2 σ43 194 (1 : Int32).toNatClampNeg ((σ43 194 (1 : Int32).toNatClampNeg) + y33)) fun σ44 => l_X5_endsDay_26 k n σ44 (x1 + 1)) else (b1 (f_X5_sets σ39 x1 6 0) fun σ48 => st (u2 σ48 194 (1 : Int32).toNatClampNeg ((σ48 194 (1 : Int32).toNatClampNeg) + y33)) fun σ49 => l_X5_endsDay_26 k n σ49 (x1 + 1)))) else (l_X5_endsDay_26 k n τ (x1 + 1)))
def l_X5_endsDay_2 : Nat → Sg → Int32 → Option Sg
  | 0, _, _ => none
  | n + 1, τ, x1 => if (τ 194 (9 : Int32).toNatClampNeg) ≤ x1 then (l_X5_endsDay_26 (fun τ x1 => l_X5_endsDay_2 n τ x1) 10000 τ 0) else (b1 (f_X5_goesHome τ x1) fun σ53 => l_X5_endsDay_2 n σ53 (x1 + 1))
def f_X5_endsDay (σ : Sg) : Option Sg := l_X5_endsDay_2 10000 σ 0
set_option maxHeartbeats 4000000 in
set_option maxRecDepth 100000 in
theorem c_X5_endsDay (l : Launch) (D : va_G) (t : Nat → ClassId) (b : Nat) (σ : Sg) (σr : Sg) (hf : f_X5_endsDay σ = some σr) : Met l yX5_endsDay (Cond.code yX5_endsDay cX5_endsDay 4 none :: ALL) ({ frames := 2, cells := 0, slots := 0, locals := 44 }) (PM D t b σ [.ref (b + 193)]) (QG D t b σr none) 0 0 (geA b) := by
  refine Met.ofW (cc := cX5_endsDay) (maxL := 4) (ret := none) (by decide) rfl ?_
  intro p e s m args below meth c s₁ B hml hv
  obtain ⟨rfl, hW, hE⟩ := hv
  have hx := B.exec
  have hb := B.bytes
  have hr := B.returns
  have hts := atoms_spec (ws := Cond.code yX5_endsDay cX5_endsDay 4 none :: ALL) B.pre
  have hta := fun w h => hts w (List.mem_cons_of_mem _ h)
  have hown : s.vm.findClass RX5 = some m.cls := findClass_of_methodNamed B.named
  have hlocks := B.notSynchronized
  have hS : va_S (geA b) s.heap s.heap [] := va_S.rf
  have hl := lv_entry ([.ref (b + 193)]) (n := 4) (Nat.le_of_ble_eq_true rfl)
  rw [lg_entry_eq]
  generalize (lg_sl ([.ref (b + 193)]) ++ List.replicate (4 - (lg_sl ([.ref (b + 193)])).length) Slot.unset).toArray = ls at hl ⊢
  have hl : lv_has ls 4 [(0, .ref (b + 193))] := hl
  unfold f_X5_endsDay at hf
  refine lv_iconst (v := 0) hx hb dX5_endsDay_0 (by decide) ?_
  refine lv_istore_n (lv' := [(1, .int 0), (0, .ref (b + 193))]) hx hb dX5_endsDay_1 rfl hl (by decide) rfl (fun ls hl => ?_)
  have key_2 : ∀ (n : Nat) (τ : Sg) (x1 : Int32) (H : Heap) (locs : List Loc) (ls : Array Slot), l_X5_endsDay_2 n τ x1 = some σr → wd D t b τ H → va_S (geA b) s.heap H locs → lv_has ls 4 [(0, .ref (b + 193)), (1, .int x1)] → W p l e (headSpec (Cond.code yX5_endsDay cX5_endsDay 4 none :: ALL) ({ frames := 2, cells := 0, slots := 0, locals := 44 })).room s m (([.ref (b + 193)] : List Value).toArray) below meth c H locs 0 0 (MQ below (QG D t b σr none) (([.ref (b + 193)] : List Value).toArray) s 0 0 (geA b)) (F0 m 2 ls []) := by
    intro n
    induction n with
    | zero =>
      intro τ x1 H locs ls hf
      rw [l_X5_endsDay_2.eq_1] at hf
      cases hf
    | succ n ih_2 =>
      intro τ x1 H locs ls hf hW hS hl
      rw [l_X5_endsDay_2.eq_2] at hf
      refine lv_iload_n hx hb dX5_endsDay_2 rfl (lv_at hl 1 rfl) ?_
      refine lv_aload_n hx hb dX5_endsDay_3 rfl (lv_at hl 0 rfl) ?_
      refine getM hx hb hta hown hE.1 hW 0 (by decide) q1181 rfl dX5_endsDay_4 ?_
      refine lv_bipush (v := 9) hx hb dX5_endsDay_7 (by decide) ?_
      refine iald hx hb hE.1 hW sh_194 (vp_lit (by decide +kernel)) dX5_endsDay_9 ?_
      refine lv_icmp_ge (tgt := 24) hx hb dX5_endsDay_10 (by decide) (fun h1 => ?_) (fun h1 => ?_)
      · have hf := ifp h1 hf
        refine lv_iconst (v := 0) hx hb dX5_endsDay_24 (by decide) ?_
        refine lv_istore_n (lv' := [(1, .int 0), (0, .ref (b + 193))]) hx hb dX5_endsDay_25 rfl hl (by decide) rfl (fun ls hl => ?_)
        have key_26 : ∀ (m9 : Nat) (τ : Sg) (x1 : Int32) (H : Heap) (locs : List Loc) (ls : Array Slot), l_X5_endsDay_26 (fun τ x1 => l_X5_endsDay_2 n τ x1) m9 τ x1 = some σr → wd D t b τ H → va_S (geA b) s.heap H locs → lv_has ls 4 [(0, .ref (b + 193)), (1, .int x1)] → W p l e (headSpec (Cond.code yX5_endsDay cX5_endsDay 4 none :: ALL) ({ frames := 2, cells := 0, slots := 0, locals := 44 })).room s m (([.ref (b + 193)] : List Value).toArray) below meth c H locs 0 0 (MQ below (QG D t b σr none) (([.ref (b + 193)] : List Value).toArray) s 0 0 (geA b)) (F0 m 26 ls []) := by
          intro m9
          induction m9 with
          | zero =>
            intro τ x1 H locs ls hf
            rw [l_X5_endsDay_26.eq_1] at hf
            cases hf
          | succ m9 ih_26 =>
            intro τ x1 H locs ls hf hW hS hl
            rw [l_X5_endsDay_26.eq_2] at hf
            refine lv_iload_n hx hb dX5_endsDay_26 rfl (lv_at hl 1 rfl) ?_
            refine lv_aload_n hx hb dX5_endsDay_27 rfl (lv_at hl 0 rfl) ?_
            refine getM hx hb hta hown hE.1 hW 0 (by decide) q1181 rfl dX5_endsDay_28 ?_
            refine lv_bipush (v := 8) hx hb dX5_endsDay_31 (by decide) ?_
            refine iald hx hb hE.1 hW sh_194 (vp_lit (by decide +kernel)) dX5_endsDay_33 ?_
            refine lv_icmp_ge (tgt := 126) hx hb dX5_endsDay_34 (by decide) (fun h2 => ?_) (fun h2 => ?_)
            · have hf := ifp h2 hf
              refine lv_aload_n hx hb dX5_endsDay_126 rfl (lv_at hl 0 rfl) ?_
              refine getM hx hb hta hown hE.1 hW 0 (by decide) q1181 rfl dX5_endsDay_127 ?_
              refine lv_bipush (v := 6) hx hb dX5_endsDay_130 (by decide) ?_
              refine lv_dup2_11 hx hb dX5_endsDay_132 rfl rfl ?_
              refine iald hx hb hE.1 hW sh_194 (vp_lit (by decide +kernel)) dX5_endsDay_133 ?_
              refine lv_iconst (v := 1) hx hb dX5_endsDay_134 (by decide) ?_
              refine lv_iadd hx hb dX5_endsDay_135 ?_
              refine iast (k := 194) (i := 6) (x := ((τ 194 (6 : Int32).toNatClampNeg) + 1)) hx hb hE.1 hW hS sh_194 (vp_lit (by decide +kernel)) dX5_endsDay_136 (fun H locs hW hS => ?_)
              obtain ⟨σ3, e4, hf⟩ := st_e hf
              rw [e4] at hW
              refine lv_aload_n hx hb dX5_endsDay_137 rfl (lv_at hl 0 rfl) ?_
              refine getM hx hb hta hown hE.1 hW 0 (by decide) q1181 rfl dX5_endsDay_138 ?_
              refine lv_bipush (v := 7) hx hb dX5_endsDay_141 (by decide) ?_
              refine lv_iconst (v := 0) hx hb dX5_endsDay_143 (by decide) ?_
              refine iast (k := 194) (i := 7) (x := 0) hx hb hE.1 hW hS sh_194 (vp_lit (by decide +kernel)) dX5_endsDay_144 (fun H locs hW hS => ?_)
              obtain ⟨σ5, e6, hf⟩ := st_e hf
              rw [e6] at hW
              cases hf
              exact W.vret hx hb hr (fun u hu _ => ⟨⟨rfl, by rw [hu]; exact hW⟩, hS.F hu⟩) hS.2.2 dX5_endsDay_145
            · have hf := ifn h2 hf
              refine lv_aload_n hx hb dX5_endsDay_37 rfl (lv_at hl 0 rfl) ?_
              refine lv_iload_n hx hb dX5_endsDay_38 rfl (lv_at hl 1 rfl) ?_
              refine lv_bipush (v := 6) hx hb dX5_endsDay_39 (by decide) ?_
              obtain ⟨y7, u8, hf⟩ := b1_e hf
              refine mV (k := 193) (q := (5, 0)) (C := RX5) (T := TX5) (N := 14) (ci := 5) (n := 2) (As := [.int x1, .int 6]) (rest := []) (c_X5_its l D t b τ x1 6 y7 u8) sh_193 (by decide) rfl rfl hx hb hml hown hts hE hW hS q1252 q1254 q35 q96 q1255 hy_X5_its ⟨rfl, rfl⟩ ⟨Nat.le_of_ble_eq_true rfl, Nat.le_of_ble_eq_true rfl⟩ rfl rfl hl.1 (Nat.le_of_ble_eq_true rfl) ⟨Nat.zero_le _, Nat.zero_le _⟩ dX5_endsDay_41 (fun H locs hW hS => ?_)
              refine lv_iconst (v := 1) hx hb dX5_endsDay_44 (by decide) ?_
              refine lv_icmp_ne (tgt := 120) hx hb dX5_endsDay_45 (by decide) (fun h9 => ?_) (fun h9 => ?_)
              · have hf := ifn h9 hf
                refine lv_iinc (v := (x1 + 1)) (lv' := [(1, .int (x1 + 1)), (0, .ref (b + 193))]) hx hb dX5_endsDay_120 hl (k := 1) rfl (by rfl) (by decide) rfl (fun ls hl => ?_)
                refine lv_goto (tgt := 26) hx hb dX5_endsDay_123 (by decide) ?_
                exact ih_26 τ (x1 + 1) _ _ _ hf hW hS (lv_sub hl [1, 0] rfl)
              · have hf := ifp h9 hf
                refine lv_aload_n hx hb dX5_endsDay_48 rfl (lv_at hl 0 rfl) ?_
                refine lv_iload_n hx hb dX5_endsDay_49 rfl (lv_at hl 1 rfl) ?_
                refine lv_iconst (v := 0) hx hb dX5_endsDay_50 (by decide) ?_
                obtain ⟨y10, u11, hf⟩ := b1_e hf
                refine mV (k := 193) (q := (5, 0)) (C := RX5) (T := TX5) (N := 14) (ci := 5) (n := 2) (As := [.int x1, .int 0]) (rest := []) (c_X5_its l D t b τ x1 0 y10 u11) sh_193 (by decide) rfl rfl hx hb hml hown hts hE hW hS q1252 q1254 q35 q96 q1255 hy_X5_its ⟨rfl, rfl⟩ ⟨Nat.le_of_ble_eq_true rfl, Nat.le_of_ble_eq_true rfl⟩ rfl rfl hl.1 (Nat.le_of_ble_eq_true rfl) ⟨Nat.zero_le _, Nat.zero_le _⟩ dX5_endsDay_51 (fun H locs hW hS => ?_)
                obtain ⟨y12, u13, hf⟩ := b1_e hf
                refine mS (n := 1) (As := [.int y10]) (rest := []) (c_X5_rent l D t b τ y10 y12 u13) hx hb hml hown hts hE hW hS q1457 q1458 q96 q1459 hs_X5_rent ⟨rfl, rfl⟩ ⟨Nat.le_of_ble_eq_true rfl, Nat.le_of_ble_eq_true rfl⟩ rfl rfl hl.1 (Nat.le_of_ble_eq_true rfl) ⟨Nat.zero_le _, Nat.zero_le _⟩ dX5_endsDay_54 (fun H locs hW hS => ?_)
                refine lv_istore_n (lv' := [(2, .int y12), (0, .ref (b + 193)), (1, .int x1)]) hx hb dX5_endsDay_57 rfl hl (by decide) rfl (fun ls hl => ?_)
                refine lv_aload_n hx hb dX5_endsDay_58 rfl (lv_at hl 1 rfl) ?_
                refine lv_iload_n hx hb dX5_endsDay_59 rfl (lv_at hl 2 rfl) ?_
                refine lv_iconst (v := 4) hx hb dX5_endsDay_60 (by decide) ?_
                obtain ⟨y14, u15, hf⟩ := b1_e hf
                refine mV (k := 193) (q := (5, 0)) (C := RX5) (T := TX5) (N := 14) (ci := 5) (n := 2) (As := [.int x1, .int 4]) (rest := []) (c_X5_its l D t b τ x1 4 y14 u15) sh_193 (by decide) rfl rfl hx hb hml hown hts hE hW hS q1252 q1254 q35 q96 q1255 hy_X5_its ⟨rfl, rfl⟩ ⟨Nat.le_of_ble_eq_true rfl, Nat.le_of_ble_eq_true rfl⟩ rfl rfl hl.1 (Nat.le_of_ble_eq_true rfl) ⟨Nat.zero_le _, Nat.zero_le _⟩ dX5_endsDay_61 (fun H locs hW hS => ?_)
                refine lv_iload_n hx hb dX5_endsDay_64 rfl (lv_at hl 0 rfl) ?_
                refine lv_icmp_ge (tgt := 77) hx hb dX5_endsDay_65 (by decide) (fun h16 => ?_) (fun h16 => ?_)
                · have hf := ifp h16 hf
                  refine lv_iload_n hx hb dX5_endsDay_77 rfl (lv_at hl 0 rfl) ?_
                  refine lv_istore_n (lv' := [(3, .int y12), (2, .int y12), (0, .ref (b + 193)), (1, .int x1)]) hx hb dX5_endsDay_78 rfl hl (by decide) rfl (fun ls hl => ?_)
                  refine lv_aload_n hx hb dX5_endsDay_79 rfl (lv_at hl 2 rfl) ?_
                  refine lv_iload_n hx hb dX5_endsDay_80 rfl (lv_at hl 3 rfl) ?_
                  refine lv_iconst (v := 4) hx hb dX5_endsDay_81 (by decide) ?_
                  refine lv_aload_n hx hb dX5_endsDay_82 rfl (lv_at hl 2 rfl) ?_
                  refine lv_iload_n hx hb dX5_endsDay_83 rfl (lv_at hl 3 rfl) ?_
                  refine lv_iconst (v := 4) hx hb dX5_endsDay_84 (by decide) ?_
                  obtain ⟨y17, u18, hf⟩ := b1_e hf
                  refine mV (k := 193) (q := (5, 0)) (C := RX5) (T := TX5) (N := 14) (ci := 5) (n := 2) (As := [.int x1, .int 4]) (rest := [.int 4, .int x1, .ref (b + 193)]) (c_X5_its l D t b τ x1 4 y17 u18) sh_193 (by decide) rfl rfl hx hb hml hown hts hE hW hS q1252 q1254 q35 q96 q1255 hy_X5_its ⟨rfl, rfl⟩ ⟨Nat.le_of_ble_eq_true rfl, Nat.le_of_ble_eq_true rfl⟩ rfl rfl hl.1 (Nat.le_of_ble_eq_true rfl) ⟨Nat.zero_le _, Nat.zero_le _⟩ dX5_endsDay_85 (fun H locs hW hS => ?_)
                  refine lv_iload_n hx hb dX5_endsDay_88 rfl (lv_at hl 0 rfl) ?_
                  refine lv_isub hx hb dX5_endsDay_89 ?_
                  obtain ⟨σ21, u20, hf⟩ := b1_e hf
                  refine mV (k := 193) (q := (5, 0)) (C := RX5) (T := TX5) (N := 14) (ci := 5) (n := 3) (As := [.int x1, .int 4, .int (y17 - y12)]) (rest := []) (c_X5_sets l D t b τ x1 4 (y17 - y12) σ21 u20) sh_193 (by decide) rfl rfl hx hb hml hown hts hE hW hS q1271 q1273 q39 q96 q1274 hy_X5_sets ⟨rfl, rfl⟩ ⟨Nat.le_of_ble_eq_true rfl, Nat.le_of_ble_eq_true rfl⟩ rfl rfl hl.1 (Nat.le_of_ble_eq_true rfl) ⟨Nat.zero_le _, Nat.zero_le _⟩ dX5_endsDay_90 (fun H locs hW hS => ?_)
                  refine lv_aload_n hx hb dX5_endsDay_93 rfl (lv_at hl 2 rfl) ?_
                  refine lv_iload_n hx hb dX5_endsDay_94 rfl (lv_at hl 3 rfl) ?_
                  refine lv_bipush (v := 6) hx hb dX5_endsDay_95 (by decide) ?_
                  refine lv_iload_n hx hb dX5_endsDay_97 rfl (lv_at hl 0 rfl) ?_
                  refine lv_iload_n hx hb dX5_endsDay_98 rfl (lv_at hl 1 rfl) ?_
                  refine lv_icmp_ne (tgt := 106) hx hb dX5_endsDay_99 (by decide) (fun h22 => ?_) (fun h22 => ?_)
                  · have hf := ifn h22 hf
                    refine lv_iconst (v := 0) hx hb dX5_endsDay_106 (by decide) ?_
                    obtain ⟨σ30, u29, hf⟩ := b1_e hf
                    refine mV (k := 193) (q := (5, 0)) (C := RX5) (T := TX5) (N := 14) (ci := 5) (n := 3) (As := [.int x1, .int 6, .int 0]) (rest := []) (c_X5_sets l D t b σ21 x1 6 0 σ30 u29) sh_193 (by decide) rfl rfl hx hb hml hown hts hE hW hS q1271 q1273 q39 q96 q1274 hy_X5_sets ⟨rfl, rfl⟩ ⟨Nat.le_of_ble_eq_true rfl, Nat.le_of_ble_eq_true rfl⟩ rfl rfl hl.1 (Nat.le_of_ble_eq_true rfl) ⟨Nat.zero_le _, Nat.zero_le _⟩ dX5_endsDay_107 (fun H locs hW hS => ?_)
                    refine lv_aload_n hx hb dX5_endsDay_110 rfl (lv_at hl 2 rfl) ?_
                    refine getM hx hb hta hown hE.1 hW 0 (by decide) q1181 rfl dX5_endsDay_111 ?_
                    refine lv_iconst (v := 1) hx hb dX5_endsDay_114 (by decide) ?_
                    refine lv_dup2_11 hx hb dX5_endsDay_115 rfl rfl ?_
                    refine iald hx hb hE.1 hW sh_194 (vp_lit (by decide +kernel)) dX5_endsDay_116 ?_
                    refine lv_iload_n hx hb dX5_endsDay_117 rfl (lv_at hl 0 rfl) ?_
                    refine lv_iadd hx hb dX5_endsDay_118 ?_
                    refine iast (k := 194) (i := 1) (x := ((σ30 194 (1 : Int32).toNatClampNeg) + y12)) hx hb hE.1 hW hS sh_194 (vp_lit (by decide +kernel)) dX5_endsDay_119 (fun H locs hW hS => ?_)
                    obtain ⟨σ31, e32, hf⟩ := st_e hf
                    rw [e32] at hW
                    refine lv_iinc (v := (x1 + 1)) (lv' := [(1, .int (x1 + 1)), (3, .int y12), (2, .int y12), (0, .ref (b + 193))]) hx hb dX5_endsDay_120 hl (k := 3) rfl (by rfl) (by decide) rfl (fun ls hl => ?_)
                    refine lv_goto (tgt := 26) hx hb dX5_endsDay_123 (by decide) ?_
                    exact ih_26 σ31 (x1 + 1) _ _ _ hf hW hS (lv_sub hl [3, 0] rfl)
                  · have hf := ifp h22 hf
                    refine lv_iconst (v := 1) hx hb dX5_endsDay_102 (by decide) ?_
                    refine lv_goto (tgt := 107) hx hb dX5_endsDay_103 (by decide) ?_
                    obtain ⟨σ25, u24, hf⟩ := b1_e hf
                    refine mV (k := 193) (q := (5, 0)) (C := RX5) (T := TX5) (N := 14) (ci := 5) (n := 3) (As := [.int x1, .int 6, .int 1]) (rest := []) (c_X5_sets l D t b σ21 x1 6 1 σ25 u24) sh_193 (by decide) rfl rfl hx hb hml hown hts hE hW hS q1271 q1273 q39 q96 q1274 hy_X5_sets ⟨rfl, rfl⟩ ⟨Nat.le_of_ble_eq_true rfl, Nat.le_of_ble_eq_true rfl⟩ rfl rfl hl.1 (Nat.le_of_ble_eq_true rfl) ⟨Nat.zero_le _, Nat.zero_le _⟩ dX5_endsDay_107 (fun H locs hW hS => ?_)
                    refine lv_aload_n hx hb dX5_endsDay_110 rfl (lv_at hl 2 rfl) ?_
                    refine getM hx hb hta hown hE.1 hW 0 (by decide) q1181 rfl dX5_endsDay_111 ?_
                    refine lv_iconst (v := 1) hx hb dX5_endsDay_114 (by decide) ?_
                    refine lv_dup2_11 hx hb dX5_endsDay_115 rfl rfl ?_
                    refine iald hx hb hE.1 hW sh_194 (vp_lit (by decide +kernel)) dX5_endsDay_116 ?_
                    refine lv_iload_n hx hb dX5_endsDay_117 rfl (lv_at hl 0 rfl) ?_
                    refine lv_iadd hx hb dX5_endsDay_118 ?_
                    refine iast (k := 194) (i := 1) (x := ((σ25 194 (1 : Int32).toNatClampNeg) + y12)) hx hb hE.1 hW hS sh_194 (vp_lit (by decide +kernel)) dX5_endsDay_119 (fun H locs hW hS => ?_)
                    obtain ⟨σ26, e27, hf⟩ := st_e hf
                    rw [e27] at hW
                    refine lv_iinc (v := (x1 + 1)) (lv' := [(1, .int (x1 + 1)), (3, .int y12), (2, .int y12), (0, .ref (b + 193))]) hx hb dX5_endsDay_120 hl (k := 3) rfl (by rfl) (by decide) rfl (fun ls hl => ?_)
                    refine lv_goto (tgt := 26) hx hb dX5_endsDay_123 (by decide) ?_
                    exact ih_26 σ26 (x1 + 1) _ _ _ hf hW hS (lv_sub hl [3, 0] rfl)
                · have hf := ifn h16 hf
                  refine lv_aload_n hx hb dX5_endsDay_68 rfl (lv_at hl 1 rfl) ?_
                  refine lv_iload_n hx hb dX5_endsDay_69 rfl (lv_at hl 2 rfl) ?_
                  refine lv_iconst (v := 4) hx hb dX5_endsDay_70 (by decide) ?_
                  obtain ⟨y33, u34, hf⟩ := b1_e hf
                  refine mV (k := 193) (q := (5, 0)) (C := RX5) (T := TX5) (N := 14) (ci := 5) (n := 2) (As := [.int x1, .int 4]) (rest := []) (c_X5_its l D t b τ x1 4 y33 u34) sh_193 (by decide) rfl rfl hx hb hml hown hts hE hW hS q1252 q1254 q35 q96 q1255 hy_X5_its ⟨rfl, rfl⟩ ⟨Nat.le_of_ble_eq_true rfl, Nat.le_of_ble_eq_true rfl⟩ rfl rfl hl.1 (Nat.le_of_ble_eq_true rfl) ⟨Nat.zero_le _, Nat.zero_le _⟩ dX5_endsDay_71 (fun H locs hW hS => ?_)
                  refine lv_goto (tgt := 78) hx hb dX5_endsDay_74 (by decide) ?_
                  refine lv_istore_n (lv' := [(3, .int y33), (2, .int y12), (0, .ref (b + 193)), (1, .int x1)]) hx hb dX5_endsDay_78 rfl hl (by decide) rfl (fun ls hl => ?_)
                  refine lv_aload_n hx hb dX5_endsDay_79 rfl (lv_at hl 2 rfl) ?_
                  refine lv_iload_n hx hb dX5_endsDay_80 rfl (lv_at hl 3 rfl) ?_
                  refine lv_iconst (v := 4) hx hb dX5_endsDay_81 (by decide) ?_
                  refine lv_aload_n hx hb dX5_endsDay_82 rfl (lv_at hl 2 rfl) ?_
                  refine lv_iload_n hx hb dX5_endsDay_83 rfl (lv_at hl 3 rfl) ?_
                  refine lv_iconst (v := 4) hx hb dX5_endsDay_84 (by decide) ?_
                  obtain ⟨y35, u36, hf⟩ := b1_e hf
                  refine mV (k := 193) (q := (5, 0)) (C := RX5) (T := TX5) (N := 14) (ci := 5) (n := 2) (As := [.int x1, .int 4]) (rest := [.int 4, .int x1, .ref (b + 193)]) (c_X5_its l D t b τ x1 4 y35 u36) sh_193 (by decide) rfl rfl hx hb hml hown hts hE hW hS q1252 q1254 q35 q96 q1255 hy_X5_its ⟨rfl, rfl⟩ ⟨Nat.le_of_ble_eq_true rfl, Nat.le_of_ble_eq_true rfl⟩ rfl rfl hl.1 (Nat.le_of_ble_eq_true rfl) ⟨Nat.zero_le _, Nat.zero_le _⟩ dX5_endsDay_85 (fun H locs hW hS => ?_)
                  refine lv_iload_n hx hb dX5_endsDay_88 rfl (lv_at hl 0 rfl) ?_
                  refine lv_isub hx hb dX5_endsDay_89 ?_
                  obtain ⟨σ39, u38, hf⟩ := b1_e hf
                  refine mV (k := 193) (q := (5, 0)) (C := RX5) (T := TX5) (N := 14) (ci := 5) (n := 3) (As := [.int x1, .int 4, .int (y35 - y33)]) (rest := []) (c_X5_sets l D t b τ x1 4 (y35 - y33) σ39 u38) sh_193 (by decide) rfl rfl hx hb hml hown hts hE hW hS q1271 q1273 q39 q96 q1274 hy_X5_sets ⟨rfl, rfl⟩ ⟨Nat.le_of_ble_eq_true rfl, Nat.le_of_ble_eq_true rfl⟩ rfl rfl hl.1 (Nat.le_of_ble_eq_true rfl) ⟨Nat.zero_le _, Nat.zero_le _⟩ dX5_endsDay_90 (fun H locs hW hS => ?_)
                  refine lv_aload_n hx hb dX5_endsDay_93 rfl (lv_at hl 2 rfl) ?_
                  refine lv_iload_n hx hb dX5_endsDay_94 rfl (lv_at hl 3 rfl) ?_
                  refine lv_bipush (v := 6) hx hb dX5_endsDay_95 (by decide) ?_
                  refine lv_iload_n hx hb dX5_endsDay_97 rfl (lv_at hl 0 rfl) ?_
                  refine lv_iload_n hx hb dX5_endsDay_98 rfl (lv_at hl 1 rfl) ?_
                  refine lv_icmp_ne (tgt := 106) hx hb dX5_endsDay_99 (by decide) (fun h40 => ?_) (fun h40 => ?_)
                  · have hf := ifn h40 hf
                    refine lv_iconst (v := 0) hx hb dX5_endsDay_106 (by decide) ?_
                    obtain ⟨σ48, u47, hf⟩ := b1_e hf
                    refine mV (k := 193) (q := (5, 0)) (C := RX5) (T := TX5) (N := 14) (ci := 5) (n := 3) (As := [.int x1, .int 6, .int 0]) (rest := []) (c_X5_sets l D t b σ39 x1 6 0 σ48 u47) sh_193 (by decide) rfl rfl hx hb hml hown hts hE hW hS q1271 q1273 q39 q96 q1274 hy_X5_sets ⟨rfl, rfl⟩ ⟨Nat.le_of_ble_eq_true rfl, Nat.le_of_ble_eq_true rfl⟩ rfl rfl hl.1 (Nat.le_of_ble_eq_true rfl) ⟨Nat.zero_le _, Nat.zero_le _⟩ dX5_endsDay_107 (fun H locs hW hS => ?_)
                    refine lv_aload_n hx hb dX5_endsDay_110 rfl (lv_at hl 2 rfl) ?_
                    refine getM hx hb hta hown hE.1 hW 0 (by decide) q1181 rfl dX5_endsDay_111 ?_
                    refine lv_iconst (v := 1) hx hb dX5_endsDay_114 (by decide) ?_
                    refine lv_dup2_11 hx hb dX5_endsDay_115 rfl rfl ?_
                    refine iald hx hb hE.1 hW sh_194 (vp_lit (by decide +kernel)) dX5_endsDay_116 ?_
                    refine lv_iload_n hx hb dX5_endsDay_117 rfl (lv_at hl 0 rfl) ?_
                    refine lv_iadd hx hb dX5_endsDay_118 ?_
                    refine iast (k := 194) (i := 1) (x := ((σ48 194 (1 : Int32).toNatClampNeg) + y33)) hx hb hE.1 hW hS sh_194 (vp_lit (by decide +kernel)) dX5_endsDay_119 (fun H locs hW hS => ?_)
                    obtain ⟨σ49, e50, hf⟩ := st_e hf
                    rw [e50] at hW
                    refine lv_iinc (v := (x1 + 1)) (lv' := [(1, .int (x1 + 1)), (3, .int y33), (2, .int y12), (0, .ref (b + 193))]) hx hb dX5_endsDay_120 hl (k := 3) rfl (by rfl) (by decide) rfl (fun ls hl => ?_)
                    refine lv_goto (tgt := 26) hx hb dX5_endsDay_123 (by decide) ?_
                    exact ih_26 σ49 (x1 + 1) _ _ _ hf hW hS (lv_sub hl [3, 0] rfl)
                  · have hf := ifp h40 hf
                    refine lv_iconst (v := 1) hx hb dX5_endsDay_102 (by decide) ?_
                    refine lv_goto (tgt := 107) hx hb dX5_endsDay_103 (by decide) ?_
                    obtain ⟨σ43, u42, hf⟩ := b1_e hf
                    refine mV (k := 193) (q := (5, 0)) (C := RX5) (T := TX5) (N := 14) (ci := 5) (n := 3) (As := [.int x1, .int 6, .int 1]) (rest := []) (c_X5_sets l D t b σ39 x1 6 1 σ43 u42) sh_193 (by decide) rfl rfl hx hb hml hown hts hE hW hS q1271 q1273 q39 q96 q1274 hy_X5_sets ⟨rfl, rfl⟩ ⟨Nat.le_of_ble_eq_true rfl, Nat.le_of_ble_eq_true rfl⟩ rfl rfl hl.1 (Nat.le_of_ble_eq_true rfl) ⟨Nat.zero_le _, Nat.zero_le _⟩ dX5_endsDay_107 (fun H locs hW hS => ?_)
                    refine lv_aload_n hx hb dX5_endsDay_110 rfl (lv_at hl 2 rfl) ?_
                    refine getM hx hb hta hown hE.1 hW 0 (by decide) q1181 rfl dX5_endsDay_111 ?_
                    refine lv_iconst (v := 1) hx hb dX5_endsDay_114 (by decide) ?_
                    refine lv_dup2_11 hx hb dX5_endsDay_115 rfl rfl ?_
                    refine iald hx hb hE.1 hW sh_194 (vp_lit (by decide +kernel)) dX5_endsDay_116 ?_
                    refine lv_iload_n hx hb dX5_endsDay_117 rfl (lv_at hl 0 rfl) ?_
                    refine lv_iadd hx hb dX5_endsDay_118 ?_
                    refine iast (k := 194) (i := 1) (x := ((σ43 194 (1 : Int32).toNatClampNeg) + y33)) hx hb hE.1 hW hS sh_194 (vp_lit (by decide +kernel)) dX5_endsDay_119 (fun H locs hW hS => ?_)
                    obtain ⟨σ44, e45, hf⟩ := st_e hf
                    rw [e45] at hW
                    refine lv_iinc (v := (x1 + 1)) (lv' := [(1, .int (x1 + 1)), (3, .int y33), (2, .int y12), (0, .ref (b + 193))]) hx hb dX5_endsDay_120 hl (k := 3) rfl (by rfl) (by decide) rfl (fun ls hl => ?_)
                    refine lv_goto (tgt := 26) hx hb dX5_endsDay_123 (by decide) ?_
                    exact ih_26 σ44 (x1 + 1) _ _ _ hf hW hS (lv_sub hl [3, 0] rfl)
        exact key_26 10000 τ 0 _ _ _ hf hW hS (lv_sub hl [1, 0] rfl)
      · have hf := ifn h1 hf
        refine lv_aload_n hx hb dX5_endsDay_13 rfl (lv_at hl 0 rfl) ?_
        refine lv_iload_n hx hb dX5_endsDay_14 rfl (lv_at hl 1 rfl) ?_
        obtain ⟨σ53, u52, hf⟩ := b1_e hf
        refine mV (k := 193) (q := (5, 0)) (C := RX5) (T := TX5) (N := 14) (ci := 5) (n := 1) (As := [.int x1]) (rest := []) (c_X5_goesHome l D t b τ x1 σ53 u52) sh_193 (by decide) rfl rfl hx hb hml hown hts hE hW hS q1415 q1417 q63 q96 q1418 hy_X5_goesHome ⟨rfl, rfl⟩ ⟨Nat.le_of_ble_eq_true rfl, Nat.le_of_ble_eq_true rfl⟩ rfl rfl hl.1 (Nat.le_of_ble_eq_true rfl) ⟨Nat.zero_le _, Nat.zero_le _⟩ dX5_endsDay_15 (fun H locs hW hS => ?_)
        refine lv_iinc (v := (x1 + 1)) (lv' := [(1, .int (x1 + 1)), (0, .ref (b + 193))]) hx hb dX5_endsDay_18 hl (k := 1) rfl (by rfl) (by decide) rfl (fun ls hl => ?_)
        refine lv_goto (tgt := 2) hx hb dX5_endsDay_21 (by decide) ?_
        exact ih_2 σ53 (x1 + 1) _ _ _ hf hW hS (lv_sub hl [1, 0] rfl)
  exact key_2 10000 σ 0 _ _ _ hf hW hS (lv_sub hl [1, 0] rfl)
def l_X5_passesRound_72 (k : Sg → Int32 → Int32 → Option Sg) : Nat → Sg → Int32 → Int32 → Option Sg
  | 0, _, _, _ => none
  | n + 1, τ, x1, x2 => if (τ 194 (9 : Int32).toNatClampNeg) ≤ x2 then (st (u2 τ 194 (7 : Int32).toNatClampNeg ((τ 194 (7 : Int32).toNatClampNeg) + 1)) fun σ8 => if (σ8 194 (7 : Int32).toNatClampNeg) = 40 then (b1 (f_X5_endsDay σ8) fun σ13 => some σ13) else (some σ8)) else (b1 (f_X5_isHere τ x2) fun y14 => if y14 = 0 then (l_X5_passesRound_72 k n τ x1 (x2 + 1)) else (b1 (f_X5_acts τ x2 x1) fun σ19 => l_X5_passesRound_72 k n σ19 x1 (x2 + 1)))
def l_X5_passesRound_51 : Nat → Sg → Int32 → Int32 → Option Sg
  | 0, _, _, _ => none
  | n + 1, τ, x1, x2 => if 7 ≤ x2 then (l_X5_passesRound_72 (fun τ x1 x2 => l_X5_passesRound_51 n τ x1 x2) 10000 τ x1 0) else (gd x2 7 (st (u2 τ 199 (x2).toNatClampNeg 0) fun σ21 => l_X5_passesRound_51 n σ21 x1 (x2 + 1)))
def f_X5_passesRound (σ : Sg) : Option Sg := b1 (f_X5_rain σ ((σ 194 (7 : Int32).toNatClampNeg) / 4)) fun y1 => b1 (f_X5_isDue σ) fun y3 => if y3 = 0 then (l_X5_passesRound_51 10000 σ y1 0) else (b2 (f_X5_comes σ (5 + ((7 * (σ 194 (9 : Int32).toNatClampNeg)) - (7 * (σ 194 (9 : Int32).toNatClampNeg)) / 25 * 25)) ((σ 194 (9 : Int32).toNatClampNeg) - (σ 194 (9 : Int32).toNatClampNeg) / 5 * 5) ((σ 194 (9 : Int32).toNatClampNeg) - (σ 194 (9 : Int32).toNatClampNeg) / 4 * 4)) fun y23 σ25 => l_X5_passesRound_51 10000 σ25 y1 0)
set_option maxHeartbeats 4000000 in
set_option maxRecDepth 100000 in
theorem c_X5_passesRound (l : Launch) (D : va_G) (t : Nat → ClassId) (b : Nat) (σ : Sg) (σr : Sg) (hf : f_X5_passesRound σ = some σr) : Met l yX5_passesRound (Cond.code yX5_passesRound cX5_passesRound 3 none :: ALL) ({ frames := 6, cells := 0, slots := 0, locals := 136 }) (PM D t b σ [.ref (b + 193)]) (QG D t b σr none) 0 0 (geA b) := by
  refine Met.ofW (cc := cX5_passesRound) (maxL := 3) (ret := none) (by decide) rfl ?_
  intro p e s m args below meth c s₁ B hml hv
  obtain ⟨rfl, hW, hE⟩ := hv
  have hx := B.exec
  have hb := B.bytes
  have hr := B.returns
  have hts := atoms_spec (ws := Cond.code yX5_passesRound cX5_passesRound 3 none :: ALL) B.pre
  have hta := fun w h => hts w (List.mem_cons_of_mem _ h)
  have hown : s.vm.findClass RX5 = some m.cls := findClass_of_methodNamed B.named
  have hlocks := B.notSynchronized
  have hS : va_S (geA b) s.heap s.heap [] := va_S.rf
  have hl := lv_entry ([.ref (b + 193)]) (n := 3) (Nat.le_of_ble_eq_true rfl)
  rw [lg_entry_eq]
  generalize (lg_sl ([.ref (b + 193)]) ++ List.replicate (3 - (lg_sl ([.ref (b + 193)])).length) Slot.unset).toArray = ls at hl ⊢
  have hl : lv_has ls 3 [(0, .ref (b + 193))] := hl
  unfold f_X5_passesRound at hf
  refine lv_aload_n hx hb dX5_passesRound_0 rfl (lv_at hl 0 rfl) ?_
  refine lv_aload_n hx hb dX5_passesRound_1 rfl (lv_at hl 0 rfl) ?_
  refine getM hx hb hta hown hE.1 hW 0 (by decide) q1181 rfl dX5_passesRound_2 ?_
  refine lv_bipush (v := 7) hx hb dX5_passesRound_5 (by decide) ?_
  refine iald hx hb hE.1 hW sh_194 (vp_lit (by decide +kernel)) dX5_passesRound_7 ?_
  refine lv_iconst (v := 4) hx hb dX5_passesRound_8 (by decide) ?_
  refine lv_idiv hx hb dX5_passesRound_9 (by decide) ?_
  obtain ⟨y1, u2, hf⟩ := b1_e hf
  refine mV (k := 193) (q := (5, 0)) (C := RX5) (T := TX5) (N := 14) (ci := 5) (n := 1) (As := [.int ((σ 194 (7 : Int32).toNatClampNeg) / 4)]) (rest := []) (c_X5_rain l D t b σ ((σ 194 (7 : Int32).toNatClampNeg) / 4) y1 u2) sh_193 (by decide) rfl rfl hx hb hml hown hts hE hW hS q1392 q1394 q58 q96 q1395 hy_X5_rain ⟨rfl, rfl⟩ ⟨Nat.le_of_ble_eq_true rfl, Nat.le_of_ble_eq_true rfl⟩ rfl rfl hl.1 (Nat.le_of_ble_eq_true rfl) ⟨Nat.zero_le _, Nat.zero_le _⟩ dX5_passesRound_10 (fun H locs hW hS => ?_)
  refine lv_istore_n (lv' := [(1, .int y1), (0, .ref (b + 193))]) hx hb dX5_passesRound_13 rfl hl (by decide) rfl (fun ls hl => ?_)
  refine lv_aload_n hx hb dX5_passesRound_14 rfl (lv_at hl 1 rfl) ?_
  obtain ⟨y3, u4, hf⟩ := b1_e hf
  refine mV (k := 193) (q := (5, 0)) (C := RX5) (T := TX5) (N := 14) (ci := 5) (n := 0) (As := []) (rest := []) (c_X5_isDue l D t b σ y3 u4) sh_193 (by decide) rfl rfl hx hb hml hown hts hE hW hS q1396 q1398 q59 q96 q1399 hy_X5_isDue ⟨rfl, rfl⟩ ⟨Nat.le_of_ble_eq_true rfl, Nat.le_of_ble_eq_true rfl⟩ rfl rfl hl.1 (Nat.le_of_ble_eq_true rfl) ⟨Nat.zero_le _, Nat.zero_le _⟩ dX5_passesRound_15 (fun H locs hW hS => ?_)
  refine lv_if_eq (tgt := 49) hx hb dX5_passesRound_18 (by decide) (fun h5 => ?_) (fun h5 => ?_)
  · have hf := ifp h5 hf
    refine lv_iconst (v := 0) hx hb dX5_passesRound_49 (by decide) ?_
    refine lv_istore_n (lv' := [(2, .int 0), (1, .int y1), (0, .ref (b + 193))]) hx hb dX5_passesRound_50 rfl hl (by decide) rfl (fun ls hl => ?_)
    have key_51 : ∀ (n : Nat) (τ : Sg) (x1 : Int32) (x2 : Int32) (H : Heap) (locs : List Loc) (ls : Array Slot), l_X5_passesRound_51 n τ x1 x2 = some σr → wd D t b τ H → va_S (geA b) s.heap H locs → lv_has ls 3 [(0, .ref (b + 193)), (1, .int x1), (2, .int x2)] → W p l e (headSpec (Cond.code yX5_passesRound cX5_passesRound 3 none :: ALL) ({ frames := 6, cells := 0, slots := 0, locals := 136 })).room s m (([.ref (b + 193)] : List Value).toArray) below meth c H locs 0 0 (MQ below (QG D t b σr none) (([.ref (b + 193)] : List Value).toArray) s 0 0 (geA b)) (F0 m 51 ls []) := by
      intro n
      induction n with
      | zero =>
        intro τ x1 x2 H locs ls hf
        rw [l_X5_passesRound_51.eq_1] at hf
        cases hf
      | succ n ih_51 =>
        intro τ x1 x2 H locs ls hf hW hS hl
        rw [l_X5_passesRound_51.eq_2] at hf
        refine lv_iload_n hx hb dX5_passesRound_51 rfl (lv_at hl 2 rfl) ?_
        refine lv_bipush (v := 7) hx hb dX5_passesRound_52 (by decide) ?_
        refine lv_icmp_ge (tgt := 70) hx hb dX5_passesRound_54 (by decide) (fun h6 => ?_) (fun h6 => ?_)
        · have hf := ifp h6 hf
          refine lv_iconst (v := 0) hx hb dX5_passesRound_70 (by decide) ?_
          refine lv_istore_n (lv' := [(2, .int 0), (0, .ref (b + 193)), (1, .int x1)]) hx hb dX5_passesRound_71 rfl hl (by decide) rfl (fun ls hl => ?_)
          have key_72 : ∀ (m9 : Nat) (τ : Sg) (x1 : Int32) (x2 : Int32) (H : Heap) (locs : List Loc) (ls : Array Slot), l_X5_passesRound_72 (fun τ x1 x2 => l_X5_passesRound_51 n τ x1 x2) m9 τ x1 x2 = some σr → wd D t b τ H → va_S (geA b) s.heap H locs → lv_has ls 3 [(0, .ref (b + 193)), (1, .int x1), (2, .int x2)] → W p l e (headSpec (Cond.code yX5_passesRound cX5_passesRound 3 none :: ALL) ({ frames := 6, cells := 0, slots := 0, locals := 136 })).room s m (([.ref (b + 193)] : List Value).toArray) below meth c H locs 0 0 (MQ below (QG D t b σr none) (([.ref (b + 193)] : List Value).toArray) s 0 0 (geA b)) (F0 m 72 ls []) := by
            intro m9
            induction m9 with
            | zero =>
              intro τ x1 x2 H locs ls hf
              rw [l_X5_passesRound_72.eq_1] at hf
              cases hf
            | succ m9 ih_72 =>
              intro τ x1 x2 H locs ls hf hW hS hl
              rw [l_X5_passesRound_72.eq_2] at hf
              refine lv_iload_n hx hb dX5_passesRound_72 rfl (lv_at hl 2 rfl) ?_
              refine lv_aload_n hx hb dX5_passesRound_73 rfl (lv_at hl 0 rfl) ?_
              refine getM hx hb hta hown hE.1 hW 0 (by decide) q1181 rfl dX5_passesRound_74 ?_
              refine lv_bipush (v := 9) hx hb dX5_passesRound_77 (by decide) ?_
              refine iald hx hb hE.1 hW sh_194 (vp_lit (by decide +kernel)) dX5_passesRound_79 ?_
              refine lv_icmp_ge (tgt := 103) hx hb dX5_passesRound_80 (by decide) (fun h7 => ?_) (fun h7 => ?_)
              · have hf := ifp h7 hf
                refine lv_aload_n hx hb dX5_passesRound_103 rfl (lv_at hl 0 rfl) ?_
                refine getM hx hb hta hown hE.1 hW 0 (by decide) q1181 rfl dX5_passesRound_104 ?_
                refine lv_bipush (v := 7) hx hb dX5_passesRound_107 (by decide) ?_
                refine lv_dup2_11 hx hb dX5_passesRound_109 rfl rfl ?_
                refine iald hx hb hE.1 hW sh_194 (vp_lit (by decide +kernel)) dX5_passesRound_110 ?_
                refine lv_iconst (v := 1) hx hb dX5_passesRound_111 (by decide) ?_
                refine lv_iadd hx hb dX5_passesRound_112 ?_
                refine iast (k := 194) (i := 7) (x := ((τ 194 (7 : Int32).toNatClampNeg) + 1)) hx hb hE.1 hW hS sh_194 (vp_lit (by decide +kernel)) dX5_passesRound_113 (fun H locs hW hS => ?_)
                obtain ⟨σ8, e9, hf⟩ := st_e hf
                rw [e9] at hW
                refine lv_aload_n hx hb dX5_passesRound_114 rfl (lv_at hl 0 rfl) ?_
                refine getM hx hb hta hown hE.1 hW 0 (by decide) q1181 rfl dX5_passesRound_115 ?_
                refine lv_bipush (v := 7) hx hb dX5_passesRound_118 (by decide) ?_
                refine iald hx hb hE.1 hW sh_194 (vp_lit (by decide +kernel)) dX5_passesRound_120 ?_
                refine lv_bipush (v := 40) hx hb dX5_passesRound_121 (by decide) ?_
                refine lv_icmp_ne (tgt := 130) hx hb dX5_passesRound_123 (by decide) (fun h10 => ?_) (fun h10 => ?_)
                · have hf := ifn h10 hf
                  cases hf
                  exact W.vret hx hb hr (fun u hu _ => ⟨⟨rfl, by rw [hu]; exact hW⟩, hS.F hu⟩) hS.2.2 dX5_passesRound_130
                · have hf := ifp h10 hf
                  refine lv_aload_n hx hb dX5_passesRound_126 rfl (lv_at hl 0 rfl) ?_
                  obtain ⟨σ13, u12, hf⟩ := b1_e hf
                  refine mV (k := 193) (q := (5, 0)) (C := RX5) (T := TX5) (N := 14) (ci := 5) (n := 0) (As := []) (rest := []) (c_X5_endsDay l D t b σ8 σ13 u12) sh_193 (by decide) rfl rfl hx hb hml hown hts hE hW hS q1453 q1455 q71 q96 q1456 hy_X5_endsDay ⟨rfl, rfl⟩ ⟨Nat.le_of_ble_eq_true rfl, Nat.le_of_ble_eq_true rfl⟩ rfl rfl hl.1 (Nat.le_of_ble_eq_true rfl) ⟨Nat.zero_le _, Nat.zero_le _⟩ dX5_passesRound_127 (fun H locs hW hS => ?_)
                  cases hf
                  exact W.vret hx hb hr (fun u hu _ => ⟨⟨rfl, by rw [hu]; exact hW⟩, hS.F hu⟩) hS.2.2 dX5_passesRound_130
              · have hf := ifn h7 hf
                refine lv_aload_n hx hb dX5_passesRound_83 rfl (lv_at hl 0 rfl) ?_
                refine lv_iload_n hx hb dX5_passesRound_84 rfl (lv_at hl 2 rfl) ?_
                obtain ⟨y14, u15, hf⟩ := b1_e hf
                refine mV (k := 193) (q := (5, 0)) (C := RX5) (T := TX5) (N := 14) (ci := 5) (n := 1) (As := [.int x2]) (rest := []) (c_X5_isHere l D t b τ x2 y14 u15) sh_193 (by decide) rfl rfl hx hb hml hown hts hE hW hS q1349 q1351 q50 q96 q1352 hy_X5_isHere ⟨rfl, rfl⟩ ⟨Nat.le_of_ble_eq_true rfl, Nat.le_of_ble_eq_true rfl⟩ rfl rfl hl.1 (Nat.le_of_ble_eq_true rfl) ⟨Nat.zero_le _, Nat.zero_le _⟩ dX5_passesRound_85 (fun H locs hW hS => ?_)
                refine lv_if_eq (tgt := 97) hx hb dX5_passesRound_88 (by decide) (fun h16 => ?_) (fun h16 => ?_)
                · have hf := ifp h16 hf
                  refine lv_iinc (v := (x2 + 1)) (lv' := [(2, .int (x2 + 1)), (0, .ref (b + 193)), (1, .int x1)]) hx hb dX5_passesRound_97 hl (k := 2) rfl (by rfl) (by decide) rfl (fun ls hl => ?_)
                  refine lv_goto (tgt := 72) hx hb dX5_passesRound_100 (by decide) ?_
                  exact ih_72 τ x1 (x2 + 1) _ _ _ hf hW hS (lv_sub hl [1, 2, 0] rfl)
                · have hf := ifn h16 hf
                  refine lv_aload_n hx hb dX5_passesRound_91 rfl (lv_at hl 0 rfl) ?_
                  refine lv_iload_n hx hb dX5_passesRound_92 rfl (lv_at hl 2 rfl) ?_
                  refine lv_iload_n hx hb dX5_passesRound_93 rfl (lv_at hl 1 rfl) ?_
                  obtain ⟨σ19, u18, hf⟩ := b1_e hf
                  refine mV (k := 193) (q := (5, 0)) (C := RX5) (T := TX5) (N := 14) (ci := 5) (n := 2) (As := [.int x2, .int x1]) (rest := []) (c_X5_acts l D t b τ x2 x1 σ19 u18) sh_193 (by decide) rfl rfl hx hb hml hown hts hE hW hS q1400 q1402 q60 q96 q1403 hy_X5_acts ⟨rfl, rfl⟩ ⟨Nat.le_of_ble_eq_true rfl, Nat.le_of_ble_eq_true rfl⟩ rfl rfl hl.1 (Nat.le_of_ble_eq_true rfl) ⟨Nat.zero_le _, Nat.zero_le _⟩ dX5_passesRound_94 (fun H locs hW hS => ?_)
                  refine lv_iinc (v := (x2 + 1)) (lv' := [(2, .int (x2 + 1)), (0, .ref (b + 193)), (1, .int x1)]) hx hb dX5_passesRound_97 hl (k := 2) rfl (by rfl) (by decide) rfl (fun ls hl => ?_)
                  refine lv_goto (tgt := 72) hx hb dX5_passesRound_100 (by decide) ?_
                  exact ih_72 σ19 x1 (x2 + 1) _ _ _ hf hW hS (lv_sub hl [1, 2, 0] rfl)
          exact key_72 10000 τ x1 0 _ _ _ hf hW hS (lv_sub hl [1, 2, 0] rfl)
        · have hf := ifn h6 hf
          refine lv_aload_n hx hb dX5_passesRound_57 rfl (lv_at hl 0 rfl) ?_
          refine getM hx hb hta hown hE.1 hW 7 (by decide) q1188 rfl dX5_passesRound_58 ?_
          refine lv_iload_n hx hb dX5_passesRound_61 rfl (lv_at hl 2 rfl) ?_
          refine lv_iconst (v := 0) hx hb dX5_passesRound_62 (by decide) ?_
          obtain ⟨g20, hf⟩ := gd_e hf
          refine iast (k := 199) (i := x2) (x := 0) hx hb hE.1 hW hS sh_199 g20 dX5_passesRound_63 (fun H locs hW hS => ?_)
          obtain ⟨σ21, e22, hf⟩ := st_e hf
          rw [e22] at hW
          refine lv_iinc (v := (x2 + 1)) (lv' := [(2, .int (x2 + 1)), (0, .ref (b + 193)), (1, .int x1)]) hx hb dX5_passesRound_64 hl (k := 2) rfl (by rfl) (by decide) rfl (fun ls hl => ?_)
          refine lv_goto (tgt := 51) hx hb dX5_passesRound_67 (by decide) ?_
          exact ih_51 σ21 x1 (x2 + 1) _ _ _ hf hW hS (lv_sub hl [1, 2, 0] rfl)
    exact key_51 10000 σ y1 0 _ _ _ hf hW hS (lv_sub hl [2, 1, 0] rfl)
  · have hf := ifn h5 hf
    refine lv_aload_n hx hb dX5_passesRound_21 rfl (lv_at hl 1 rfl) ?_
    refine getM hx hb hta hown hE.1 hW 0 (by decide) q1181 rfl dX5_passesRound_22 ?_
    refine lv_bipush (v := 9) hx hb dX5_passesRound_25 (by decide) ?_
    refine iald hx hb hE.1 hW sh_194 (vp_lit (by decide +kernel)) dX5_passesRound_27 ?_
    refine lv_istore_n (lv' := [(2, .int (σ 194 (9 : Int32).toNatClampNeg)), (1, .int y1), (0, .ref (b + 193))]) hx hb dX5_passesRound_28 rfl hl (by decide) rfl (fun ls hl => ?_)
    refine lv_aload_n hx hb dX5_passesRound_29 rfl (lv_at hl 2 rfl) ?_
    refine lv_iconst (v := 5) hx hb dX5_passesRound_30 (by decide) ?_
    refine lv_bipush (v := 7) hx hb dX5_passesRound_31 (by decide) ?_
    refine lv_iload_n hx hb dX5_passesRound_33 rfl (lv_at hl 0 rfl) ?_
    refine lv_imul hx hb dX5_passesRound_34 ?_
    refine lv_bipush (v := 25) hx hb dX5_passesRound_35 (by decide) ?_
    refine lv_irem hx hb dX5_passesRound_37 (by decide) ?_
    refine lv_iadd hx hb dX5_passesRound_38 ?_
    refine lv_iload_n hx hb dX5_passesRound_39 rfl (lv_at hl 0 rfl) ?_
    refine lv_iconst (v := 5) hx hb dX5_passesRound_40 (by decide) ?_
    refine lv_irem hx hb dX5_passesRound_41 (by decide) ?_
    refine lv_iload_n hx hb dX5_passesRound_42 rfl (lv_at hl 0 rfl) ?_
    refine lv_iconst (v := 4) hx hb dX5_passesRound_43 (by decide) ?_
    refine lv_irem hx hb dX5_passesRound_44 (by decide) ?_
    obtain ⟨y23, σ25, u24, hf⟩ := b2_e hf
    refine mV (k := 193) (q := (5, 0)) (C := RX5) (T := TX5) (N := 14) (ci := 5) (n := 3) (As := [.int (5 + ((7 * (σ 194 (9 : Int32).toNatClampNeg)) - (7 * (σ 194 (9 : Int32).toNatClampNeg)) / 25 * 25)), .int ((σ 194 (9 : Int32).toNatClampNeg) - (σ 194 (9 : Int32).toNatClampNeg) / 5 * 5), .int ((σ 194 (9 : Int32).toNatClampNeg) - (σ 194 (9 : Int32).toNatClampNeg) / 4 * 4)]) (rest := []) (c_X5_comes l D t b σ (5 + ((7 * (σ 194 (9 : Int32).toNatClampNeg)) - (7 * (σ 194 (9 : Int32).toNatClampNeg)) / 25 * 25)) ((σ 194 (9 : Int32).toNatClampNeg) - (σ 194 (9 : Int32).toNatClampNeg) / 5 * 5) ((σ 194 (9 : Int32).toNatClampNeg) - (σ 194 (9 : Int32).toNatClampNeg) / 4 * 4) y23 σ25 u24) sh_193 (by decide) rfl rfl hx hb hml hown hts hE hW hS q1357 q1359 q52 q96 q1360 hy_X5_comes ⟨rfl, rfl⟩ ⟨Nat.le_of_ble_eq_true rfl, Nat.le_of_ble_eq_true rfl⟩ rfl rfl hl.1 (Nat.le_of_ble_eq_true rfl) ⟨Nat.zero_le _, Nat.zero_le _⟩ dX5_passesRound_45 (fun H locs hW hS => ?_)
    refine lv_pop hx hb dX5_passesRound_48 rfl ?_
    refine lv_iconst (v := 0) hx hb dX5_passesRound_49 (by decide) ?_
    refine lv_istore_n (lv' := [(2, .int 0), (1, .int y1), (0, .ref (b + 193))]) hx hb dX5_passesRound_50 rfl hl (by decide) rfl (fun ls hl => ?_)
    have key_51 : ∀ (n : Nat) (τ : Sg) (x1 : Int32) (x2 : Int32) (H : Heap) (locs : List Loc) (ls : Array Slot), l_X5_passesRound_51 n τ x1 x2 = some σr → wd D t b τ H → va_S (geA b) s.heap H locs → lv_has ls 3 [(0, .ref (b + 193)), (1, .int x1), (2, .int x2)] → W p l e (headSpec (Cond.code yX5_passesRound cX5_passesRound 3 none :: ALL) ({ frames := 6, cells := 0, slots := 0, locals := 136 })).room s m (([.ref (b + 193)] : List Value).toArray) below meth c H locs 0 0 (MQ below (QG D t b σr none) (([.ref (b + 193)] : List Value).toArray) s 0 0 (geA b)) (F0 m 51 ls []) := by
      intro n
      induction n with
      | zero =>
        intro τ x1 x2 H locs ls hf
        rw [l_X5_passesRound_51.eq_1] at hf
        cases hf
      | succ n ih_51 =>
        intro τ x1 x2 H locs ls hf hW hS hl
        rw [l_X5_passesRound_51.eq_2] at hf
        refine lv_iload_n hx hb dX5_passesRound_51 rfl (lv_at hl 2 rfl) ?_
        refine lv_bipush (v := 7) hx hb dX5_passesRound_52 (by decide) ?_
        refine lv_icmp_ge (tgt := 70) hx hb dX5_passesRound_54 (by decide) (fun h26 => ?_) (fun h26 => ?_)
        · have hf := ifp h26 hf
          refine lv_iconst (v := 0) hx hb dX5_passesRound_70 (by decide) ?_
          refine lv_istore_n (lv' := [(2, .int 0), (0, .ref (b + 193)), (1, .int x1)]) hx hb dX5_passesRound_71 rfl hl (by decide) rfl (fun ls hl => ?_)
          have key_72 : ∀ (m9 : Nat) (τ : Sg) (x1 : Int32) (x2 : Int32) (H : Heap) (locs : List Loc) (ls : Array Slot), l_X5_passesRound_72 (fun τ x1 x2 => l_X5_passesRound_51 n τ x1 x2) m9 τ x1 x2 = some σr → wd D t b τ H → va_S (geA b) s.heap H locs → lv_has ls 3 [(0, .ref (b + 193)), (1, .int x1), (2, .int x2)] → W p l e (headSpec (Cond.code yX5_passesRound cX5_passesRound 3 none :: ALL) ({ frames := 6, cells := 0, slots := 0, locals := 136 })).room s m (([.ref (b + 193)] : List Value).toArray) below meth c H locs 0 0 (MQ below (QG D t b σr none) (([.ref (b + 193)] : List Value).toArray) s 0 0 (geA b)) (F0 m 72 ls []) := by
            intro m9
            induction m9 with
            | zero =>
              intro τ x1 x2 H locs ls hf
              rw [l_X5_passesRound_72.eq_1] at hf
              cases hf
            | succ m9 ih_72 =>
              intro τ x1 x2 H locs ls hf hW hS hl
              rw [l_X5_passesRound_72.eq_2] at hf
              refine lv_iload_n hx hb dX5_passesRound_72 rfl (lv_at hl 2 rfl) ?_
              refine lv_aload_n hx hb dX5_passesRound_73 rfl (lv_at hl 0 rfl) ?_
              refine getM hx hb hta hown hE.1 hW 0 (by decide) q1181 rfl dX5_passesRound_74 ?_
              refine lv_bipush (v := 9) hx hb dX5_passesRound_77 (by decide) ?_
              refine iald hx hb hE.1 hW sh_194 (vp_lit (by decide +kernel)) dX5_passesRound_79 ?_
              refine lv_icmp_ge (tgt := 103) hx hb dX5_passesRound_80 (by decide) (fun h27 => ?_) (fun h27 => ?_)
              · have hf := ifp h27 hf
                refine lv_aload_n hx hb dX5_passesRound_103 rfl (lv_at hl 0 rfl) ?_
                refine getM hx hb hta hown hE.1 hW 0 (by decide) q1181 rfl dX5_passesRound_104 ?_
                refine lv_bipush (v := 7) hx hb dX5_passesRound_107 (by decide) ?_
                refine lv_dup2_11 hx hb dX5_passesRound_109 rfl rfl ?_
                refine iald hx hb hE.1 hW sh_194 (vp_lit (by decide +kernel)) dX5_passesRound_110 ?_
                refine lv_iconst (v := 1) hx hb dX5_passesRound_111 (by decide) ?_
                refine lv_iadd hx hb dX5_passesRound_112 ?_
                refine iast (k := 194) (i := 7) (x := ((τ 194 (7 : Int32).toNatClampNeg) + 1)) hx hb hE.1 hW hS sh_194 (vp_lit (by decide +kernel)) dX5_passesRound_113 (fun H locs hW hS => ?_)
                obtain ⟨σ28, e29, hf⟩ := st_e hf
                rw [e29] at hW
                refine lv_aload_n hx hb dX5_passesRound_114 rfl (lv_at hl 0 rfl) ?_
                refine getM hx hb hta hown hE.1 hW 0 (by decide) q1181 rfl dX5_passesRound_115 ?_
                refine lv_bipush (v := 7) hx hb dX5_passesRound_118 (by decide) ?_
                refine iald hx hb hE.1 hW sh_194 (vp_lit (by decide +kernel)) dX5_passesRound_120 ?_
                refine lv_bipush (v := 40) hx hb dX5_passesRound_121 (by decide) ?_
                refine lv_icmp_ne (tgt := 130) hx hb dX5_passesRound_123 (by decide) (fun h30 => ?_) (fun h30 => ?_)
                · have hf := ifn h30 hf
                  cases hf
                  exact W.vret hx hb hr (fun u hu _ => ⟨⟨rfl, by rw [hu]; exact hW⟩, hS.F hu⟩) hS.2.2 dX5_passesRound_130
                · have hf := ifp h30 hf
                  refine lv_aload_n hx hb dX5_passesRound_126 rfl (lv_at hl 0 rfl) ?_
                  obtain ⟨σ33, u32, hf⟩ := b1_e hf
                  refine mV (k := 193) (q := (5, 0)) (C := RX5) (T := TX5) (N := 14) (ci := 5) (n := 0) (As := []) (rest := []) (c_X5_endsDay l D t b σ28 σ33 u32) sh_193 (by decide) rfl rfl hx hb hml hown hts hE hW hS q1453 q1455 q71 q96 q1456 hy_X5_endsDay ⟨rfl, rfl⟩ ⟨Nat.le_of_ble_eq_true rfl, Nat.le_of_ble_eq_true rfl⟩ rfl rfl hl.1 (Nat.le_of_ble_eq_true rfl) ⟨Nat.zero_le _, Nat.zero_le _⟩ dX5_passesRound_127 (fun H locs hW hS => ?_)
                  cases hf
                  exact W.vret hx hb hr (fun u hu _ => ⟨⟨rfl, by rw [hu]; exact hW⟩, hS.F hu⟩) hS.2.2 dX5_passesRound_130
              · have hf := ifn h27 hf
                refine lv_aload_n hx hb dX5_passesRound_83 rfl (lv_at hl 0 rfl) ?_
                refine lv_iload_n hx hb dX5_passesRound_84 rfl (lv_at hl 2 rfl) ?_
                obtain ⟨y34, u35, hf⟩ := b1_e hf
                refine mV (k := 193) (q := (5, 0)) (C := RX5) (T := TX5) (N := 14) (ci := 5) (n := 1) (As := [.int x2]) (rest := []) (c_X5_isHere l D t b τ x2 y34 u35) sh_193 (by decide) rfl rfl hx hb hml hown hts hE hW hS q1349 q1351 q50 q96 q1352 hy_X5_isHere ⟨rfl, rfl⟩ ⟨Nat.le_of_ble_eq_true rfl, Nat.le_of_ble_eq_true rfl⟩ rfl rfl hl.1 (Nat.le_of_ble_eq_true rfl) ⟨Nat.zero_le _, Nat.zero_le _⟩ dX5_passesRound_85 (fun H locs hW hS => ?_)
                refine lv_if_eq (tgt := 97) hx hb dX5_passesRound_88 (by decide) (fun h36 => ?_) (fun h36 => ?_)
                · have hf := ifp h36 hf
                  refine lv_iinc (v := (x2 + 1)) (lv' := [(2, .int (x2 + 1)), (0, .ref (b + 193)), (1, .int x1)]) hx hb dX5_passesRound_97 hl (k := 2) rfl (by rfl) (by decide) rfl (fun ls hl => ?_)
                  refine lv_goto (tgt := 72) hx hb dX5_passesRound_100 (by decide) ?_
                  exact ih_72 τ x1 (x2 + 1) _ _ _ hf hW hS (lv_sub hl [1, 2, 0] rfl)
                · have hf := ifn h36 hf
                  refine lv_aload_n hx hb dX5_passesRound_91 rfl (lv_at hl 0 rfl) ?_
                  refine lv_iload_n hx hb dX5_passesRound_92 rfl (lv_at hl 2 rfl) ?_
                  refine lv_iload_n hx hb dX5_passesRound_93 rfl (lv_at hl 1 rfl) ?_
                  obtain ⟨σ39, u38, hf⟩ := b1_e hf
                  refine mV (k := 193) (q := (5, 0)) (C := RX5) (T := TX5) (N := 14) (ci := 5) (n := 2) (As := [.int x2, .int x1]) (rest := []) (c_X5_acts l D t b τ x2 x1 σ39 u38) sh_193 (by decide) rfl rfl hx hb hml hown hts hE hW hS q1400 q1402 q60 q96 q1403 hy_X5_acts ⟨rfl, rfl⟩ ⟨Nat.le_of_ble_eq_true rfl, Nat.le_of_ble_eq_true rfl⟩ rfl rfl hl.1 (Nat.le_of_ble_eq_true rfl) ⟨Nat.zero_le _, Nat.zero_le _⟩ dX5_passesRound_94 (fun H locs hW hS => ?_)
                  refine lv_iinc (v := (x2 + 1)) (lv' := [(2, .int (x2 + 1)), (0, .ref (b + 193)), (1, .int x1)]) hx hb dX5_passesRound_97 hl (k := 2) rfl (by rfl) (by decide) rfl (fun ls hl => ?_)
                  refine lv_goto (tgt := 72) hx hb dX5_passesRound_100 (by decide) ?_
                  exact ih_72 σ39 x1 (x2 + 1) _ _ _ hf hW hS (lv_sub hl [1, 2, 0] rfl)
          exact key_72 10000 τ x1 0 _ _ _ hf hW hS (lv_sub hl [1, 2, 0] rfl)
        · have hf := ifn h26 hf
          refine lv_aload_n hx hb dX5_passesRound_57 rfl (lv_at hl 0 rfl) ?_
          refine getM hx hb hta hown hE.1 hW 7 (by decide) q1188 rfl dX5_passesRound_58 ?_
          refine lv_iload_n hx hb dX5_passesRound_61 rfl (lv_at hl 2 rfl) ?_
          refine lv_iconst (v := 0) hx hb dX5_passesRound_62 (by decide) ?_
          obtain ⟨g40, hf⟩ := gd_e hf
          refine iast (k := 199) (i := x2) (x := 0) hx hb hE.1 hW hS sh_199 g40 dX5_passesRound_63 (fun H locs hW hS => ?_)
          obtain ⟨σ41, e42, hf⟩ := st_e hf
          rw [e42] at hW
          refine lv_iinc (v := (x2 + 1)) (lv' := [(2, .int (x2 + 1)), (0, .ref (b + 193)), (1, .int x1)]) hx hb dX5_passesRound_64 hl (k := 2) rfl (by rfl) (by decide) rfl (fun ls hl => ?_)
          refine lv_goto (tgt := 51) hx hb dX5_passesRound_67 (by decide) ?_
          exact ih_51 σ41 x1 (x2 + 1) _ _ _ hf hW hS (lv_sub hl [1, 2, 0] rfl)
    exact key_51 10000 σ25 y1 0 _ _ _ hf hW hS (lv_sub hl [2, 1, 0] rfl)

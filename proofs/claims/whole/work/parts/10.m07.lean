def f_X5_purseOf (σ : Sg) (p1 : Int32) : Option (Int32 × Sg) := b2 (f_X5_tellsOf σ p1 0) fun y1 σ3 => some (y1, σ3)
set_option maxHeartbeats 4000000 in
set_option maxRecDepth 100000 in
theorem c_X5_purseOf (l : Launch) (D : va_G) (t : Nat → ClassId) (b : Nat) (σ : Sg) (p1 : Int32) (r : Int32) (σr : Sg) (hf : f_X5_purseOf σ p1 = some (r, σr)) : Met l yX5_purseOf (Cond.code yX5_purseOf cX5_purseOf 2 (some .int) :: ALL) ({ frames := 3, cells := 0, slots := 0, locals := 65 }) (PM D t b σ [.ref (b + 193), .int p1]) (QG D t b σr (some (.int r))) 0 0 (geA b) := by
  refine Met.ofW (cc := cX5_purseOf) (maxL := 2) (ret := (some .int)) (by decide) rfl ?_
  intro p e s m args below meth c s₁ B hml hv
  obtain ⟨rfl, hW, hE⟩ := hv
  have hx := B.exec
  have hb := B.bytes
  have hr := B.returns
  have hts := atoms_spec (ws := Cond.code yX5_purseOf cX5_purseOf 2 (some .int) :: ALL) B.pre
  have hta := fun w h => hts w (List.mem_cons_of_mem _ h)
  have hown : s.vm.findClass RX5 = some m.cls := findClass_of_methodNamed B.named
  have hlocks := B.notSynchronized
  have hS : va_S (geA b) s.heap s.heap [] := va_S.rf
  have hl := lv_entry ([.ref (b + 193), .int p1]) (n := 2) (Nat.le_of_ble_eq_true rfl)
  rw [lg_entry_eq]
  generalize (lg_sl ([.ref (b + 193), .int p1]) ++ List.replicate (2 - (lg_sl ([.ref (b + 193), .int p1])).length) Slot.unset).toArray = ls at hl ⊢
  have hl : lv_has ls 2 [(0, .ref (b + 193)), (1, .int p1)] := hl
  unfold f_X5_purseOf at hf
  refine lv_aload_n hx hb dX5_purseOf_0 rfl (lv_at hl 0 rfl) ?_
  refine lv_iload_n hx hb dX5_purseOf_1 rfl (lv_at hl 1 rfl) ?_
  refine lv_iconst (v := 0) hx hb dX5_purseOf_2 (by decide) ?_
  obtain ⟨y1, σ3, u2, hf⟩ := b2_e hf
  refine mV (k := 193) (q := (5, 0)) (C := RX5) (T := TX5) (N := 14) (ci := 5) (n := 2) (As := [.int p1, .int 0]) (rest := []) (c_X5_tellsOf l D t b σ p1 0 y1 σ3 u2) sh_193 (by decide) rfl rfl hx hb hml hown hts hE hW hS q1612 q1614 q85 q96 q1615 hy_X5_tellsOf ⟨rfl, rfl⟩ ⟨Nat.le_of_ble_eq_true rfl, Nat.le_of_ble_eq_true rfl⟩ rfl rfl hl.1 (Nat.le_of_ble_eq_true rfl) ⟨Nat.zero_le _, Nat.zero_le _⟩ dX5_purseOf_3 (fun H locs hW hS => ?_)
  cases hf
  exact W.iret hx hb hr (fun u hu _ => ⟨⟨rfl, by rw [hu]; exact hW⟩, hS.F hu⟩) hS.2.2 dX5_purseOf_6
def f_X5_moodOf (σ : Sg) (p1 : Int32) : Option (Int32 × Sg) := b2 (f_X5_tellsOf σ p1 1) fun y1 σ3 => some (y1, σ3)
set_option maxHeartbeats 4000000 in
set_option maxRecDepth 100000 in
theorem c_X5_moodOf (l : Launch) (D : va_G) (t : Nat → ClassId) (b : Nat) (σ : Sg) (p1 : Int32) (r : Int32) (σr : Sg) (hf : f_X5_moodOf σ p1 = some (r, σr)) : Met l yX5_moodOf (Cond.code yX5_moodOf cX5_moodOf 2 (some .int) :: ALL) ({ frames := 3, cells := 0, slots := 0, locals := 65 }) (PM D t b σ [.ref (b + 193), .int p1]) (QG D t b σr (some (.int r))) 0 0 (geA b) := by
  refine Met.ofW (cc := cX5_moodOf) (maxL := 2) (ret := (some .int)) (by decide) rfl ?_
  intro p e s m args below meth c s₁ B hml hv
  obtain ⟨rfl, hW, hE⟩ := hv
  have hx := B.exec
  have hb := B.bytes
  have hr := B.returns
  have hts := atoms_spec (ws := Cond.code yX5_moodOf cX5_moodOf 2 (some .int) :: ALL) B.pre
  have hta := fun w h => hts w (List.mem_cons_of_mem _ h)
  have hown : s.vm.findClass RX5 = some m.cls := findClass_of_methodNamed B.named
  have hlocks := B.notSynchronized
  have hS : va_S (geA b) s.heap s.heap [] := va_S.rf
  have hl := lv_entry ([.ref (b + 193), .int p1]) (n := 2) (Nat.le_of_ble_eq_true rfl)
  rw [lg_entry_eq]
  generalize (lg_sl ([.ref (b + 193), .int p1]) ++ List.replicate (2 - (lg_sl ([.ref (b + 193), .int p1])).length) Slot.unset).toArray = ls at hl ⊢
  have hl : lv_has ls 2 [(0, .ref (b + 193)), (1, .int p1)] := hl
  unfold f_X5_moodOf at hf
  refine lv_aload_n hx hb dX5_moodOf_0 rfl (lv_at hl 0 rfl) ?_
  refine lv_iload_n hx hb dX5_moodOf_1 rfl (lv_at hl 1 rfl) ?_
  refine lv_iconst (v := 1) hx hb dX5_moodOf_2 (by decide) ?_
  obtain ⟨y1, σ3, u2, hf⟩ := b2_e hf
  refine mV (k := 193) (q := (5, 0)) (C := RX5) (T := TX5) (N := 14) (ci := 5) (n := 2) (As := [.int p1, .int 1]) (rest := []) (c_X5_tellsOf l D t b σ p1 1 y1 σ3 u2) sh_193 (by decide) rfl rfl hx hb hml hown hts hE hW hS q1612 q1614 q85 q96 q1615 hy_X5_tellsOf ⟨rfl, rfl⟩ ⟨Nat.le_of_ble_eq_true rfl, Nat.le_of_ble_eq_true rfl⟩ rfl rfl hl.1 (Nat.le_of_ble_eq_true rfl) ⟨Nat.zero_le _, Nat.zero_le _⟩ dX5_moodOf_3 (fun H locs hW hS => ?_)
  cases hf
  exact W.iret hx hb hr (fun u hu _ => ⟨⟨rfl, by rw [hu]; exact hW⟩, hS.F hu⟩) hS.2.2 dX5_moodOf_6
def f_X5_placeOf (σ : Sg) (p1 : Int32) : Option (Int32 × Sg) := b2 (f_X5_tellsOf σ p1 4) fun y1 σ3 => some (y1, σ3)
set_option maxHeartbeats 4000000 in
set_option maxRecDepth 100000 in
theorem c_X5_placeOf (l : Launch) (D : va_G) (t : Nat → ClassId) (b : Nat) (σ : Sg) (p1 : Int32) (r : Int32) (σr : Sg) (hf : f_X5_placeOf σ p1 = some (r, σr)) : Met l yX5_placeOf (Cond.code yX5_placeOf cX5_placeOf 2 (some .int) :: ALL) ({ frames := 3, cells := 0, slots := 0, locals := 65 }) (PM D t b σ [.ref (b + 193), .int p1]) (QG D t b σr (some (.int r))) 0 0 (geA b) := by
  refine Met.ofW (cc := cX5_placeOf) (maxL := 2) (ret := (some .int)) (by decide) rfl ?_
  intro p e s m args below meth c s₁ B hml hv
  obtain ⟨rfl, hW, hE⟩ := hv
  have hx := B.exec
  have hb := B.bytes
  have hr := B.returns
  have hts := atoms_spec (ws := Cond.code yX5_placeOf cX5_placeOf 2 (some .int) :: ALL) B.pre
  have hta := fun w h => hts w (List.mem_cons_of_mem _ h)
  have hown : s.vm.findClass RX5 = some m.cls := findClass_of_methodNamed B.named
  have hlocks := B.notSynchronized
  have hS : va_S (geA b) s.heap s.heap [] := va_S.rf
  have hl := lv_entry ([.ref (b + 193), .int p1]) (n := 2) (Nat.le_of_ble_eq_true rfl)
  rw [lg_entry_eq]
  generalize (lg_sl ([.ref (b + 193), .int p1]) ++ List.replicate (2 - (lg_sl ([.ref (b + 193), .int p1])).length) Slot.unset).toArray = ls at hl ⊢
  have hl : lv_has ls 2 [(0, .ref (b + 193)), (1, .int p1)] := hl
  unfold f_X5_placeOf at hf
  refine lv_aload_n hx hb dX5_placeOf_0 rfl (lv_at hl 0 rfl) ?_
  refine lv_iload_n hx hb dX5_placeOf_1 rfl (lv_at hl 1 rfl) ?_
  refine lv_iconst (v := 4) hx hb dX5_placeOf_2 (by decide) ?_
  obtain ⟨y1, σ3, u2, hf⟩ := b2_e hf
  refine mV (k := 193) (q := (5, 0)) (C := RX5) (T := TX5) (N := 14) (ci := 5) (n := 2) (As := [.int p1, .int 4]) (rest := []) (c_X5_tellsOf l D t b σ p1 4 y1 σ3 u2) sh_193 (by decide) rfl rfl hx hb hml hown hts hE hW hS q1612 q1614 q85 q96 q1615 hy_X5_tellsOf ⟨rfl, rfl⟩ ⟨Nat.le_of_ble_eq_true rfl, Nat.le_of_ble_eq_true rfl⟩ rfl rfl hl.1 (Nat.le_of_ble_eq_true rfl) ⟨Nat.zero_le _, Nat.zero_le _⟩ dX5_placeOf_3 (fun H locs hW hS => ?_)
  cases hf
  exact W.iret hx hb hr (fun u hu _ => ⟨⟨rfl, by rw [hu]; exact hW⟩, hS.F hu⟩) hS.2.2 dX5_placeOf_6
def f_X5_isHomeward (σ : Sg) (p1 : Int32) : Option (Int32 × Sg) := b2 (f_X5_tellsOf σ p1 5) fun y1 σ3 => if y1 = 1 then (some (1, σ3)) else (some (0, σ3))
set_option maxHeartbeats 4000000 in
set_option maxRecDepth 100000 in
theorem c_X5_isHomeward (l : Launch) (D : va_G) (t : Nat → ClassId) (b : Nat) (σ : Sg) (p1 : Int32) (r : Int32) (σr : Sg) (hf : f_X5_isHomeward σ p1 = some (r, σr)) : Met l yX5_isHomeward (Cond.code yX5_isHomeward cX5_isHomeward 2 (some .boolean) :: ALL) ({ frames := 3, cells := 0, slots := 0, locals := 65 }) (PM D t b σ [.ref (b + 193), .int p1]) (QG D t b σr (some (.int r))) 0 0 (geA b) := by
  refine Met.ofW (cc := cX5_isHomeward) (maxL := 2) (ret := (some .boolean)) (by decide) rfl ?_
  intro p e s m args below meth c s₁ B hml hv
  obtain ⟨rfl, hW, hE⟩ := hv
  have hx := B.exec
  have hb := B.bytes
  have hr := B.returns
  have hts := atoms_spec (ws := Cond.code yX5_isHomeward cX5_isHomeward 2 (some .boolean) :: ALL) B.pre
  have hta := fun w h => hts w (List.mem_cons_of_mem _ h)
  have hown : s.vm.findClass RX5 = some m.cls := findClass_of_methodNamed B.named
  have hlocks := B.notSynchronized
  have hS : va_S (geA b) s.heap s.heap [] := va_S.rf
  have hl := lv_entry ([.ref (b + 193), .int p1]) (n := 2) (Nat.le_of_ble_eq_true rfl)
  rw [lg_entry_eq]
  generalize (lg_sl ([.ref (b + 193), .int p1]) ++ List.replicate (2 - (lg_sl ([.ref (b + 193), .int p1])).length) Slot.unset).toArray = ls at hl ⊢
  have hl : lv_has ls 2 [(0, .ref (b + 193)), (1, .int p1)] := hl
  unfold f_X5_isHomeward at hf
  refine lv_aload_n hx hb dX5_isHomeward_0 rfl (lv_at hl 0 rfl) ?_
  refine lv_iload_n hx hb dX5_isHomeward_1 rfl (lv_at hl 1 rfl) ?_
  refine lv_iconst (v := 5) hx hb dX5_isHomeward_2 (by decide) ?_
  obtain ⟨y1, σ3, u2, hf⟩ := b2_e hf
  refine mV (k := 193) (q := (5, 0)) (C := RX5) (T := TX5) (N := 14) (ci := 5) (n := 2) (As := [.int p1, .int 5]) (rest := []) (c_X5_tellsOf l D t b σ p1 5 y1 σ3 u2) sh_193 (by decide) rfl rfl hx hb hml hown hts hE hW hS q1612 q1614 q85 q96 q1615 hy_X5_tellsOf ⟨rfl, rfl⟩ ⟨Nat.le_of_ble_eq_true rfl, Nat.le_of_ble_eq_true rfl⟩ rfl rfl hl.1 (Nat.le_of_ble_eq_true rfl) ⟨Nat.zero_le _, Nat.zero_le _⟩ dX5_isHomeward_3 (fun H locs hW hS => ?_)
  refine lv_iconst (v := 1) hx hb dX5_isHomeward_6 (by decide) ?_
  refine lv_icmp_ne (tgt := 14) hx hb dX5_isHomeward_7 (by decide) (fun h4 => ?_) (fun h4 => ?_)
  · have hf := ifn h4 hf
    refine lv_iconst (v := 0) hx hb dX5_isHomeward_14 (by decide) ?_
    cases hf
    exact W.zret (ty := .boolean) hx hb hr (by decide) (fun u hu _ => ⟨⟨rfl, by rw [hu]; exact hW⟩, hS.F hu⟩) hS.2.2 dX5_isHomeward_15
  · have hf := ifp h4 hf
    refine lv_iconst (v := 1) hx hb dX5_isHomeward_10 (by decide) ?_
    refine lv_goto (tgt := 15) hx hb dX5_isHomeward_11 (by decide) ?_
    cases hf
    exact W.zret (ty := .boolean) hx hb hr (by decide) (fun u hu _ => ⟨⟨rfl, by rw [hu]; exact hW⟩, hS.F hu⟩) hS.2.2 dX5_isHomeward_15
def f_X5_prizesOf (σ : Sg) (p1 : Int32) : Option (Int32 × Sg) := b2 (f_X5_tellsOf σ p1 7) fun y1 σ3 => some (y1, σ3)
set_option maxHeartbeats 4000000 in
set_option maxRecDepth 100000 in
theorem c_X5_prizesOf (l : Launch) (D : va_G) (t : Nat → ClassId) (b : Nat) (σ : Sg) (p1 : Int32) (r : Int32) (σr : Sg) (hf : f_X5_prizesOf σ p1 = some (r, σr)) : Met l yX5_prizesOf (Cond.code yX5_prizesOf cX5_prizesOf 2 (some .int) :: ALL) ({ frames := 3, cells := 0, slots := 0, locals := 65 }) (PM D t b σ [.ref (b + 193), .int p1]) (QG D t b σr (some (.int r))) 0 0 (geA b) := by
  refine Met.ofW (cc := cX5_prizesOf) (maxL := 2) (ret := (some .int)) (by decide) rfl ?_
  intro p e s m args below meth c s₁ B hml hv
  obtain ⟨rfl, hW, hE⟩ := hv
  have hx := B.exec
  have hb := B.bytes
  have hr := B.returns
  have hts := atoms_spec (ws := Cond.code yX5_prizesOf cX5_prizesOf 2 (some .int) :: ALL) B.pre
  have hta := fun w h => hts w (List.mem_cons_of_mem _ h)
  have hown : s.vm.findClass RX5 = some m.cls := findClass_of_methodNamed B.named
  have hlocks := B.notSynchronized
  have hS : va_S (geA b) s.heap s.heap [] := va_S.rf
  have hl := lv_entry ([.ref (b + 193), .int p1]) (n := 2) (Nat.le_of_ble_eq_true rfl)
  rw [lg_entry_eq]
  generalize (lg_sl ([.ref (b + 193), .int p1]) ++ List.replicate (2 - (lg_sl ([.ref (b + 193), .int p1])).length) Slot.unset).toArray = ls at hl ⊢
  have hl : lv_has ls 2 [(0, .ref (b + 193)), (1, .int p1)] := hl
  unfold f_X5_prizesOf at hf
  refine lv_aload_n hx hb dX5_prizesOf_0 rfl (lv_at hl 0 rfl) ?_
  refine lv_iload_n hx hb dX5_prizesOf_1 rfl (lv_at hl 1 rfl) ?_
  refine lv_bipush (v := 7) hx hb dX5_prizesOf_2 (by decide) ?_
  obtain ⟨y1, σ3, u2, hf⟩ := b2_e hf
  refine mV (k := 193) (q := (5, 0)) (C := RX5) (T := TX5) (N := 14) (ci := 5) (n := 2) (As := [.int p1, .int 7]) (rest := []) (c_X5_tellsOf l D t b σ p1 7 y1 σ3 u2) sh_193 (by decide) rfl rfl hx hb hml hown hts hE hW hS q1612 q1614 q85 q96 q1615 hy_X5_tellsOf ⟨rfl, rfl⟩ ⟨Nat.le_of_ble_eq_true rfl, Nat.le_of_ble_eq_true rfl⟩ rfl rfl hl.1 (Nat.le_of_ble_eq_true rfl) ⟨Nat.zero_le _, Nat.zero_le _⟩ dX5_prizesOf_4 (fun H locs hW hS => ?_)
  cases hf
  exact W.iret hx hb hr (fun u hu _ => ⟨⟨rfl, by rw [hu]; exact hW⟩, hS.F hu⟩) hS.2.2 dX5_prizesOf_7
def f_X5_reason (σ : Sg) (p1 : Int32) : Option Int32 := b1 (f_X5_isHere σ p1) fun y1 => if y1 = 0 then (some 1) else (b1 (f_X5_of σ p1 4) fun y4 => b1 (f_X5_openOn σ y4) fun y6 => if y6 = (-1) then (some 2) else (b1 (f_X5_of σ p1 0) fun y9 => b1 (f_X5_its σ y6 2) fun y11 => if y11 ≤ y9 then (b1 (f_X5_of σ p1 6) fun y14 => if y14 < 2 then (b1 (f_X5_likes σ p1 y6) fun y17 => if y17 = 0 then (some 5) else (some 0)) else (some 4)) else (some 3)))
set_option maxHeartbeats 4000000 in
set_option maxRecDepth 100000 in
theorem c_X5_reason (l : Launch) (D : va_G) (t : Nat → ClassId) (b : Nat) (σ : Sg) (p1 : Int32) (r : Int32) (hf : f_X5_reason σ p1 = some r) : Met l yX5_reason (Cond.code yX5_reason cX5_reason 3 (some .int) :: ALL) ({ frames := 3, cells := 0, slots := 0, locals := 66 }) (PM D t b σ [.ref (b + 193), .int p1]) (QG D t b σ (some (.int r))) 0 0 (geA b) := by
  refine Met.ofW (cc := cX5_reason) (maxL := 3) (ret := (some .int)) (by decide) rfl ?_
  intro p e s m args below meth c s₁ B hml hv
  obtain ⟨rfl, hW, hE⟩ := hv
  have hx := B.exec
  have hb := B.bytes
  have hr := B.returns
  have hts := atoms_spec (ws := Cond.code yX5_reason cX5_reason 3 (some .int) :: ALL) B.pre
  have hta := fun w h => hts w (List.mem_cons_of_mem _ h)
  have hown : s.vm.findClass RX5 = some m.cls := findClass_of_methodNamed B.named
  have hlocks := B.notSynchronized
  have hS : va_S (geA b) s.heap s.heap [] := va_S.rf
  have hl := lv_entry ([.ref (b + 193), .int p1]) (n := 3) (Nat.le_of_ble_eq_true rfl)
  rw [lg_entry_eq]
  generalize (lg_sl ([.ref (b + 193), .int p1]) ++ List.replicate (3 - (lg_sl ([.ref (b + 193), .int p1])).length) Slot.unset).toArray = ls at hl ⊢
  have hl : lv_has ls 3 [(0, .ref (b + 193)), (1, .int p1)] := hl
  unfold f_X5_reason at hf
  refine lv_aload_n hx hb dX5_reason_0 rfl (lv_at hl 0 rfl) ?_
  refine lv_iload_n hx hb dX5_reason_1 rfl (lv_at hl 1 rfl) ?_
  obtain ⟨y1, u2, hf⟩ := b1_e hf
  refine mV (k := 193) (q := (5, 0)) (C := RX5) (T := TX5) (N := 14) (ci := 5) (n := 1) (As := [.int p1]) (rest := []) (c_X5_isHere l D t b σ p1 y1 u2) sh_193 (by decide) rfl rfl hx hb hml hown hts hE hW hS q1349 q1351 q50 q96 q1352 hy_X5_isHere ⟨rfl, rfl⟩ ⟨Nat.le_of_ble_eq_true rfl, Nat.le_of_ble_eq_true rfl⟩ rfl rfl hl.1 (Nat.le_of_ble_eq_true rfl) ⟨Nat.zero_le _, Nat.zero_le _⟩ dX5_reason_2 (fun H locs hW hS => ?_)
  refine lv_if_ne (tgt := 10) hx hb dX5_reason_5 (by decide) (fun h3 => ?_) (fun h3 => ?_)
  · have hf := ifn h3 hf
    refine lv_aload_n hx hb dX5_reason_10 rfl (lv_at hl 0 rfl) ?_
    refine lv_aload_n hx hb dX5_reason_11 rfl (lv_at hl 0 rfl) ?_
    refine lv_iload_n hx hb dX5_reason_12 rfl (lv_at hl 1 rfl) ?_
    refine lv_iconst (v := 4) hx hb dX5_reason_13 (by decide) ?_
    obtain ⟨y4, u5, hf⟩ := b1_e hf
    refine mV (k := 193) (q := (5, 0)) (C := RX5) (T := TX5) (N := 14) (ci := 5) (n := 2) (As := [.int p1, .int 4]) (rest := [.ref (b + 193)]) (c_X5_of l D t b σ p1 4 y4 u5) sh_193 (by decide) rfl rfl hx hb hml hown hts hE hW hS q1353 q1355 q51 q96 q1356 hy_X5_of ⟨rfl, rfl⟩ ⟨Nat.le_of_ble_eq_true rfl, Nat.le_of_ble_eq_true rfl⟩ rfl rfl hl.1 (Nat.le_of_ble_eq_true rfl) ⟨Nat.zero_le _, Nat.zero_le _⟩ dX5_reason_14 (fun H locs hW hS => ?_)
    obtain ⟨y6, u7, hf⟩ := b1_e hf
    refine mV (k := 193) (q := (5, 0)) (C := RX5) (T := TX5) (N := 14) (ci := 5) (n := 1) (As := [.int y4]) (rest := []) (c_X5_openOn l D t b σ y4 y6 u7) sh_193 (by decide) rfl rfl hx hb hml hown hts hE hW hS q1404 q1406 q61 q96 q1407 hy_X5_openOn ⟨rfl, rfl⟩ ⟨Nat.le_of_ble_eq_true rfl, Nat.le_of_ble_eq_true rfl⟩ rfl rfl hl.1 (Nat.le_of_ble_eq_true rfl) ⟨Nat.zero_le _, Nat.zero_le _⟩ dX5_reason_17 (fun H locs hW hS => ?_)
    refine lv_istore_n (lv' := [(2, .int y6), (0, .ref (b + 193)), (1, .int p1)]) hx hb dX5_reason_20 rfl hl (by decide) rfl (fun ls hl => ?_)
    refine lv_iload_n hx hb dX5_reason_21 rfl (lv_at hl 0 rfl) ?_
    refine lv_iconst (v := (-1)) hx hb dX5_reason_22 (by decide) ?_
    refine lv_icmp_ne (tgt := 28) hx hb dX5_reason_23 (by decide) (fun h8 => ?_) (fun h8 => ?_)
    · have hf := ifn h8 hf
      refine lv_aload_n hx hb dX5_reason_28 rfl (lv_at hl 1 rfl) ?_
      refine lv_iload_n hx hb dX5_reason_29 rfl (lv_at hl 2 rfl) ?_
      refine lv_iconst (v := 0) hx hb dX5_reason_30 (by decide) ?_
      obtain ⟨y9, u10, hf⟩ := b1_e hf
      refine mV (k := 193) (q := (5, 0)) (C := RX5) (T := TX5) (N := 14) (ci := 5) (n := 2) (As := [.int p1, .int 0]) (rest := []) (c_X5_of l D t b σ p1 0 y9 u10) sh_193 (by decide) rfl rfl hx hb hml hown hts hE hW hS q1353 q1355 q51 q96 q1356 hy_X5_of ⟨rfl, rfl⟩ ⟨Nat.le_of_ble_eq_true rfl, Nat.le_of_ble_eq_true rfl⟩ rfl rfl hl.1 (Nat.le_of_ble_eq_true rfl) ⟨Nat.zero_le _, Nat.zero_le _⟩ dX5_reason_31 (fun H locs hW hS => ?_)
      refine lv_aload_n hx hb dX5_reason_34 rfl (lv_at hl 1 rfl) ?_
      refine lv_iload_n hx hb dX5_reason_35 rfl (lv_at hl 0 rfl) ?_
      refine lv_iconst (v := 2) hx hb dX5_reason_36 (by decide) ?_
      obtain ⟨y11, u12, hf⟩ := b1_e hf
      refine mV (k := 193) (q := (5, 0)) (C := RX5) (T := TX5) (N := 14) (ci := 5) (n := 2) (As := [.int y6, .int 2]) (rest := [.int y9]) (c_X5_its l D t b σ y6 2 y11 u12) sh_193 (by decide) rfl rfl hx hb hml hown hts hE hW hS q1252 q1254 q35 q96 q1255 hy_X5_its ⟨rfl, rfl⟩ ⟨Nat.le_of_ble_eq_true rfl, Nat.le_of_ble_eq_true rfl⟩ rfl rfl hl.1 (Nat.le_of_ble_eq_true rfl) ⟨Nat.zero_le _, Nat.zero_le _⟩ dX5_reason_37 (fun H locs hW hS => ?_)
      refine lv_icmp_ge (tgt := 47) hx hb dX5_reason_40 (by decide) (fun h13 => ?_) (fun h13 => ?_)
      · have hf := ifp h13 hf
        refine lv_aload_n hx hb dX5_reason_47 rfl (lv_at hl 1 rfl) ?_
        refine lv_iload_n hx hb dX5_reason_48 rfl (lv_at hl 2 rfl) ?_
        refine lv_bipush (v := 6) hx hb dX5_reason_49 (by decide) ?_
        obtain ⟨y14, u15, hf⟩ := b1_e hf
        refine mV (k := 193) (q := (5, 0)) (C := RX5) (T := TX5) (N := 14) (ci := 5) (n := 2) (As := [.int p1, .int 6]) (rest := []) (c_X5_of l D t b σ p1 6 y14 u15) sh_193 (by decide) rfl rfl hx hb hml hown hts hE hW hS q1353 q1355 q51 q96 q1356 hy_X5_of ⟨rfl, rfl⟩ ⟨Nat.le_of_ble_eq_true rfl, Nat.le_of_ble_eq_true rfl⟩ rfl rfl hl.1 (Nat.le_of_ble_eq_true rfl) ⟨Nat.zero_le _, Nat.zero_le _⟩ dX5_reason_51 (fun H locs hW hS => ?_)
        refine lv_iconst (v := 2) hx hb dX5_reason_54 (by decide) ?_
        refine lv_icmp_lt (tgt := 62) hx hb dX5_reason_55 (by decide) (fun h16 => ?_) (fun h16 => ?_)
        · have hf := ifp h16 hf
          refine lv_aload_n hx hb dX5_reason_62 rfl (lv_at hl 1 rfl) ?_
          refine lv_iload_n hx hb dX5_reason_63 rfl (lv_at hl 2 rfl) ?_
          refine lv_iload_n hx hb dX5_reason_64 rfl (lv_at hl 0 rfl) ?_
          obtain ⟨y17, u18, hf⟩ := b1_e hf
          refine mV (k := 193) (q := (5, 0)) (C := RX5) (T := TX5) (N := 14) (ci := 5) (n := 2) (As := [.int p1, .int y6]) (rest := []) (c_X5_likes l D t b σ p1 y6 y17 u18) sh_193 (by decide) rfl rfl hx hb hml hown hts hE hW hS q1423 q1425 q65 q96 q1426 hy_X5_likes ⟨rfl, rfl⟩ ⟨Nat.le_of_ble_eq_true rfl, Nat.le_of_ble_eq_true rfl⟩ rfl rfl hl.1 (Nat.le_of_ble_eq_true rfl) ⟨Nat.zero_le _, Nat.zero_le _⟩ dX5_reason_65 (fun H locs hW hS => ?_)
          refine lv_if_eq (tgt := 75) hx hb dX5_reason_68 (by decide) (fun h19 => ?_) (fun h19 => ?_)
          · have hf := ifp h19 hf
            refine lv_iconst (v := 5) hx hb dX5_reason_75 (by decide) ?_
            cases hf
            exact W.iret hx hb hr (fun u hu _ => ⟨⟨rfl, by rw [hu]; exact hW⟩, hS.F hu⟩) hS.2.2 dX5_reason_76
          · have hf := ifn h19 hf
            refine lv_iconst (v := 0) hx hb dX5_reason_71 (by decide) ?_
            refine lv_goto (tgt := 76) hx hb dX5_reason_72 (by decide) ?_
            cases hf
            exact W.iret hx hb hr (fun u hu _ => ⟨⟨rfl, by rw [hu]; exact hW⟩, hS.F hu⟩) hS.2.2 dX5_reason_76
        · have hf := ifn h16 hf
          refine lv_iconst (v := 4) hx hb dX5_reason_58 (by decide) ?_
          refine lv_goto (tgt := 76) hx hb dX5_reason_59 (by decide) ?_
          cases hf
          exact W.iret hx hb hr (fun u hu _ => ⟨⟨rfl, by rw [hu]; exact hW⟩, hS.F hu⟩) hS.2.2 dX5_reason_76
      · have hf := ifn h13 hf
        refine lv_iconst (v := 3) hx hb dX5_reason_43 (by decide) ?_
        refine lv_goto (tgt := 76) hx hb dX5_reason_44 (by decide) ?_
        cases hf
        exact W.iret hx hb hr (fun u hu _ => ⟨⟨rfl, by rw [hu]; exact hW⟩, hS.F hu⟩) hS.2.2 dX5_reason_76
    · have hf := ifp h8 hf
      refine lv_iconst (v := 2) hx hb dX5_reason_26 (by decide) ?_
      cases hf
      exact W.iret hx hb hr (fun u hu _ => ⟨⟨rfl, by rw [hu]; exact hW⟩, hS.F hu⟩) hS.2.2 dX5_reason_27
  · have hf := ifp h3 hf
    refine lv_iconst (v := 1) hx hb dX5_reason_8 (by decide) ?_
    cases hf
    exact W.iret hx hb hr (fun u hu _ => ⟨⟨rfl, by rw [hu]; exact hW⟩, hS.F hu⟩) hS.2.2 dX5_reason_9
def f_X5_whyNoPlay (σ : Sg) (p1 : Int32) : Option (Int32 × Sg) := b1 (f_X5_isChild σ p1) fun y1 => if y1 = 0 then (st (u2 σ 193 10 1) fun σ4 => if (σ4 193 10) ≤ 0 then (b1 (f_X5_reason σ4 p1) fun y7 => some (y7, σ4)) else (some (0, σ4))) else (st (u2 σ 193 10 0) fun σ9 => if (σ9 193 10) ≤ 0 then (b1 (f_X5_reason σ9 p1) fun y12 => some (y12, σ9)) else (some (0, σ9)))
set_option maxHeartbeats 4000000 in
set_option maxRecDepth 100000 in
theorem c_X5_whyNoPlay (l : Launch) (D : va_G) (t : Nat → ClassId) (b : Nat) (σ : Sg) (p1 : Int32) (r : Int32) (σr : Sg) (hf : f_X5_whyNoPlay σ p1 = some (r, σr)) : Met l yX5_whyNoPlay (Cond.code yX5_whyNoPlay cX5_whyNoPlay 2 (some .int) :: ALL) ({ frames := 4, cells := 0, slots := 0, locals := 88 }) (PM D t b σ [.ref (b + 193), .int p1]) (QG D t b σr (some (.int r))) 0 0 (geA b) := by
  refine Met.ofW (cc := cX5_whyNoPlay) (maxL := 2) (ret := (some .int)) (by decide) rfl ?_
  intro p e s m args below meth c s₁ B hml hv
  obtain ⟨rfl, hW, hE⟩ := hv
  have hx := B.exec
  have hb := B.bytes
  have hr := B.returns
  have hts := atoms_spec (ws := Cond.code yX5_whyNoPlay cX5_whyNoPlay 2 (some .int) :: ALL) B.pre
  have hta := fun w h => hts w (List.mem_cons_of_mem _ h)
  have hown : s.vm.findClass RX5 = some m.cls := findClass_of_methodNamed B.named
  have hlocks := B.notSynchronized
  have hS : va_S (geA b) s.heap s.heap [] := va_S.rf
  have hl := lv_entry ([.ref (b + 193), .int p1]) (n := 2) (Nat.le_of_ble_eq_true rfl)
  rw [lg_entry_eq]
  generalize (lg_sl ([.ref (b + 193), .int p1]) ++ List.replicate (2 - (lg_sl ([.ref (b + 193), .int p1])).length) Slot.unset).toArray = ls at hl ⊢
  have hl : lv_has ls 2 [(0, .ref (b + 193)), (1, .int p1)] := hl
  unfold f_X5_whyNoPlay at hf
  refine lv_aload_n hx hb dX5_whyNoPlay_0 rfl (lv_at hl 0 rfl) ?_
  refine lv_aload_n hx hb dX5_whyNoPlay_1 rfl (lv_at hl 0 rfl) ?_
  refine lv_iload_n hx hb dX5_whyNoPlay_2 rfl (lv_at hl 1 rfl) ?_
  obtain ⟨y1, u2, hf⟩ := b1_e hf
  refine mV (k := 193) (q := (5, 0)) (C := RX5) (T := TX5) (N := 14) (ci := 5) (n := 1) (As := [.int p1]) (rest := [.ref (b + 193)]) (c_X5_isChild l D t b σ p1 y1 u2) sh_193 (by decide) rfl rfl hx hb hml hown hts hE hW hS q1604 q1606 q84 q96 q1607 hy_X5_isChild ⟨rfl, rfl⟩ ⟨Nat.le_of_ble_eq_true rfl, Nat.le_of_ble_eq_true rfl⟩ rfl rfl hl.1 (Nat.le_of_ble_eq_true rfl) ⟨Nat.zero_le _, Nat.zero_le _⟩ dX5_whyNoPlay_3 (fun H locs hW hS => ?_)
  refine lv_if_eq (tgt := 13) hx hb dX5_whyNoPlay_6 (by decide) (fun h3 => ?_) (fun h3 => ?_)
  · have hf := ifp h3 hf
    refine lv_iconst (v := 1) hx hb dX5_whyNoPlay_13 (by decide) ?_
    refine putX (k := 193) (q := (5, 0)) (ci := 5) (x := 1) inA5 tyX5_ok nmX5 rfl (by decide) rfl hx hb hta hown hE.1 hW hS sh_193 10 (by decide) q1191 rfl rfl rfl (Nat.le_of_ble_eq_true rfl) rfl dX5_whyNoPlay_14 (fun H locs hW hS => ?_)
    obtain ⟨σ4, e5, hf⟩ := st_e hf
    rw [e5] at hW
    refine lv_aload_n hx hb dX5_whyNoPlay_17 rfl (lv_at hl 0 rfl) ?_
    refine getM hx hb hta hown hE.1 hW 10 (by decide) q1191 rfl dX5_whyNoPlay_18 ?_
    refine lv_if_le (tgt := 28) hx hb dX5_whyNoPlay_21 (by decide) (fun h6 => ?_) (fun h6 => ?_)
    · have hf := ifp h6 hf
      refine lv_aload_n hx hb dX5_whyNoPlay_28 rfl (lv_at hl 0 rfl) ?_
      refine lv_iload_n hx hb dX5_whyNoPlay_29 rfl (lv_at hl 1 rfl) ?_
      obtain ⟨y7, u8, hf⟩ := b1_e hf
      refine mV (k := 193) (q := (5, 0)) (C := RX5) (T := TX5) (N := 14) (ci := 5) (n := 1) (As := [.int p1]) (rest := []) (c_X5_reason l D t b σ4 p1 y7 u8) sh_193 (by decide) rfl rfl hx hb hml hown hts hE hW hS q1636 q1638 q86 q96 q1639 hy_X5_reason ⟨rfl, rfl⟩ ⟨Nat.le_of_ble_eq_true rfl, Nat.le_of_ble_eq_true rfl⟩ rfl rfl hl.1 (Nat.le_of_ble_eq_true rfl) ⟨Nat.zero_le _, Nat.zero_le _⟩ dX5_whyNoPlay_30 (fun H locs hW hS => ?_)
      cases hf
      exact W.iret hx hb hr (fun u hu _ => ⟨⟨rfl, by rw [hu]; exact hW⟩, hS.F hu⟩) hS.2.2 dX5_whyNoPlay_33
    · have hf := ifn h6 hf
      refine lv_iconst (v := 0) hx hb dX5_whyNoPlay_24 (by decide) ?_
      refine lv_goto (tgt := 33) hx hb dX5_whyNoPlay_25 (by decide) ?_
      cases hf
      exact W.iret hx hb hr (fun u hu _ => ⟨⟨rfl, by rw [hu]; exact hW⟩, hS.F hu⟩) hS.2.2 dX5_whyNoPlay_33
  · have hf := ifn h3 hf
    refine lv_iconst (v := 0) hx hb dX5_whyNoPlay_9 (by decide) ?_
    refine lv_goto (tgt := 14) hx hb dX5_whyNoPlay_10 (by decide) ?_
    refine putX (k := 193) (q := (5, 0)) (ci := 5) (x := 0) inA5 tyX5_ok nmX5 rfl (by decide) rfl hx hb hta hown hE.1 hW hS sh_193 10 (by decide) q1191 rfl rfl rfl (Nat.le_of_ble_eq_true rfl) rfl dX5_whyNoPlay_14 (fun H locs hW hS => ?_)
    obtain ⟨σ9, e10, hf⟩ := st_e hf
    rw [e10] at hW
    refine lv_aload_n hx hb dX5_whyNoPlay_17 rfl (lv_at hl 0 rfl) ?_
    refine getM hx hb hta hown hE.1 hW 10 (by decide) q1191 rfl dX5_whyNoPlay_18 ?_
    refine lv_if_le (tgt := 28) hx hb dX5_whyNoPlay_21 (by decide) (fun h11 => ?_) (fun h11 => ?_)
    · have hf := ifp h11 hf
      refine lv_aload_n hx hb dX5_whyNoPlay_28 rfl (lv_at hl 0 rfl) ?_
      refine lv_iload_n hx hb dX5_whyNoPlay_29 rfl (lv_at hl 1 rfl) ?_
      obtain ⟨y12, u13, hf⟩ := b1_e hf
      refine mV (k := 193) (q := (5, 0)) (C := RX5) (T := TX5) (N := 14) (ci := 5) (n := 1) (As := [.int p1]) (rest := []) (c_X5_reason l D t b σ9 p1 y12 u13) sh_193 (by decide) rfl rfl hx hb hml hown hts hE hW hS q1636 q1638 q86 q96 q1639 hy_X5_reason ⟨rfl, rfl⟩ ⟨Nat.le_of_ble_eq_true rfl, Nat.le_of_ble_eq_true rfl⟩ rfl rfl hl.1 (Nat.le_of_ble_eq_true rfl) ⟨Nat.zero_le _, Nat.zero_le _⟩ dX5_whyNoPlay_30 (fun H locs hW hS => ?_)
      cases hf
      exact W.iret hx hb hr (fun u hu _ => ⟨⟨rfl, by rw [hu]; exact hW⟩, hS.F hu⟩) hS.2.2 dX5_whyNoPlay_33
    · have hf := ifn h11 hf
      refine lv_iconst (v := 0) hx hb dX5_whyNoPlay_24 (by decide) ?_
      refine lv_goto (tgt := 33) hx hb dX5_whyNoPlay_25 (by decide) ?_
      cases hf
      exact W.iret hx hb hr (fun u hu _ => ⟨⟨rfl, by rw [hu]; exact hW⟩, hS.F hu⟩) hS.2.2 dX5_whyNoPlay_33
def l_X5_happiest_9 : Nat → Sg → Int32 → Int32 → Option (Int32 × Sg)
  | 0, _, _, _ => none
  | n + 1, τ, x1, x2 => if (τ 194 (9 : Int32).toNatClampNeg) ≤ x2 then (some (x1, τ)) else (b1 (f_X5_isHere τ x2) fun y4 => if y4 = 0 then (l_X5_happiest_9 n τ x1 (x2 + 1)) else (if x1 = (-1) then (l_X5_happiest_9 n τ x2 (x2 + 1)) else (b1 (f_X5_of τ x2 1) fun y8 => b1 (f_X5_of τ x1 1) fun y10 => if y8 ≤ y10 then (l_X5_happiest_9 n τ x1 (x2 + 1)) else (l_X5_happiest_9 n τ x2 (x2 + 1)))))
def f_X5_happiest (σ : Sg) : Option (Int32 × Sg) := st (u2 σ 193 10 0) fun σ1 => l_X5_happiest_9 10000 σ1 (-1) 0
set_option maxHeartbeats 4000000 in
set_option maxRecDepth 100000 in
theorem c_X5_happiest (l : Launch) (D : va_G) (t : Nat → ClassId) (b : Nat) (σ : Sg) (r : Int32) (σr : Sg) (hf : f_X5_happiest σ = some (r, σr)) : Met l yX5_happiest (Cond.code yX5_happiest cX5_happiest 3 (some .int) :: ALL) ({ frames := 2, cells := 0, slots := 0, locals := 43 }) (PM D t b σ [.ref (b + 193)]) (QG D t b σr (some (.int r))) 0 0 (geA b) := by
  refine Met.ofW (cc := cX5_happiest) (maxL := 3) (ret := (some .int)) (by decide) rfl ?_
  intro p e s m args below meth c s₁ B hml hv
  obtain ⟨rfl, hW, hE⟩ := hv
  have hx := B.exec
  have hb := B.bytes
  have hr := B.returns
  have hts := atoms_spec (ws := Cond.code yX5_happiest cX5_happiest 3 (some .int) :: ALL) B.pre
  have hta := fun w h => hts w (List.mem_cons_of_mem _ h)
  have hown : s.vm.findClass RX5 = some m.cls := findClass_of_methodNamed B.named
  have hlocks := B.notSynchronized
  have hS : va_S (geA b) s.heap s.heap [] := va_S.rf
  have hl := lv_entry ([.ref (b + 193)]) (n := 3) (Nat.le_of_ble_eq_true rfl)
  rw [lg_entry_eq]
  generalize (lg_sl ([.ref (b + 193)]) ++ List.replicate (3 - (lg_sl ([.ref (b + 193)])).length) Slot.unset).toArray = ls at hl ⊢
  have hl : lv_has ls 3 [(0, .ref (b + 193))] := hl
  unfold f_X5_happiest at hf
  refine lv_aload_n hx hb dX5_happiest_0 rfl (lv_at hl 0 rfl) ?_
  refine lv_iconst (v := 0) hx hb dX5_happiest_1 (by decide) ?_
  refine putX (k := 193) (q := (5, 0)) (ci := 5) (x := 0) inA5 tyX5_ok nmX5 rfl (by decide) rfl hx hb hta hown hE.1 hW hS sh_193 10 (by decide) q1191 rfl rfl rfl (Nat.le_of_ble_eq_true rfl) rfl dX5_happiest_2 (fun H locs hW hS => ?_)
  obtain ⟨σ1, e2, hf⟩ := st_e hf
  rw [e2] at hW
  refine lv_iconst (v := (-1)) hx hb dX5_happiest_5 (by decide) ?_
  refine lv_istore_n (lv' := [(1, .int (-1)), (0, .ref (b + 193))]) hx hb dX5_happiest_6 rfl hl (by decide) rfl (fun ls hl => ?_)
  refine lv_iconst (v := 0) hx hb dX5_happiest_7 (by decide) ?_
  refine lv_istore_n (lv' := [(2, .int 0), (1, .int (-1)), (0, .ref (b + 193))]) hx hb dX5_happiest_8 rfl hl (by decide) rfl (fun ls hl => ?_)
  have key_9 : ∀ (n : Nat) (τ : Sg) (x1 : Int32) (x2 : Int32) (H : Heap) (locs : List Loc) (ls : Array Slot), l_X5_happiest_9 n τ x1 x2 = some (r, σr) → wd D t b τ H → va_S (geA b) s.heap H locs → lv_has ls 3 [(0, .ref (b + 193)), (1, .int x1), (2, .int x2)] → W p l e (headSpec (Cond.code yX5_happiest cX5_happiest 3 (some .int) :: ALL) ({ frames := 2, cells := 0, slots := 0, locals := 43 })).room s m (([.ref (b + 193)] : List Value).toArray) below meth c H locs 0 0 (MQ below (QG D t b σr (some (.int r))) (([.ref (b + 193)] : List Value).toArray) s 0 0 (geA b)) (F0 m 9 ls []) := by
    intro n
    induction n with
    | zero =>
      intro τ x1 x2 H locs ls hf
      rw [l_X5_happiest_9.eq_1] at hf
      cases hf
    | succ n ih_9 =>
      intro τ x1 x2 H locs ls hf hW hS hl
      rw [l_X5_happiest_9.eq_2] at hf
      refine lv_iload_n hx hb dX5_happiest_9 rfl (lv_at hl 2 rfl) ?_
      refine lv_aload_n hx hb dX5_happiest_10 rfl (lv_at hl 0 rfl) ?_
      refine getM hx hb hta hown hE.1 hW 0 (by decide) q1181 rfl dX5_happiest_11 ?_
      refine lv_bipush (v := 9) hx hb dX5_happiest_14 (by decide) ?_
      refine iald hx hb hE.1 hW sh_194 (vp_lit (by decide +kernel)) dX5_happiest_16 ?_
      refine lv_icmp_ge (tgt := 60) hx hb dX5_happiest_17 (by decide) (fun h3 => ?_) (fun h3 => ?_)
      · have hf := ifp h3 hf
        refine lv_iload_n hx hb dX5_happiest_60 rfl (lv_at hl 1 rfl) ?_
        cases hf
        exact W.iret hx hb hr (fun u hu _ => ⟨⟨rfl, by rw [hu]; exact hW⟩, hS.F hu⟩) hS.2.2 dX5_happiest_61
      · have hf := ifn h3 hf
        refine lv_aload_n hx hb dX5_happiest_20 rfl (lv_at hl 0 rfl) ?_
        refine lv_iload_n hx hb dX5_happiest_21 rfl (lv_at hl 2 rfl) ?_
        obtain ⟨y4, u5, hf⟩ := b1_e hf
        refine mV (k := 193) (q := (5, 0)) (C := RX5) (T := TX5) (N := 14) (ci := 5) (n := 1) (As := [.int x2]) (rest := []) (c_X5_isHere l D t b τ x2 y4 u5) sh_193 (by decide) rfl rfl hx hb hml hown hts hE hW hS q1349 q1351 q50 q96 q1352 hy_X5_isHere ⟨rfl, rfl⟩ ⟨Nat.le_of_ble_eq_true rfl, Nat.le_of_ble_eq_true rfl⟩ rfl rfl hl.1 (Nat.le_of_ble_eq_true rfl) ⟨Nat.zero_le _, Nat.zero_le _⟩ dX5_happiest_22 (fun H locs hW hS => ?_)
        refine lv_if_eq (tgt := 52) hx hb dX5_happiest_25 (by decide) (fun h6 => ?_) (fun h6 => ?_)
        · have hf := ifp h6 hf
          refine lv_iload_n hx hb dX5_happiest_52 rfl (lv_at hl 1 rfl) ?_
          refine lv_istore_n (lv' := [(1, .int x1), (0, .ref (b + 193)), (2, .int x2)]) hx hb dX5_happiest_53 rfl hl (by decide) rfl (fun ls hl => ?_)
          refine lv_iinc (v := (x2 + 1)) (lv' := [(2, .int (x2 + 1)), (1, .int x1), (0, .ref (b + 193))]) hx hb dX5_happiest_54 hl (k := 2) rfl (by rfl) (by decide) rfl (fun ls hl => ?_)
          refine lv_goto (tgt := 9) hx hb dX5_happiest_57 (by decide) ?_
          exact ih_9 τ x1 (x2 + 1) _ _ _ hf hW hS (lv_sub hl [2, 1, 0] rfl)
        · have hf := ifn h6 hf
          refine lv_iload_n hx hb dX5_happiest_28 rfl (lv_at hl 1 rfl) ?_
          refine lv_iconst (v := (-1)) hx hb dX5_happiest_29 (by decide) ?_
          refine lv_icmp_eq (tgt := 48) hx hb dX5_happiest_30 (by decide) (fun h7 => ?_) (fun h7 => ?_)
          · have hf := ifp h7 hf
            refine lv_iload_n hx hb dX5_happiest_48 rfl (lv_at hl 2 rfl) ?_
            refine lv_goto (tgt := 53) hx hb dX5_happiest_49 (by decide) ?_
            refine lv_istore_n (lv' := [(1, .int x2), (0, .ref (b + 193)), (2, .int x2)]) hx hb dX5_happiest_53 rfl hl (by decide) rfl (fun ls hl => ?_)
            refine lv_iinc (v := (x2 + 1)) (lv' := [(2, .int (x2 + 1)), (1, .int x2), (0, .ref (b + 193))]) hx hb dX5_happiest_54 hl (k := 2) rfl (by rfl) (by decide) rfl (fun ls hl => ?_)
            refine lv_goto (tgt := 9) hx hb dX5_happiest_57 (by decide) ?_
            exact ih_9 τ x2 (x2 + 1) _ _ _ hf hW hS (lv_sub hl [2, 1, 0] rfl)
          · have hf := ifn h7 hf
            refine lv_aload_n hx hb dX5_happiest_33 rfl (lv_at hl 0 rfl) ?_
            refine lv_iload_n hx hb dX5_happiest_34 rfl (lv_at hl 2 rfl) ?_
            refine lv_iconst (v := 1) hx hb dX5_happiest_35 (by decide) ?_
            obtain ⟨y8, u9, hf⟩ := b1_e hf
            refine mV (k := 193) (q := (5, 0)) (C := RX5) (T := TX5) (N := 14) (ci := 5) (n := 2) (As := [.int x2, .int 1]) (rest := []) (c_X5_of l D t b τ x2 1 y8 u9) sh_193 (by decide) rfl rfl hx hb hml hown hts hE hW hS q1353 q1355 q51 q96 q1356 hy_X5_of ⟨rfl, rfl⟩ ⟨Nat.le_of_ble_eq_true rfl, Nat.le_of_ble_eq_true rfl⟩ rfl rfl hl.1 (Nat.le_of_ble_eq_true rfl) ⟨Nat.zero_le _, Nat.zero_le _⟩ dX5_happiest_36 (fun H locs hW hS => ?_)
            refine lv_aload_n hx hb dX5_happiest_39 rfl (lv_at hl 0 rfl) ?_
            refine lv_iload_n hx hb dX5_happiest_40 rfl (lv_at hl 1 rfl) ?_
            refine lv_iconst (v := 1) hx hb dX5_happiest_41 (by decide) ?_
            obtain ⟨y10, u11, hf⟩ := b1_e hf
            refine mV (k := 193) (q := (5, 0)) (C := RX5) (T := TX5) (N := 14) (ci := 5) (n := 2) (As := [.int x1, .int 1]) (rest := [.int y8]) (c_X5_of l D t b τ x1 1 y10 u11) sh_193 (by decide) rfl rfl hx hb hml hown hts hE hW hS q1353 q1355 q51 q96 q1356 hy_X5_of ⟨rfl, rfl⟩ ⟨Nat.le_of_ble_eq_true rfl, Nat.le_of_ble_eq_true rfl⟩ rfl rfl hl.1 (Nat.le_of_ble_eq_true rfl) ⟨Nat.zero_le _, Nat.zero_le _⟩ dX5_happiest_42 (fun H locs hW hS => ?_)
            refine lv_icmp_le (tgt := 52) hx hb dX5_happiest_45 (by decide) (fun h12 => ?_) (fun h12 => ?_)
            · have hf := ifp h12 hf
              refine lv_iload_n hx hb dX5_happiest_52 rfl (lv_at hl 1 rfl) ?_
              refine lv_istore_n (lv' := [(1, .int x1), (0, .ref (b + 193)), (2, .int x2)]) hx hb dX5_happiest_53 rfl hl (by decide) rfl (fun ls hl => ?_)
              refine lv_iinc (v := (x2 + 1)) (lv' := [(2, .int (x2 + 1)), (1, .int x1), (0, .ref (b + 193))]) hx hb dX5_happiest_54 hl (k := 2) rfl (by rfl) (by decide) rfl (fun ls hl => ?_)
              refine lv_goto (tgt := 9) hx hb dX5_happiest_57 (by decide) ?_
              exact ih_9 τ x1 (x2 + 1) _ _ _ hf hW hS (lv_sub hl [2, 1, 0] rfl)
            · have hf := ifn h12 hf
              refine lv_iload_n hx hb dX5_happiest_48 rfl (lv_at hl 2 rfl) ?_
              refine lv_goto (tgt := 53) hx hb dX5_happiest_49 (by decide) ?_
              refine lv_istore_n (lv' := [(1, .int x2), (0, .ref (b + 193)), (2, .int x2)]) hx hb dX5_happiest_53 rfl hl (by decide) rfl (fun ls hl => ?_)
              refine lv_iinc (v := (x2 + 1)) (lv' := [(2, .int (x2 + 1)), (1, .int x2), (0, .ref (b + 193))]) hx hb dX5_happiest_54 hl (k := 2) rfl (by rfl) (by decide) rfl (fun ls hl => ?_)
              refine lv_goto (tgt := 9) hx hb dX5_happiest_57 (by decide) ?_
              exact ih_9 τ x2 (x2 + 1) _ _ _ hf hW hS (lv_sub hl [2, 1, 0] rfl)
  exact key_9 10000 σ1 (-1) 0 _ _ _ hf hW hS (lv_sub hl [2, 1, 0] rfl)
def l_X5_sulkers_9 : Nat → Sg → Int32 → Int32 → Option (Int32 × Sg)
  | 0, _, _, _ => none
  | n + 1, τ, x1, x2 => if (τ 194 (9 : Int32).toNatClampNeg) ≤ x2 then (some (x1, τ)) else (b1 (f_X5_isHere τ x2) fun y4 => if y4 = 0 then (l_X5_sulkers_9 n τ (x1 + 0) (x2 + 1)) else (b1 (f_X5_of τ x2 1) fun y7 => if 50 ≤ y7 then (l_X5_sulkers_9 n τ (x1 + 0) (x2 + 1)) else (l_X5_sulkers_9 n τ (x1 + 1) (x2 + 1))))
def f_X5_sulkers (σ : Sg) : Option (Int32 × Sg) := st (u2 σ 193 10 0) fun σ1 => l_X5_sulkers_9 10000 σ1 0 0
set_option maxHeartbeats 4000000 in
set_option maxRecDepth 100000 in
theorem c_X5_sulkers (l : Launch) (D : va_G) (t : Nat → ClassId) (b : Nat) (σ : Sg) (r : Int32) (σr : Sg) (hf : f_X5_sulkers σ = some (r, σr)) : Met l yX5_sulkers (Cond.code yX5_sulkers cX5_sulkers 3 (some .int) :: ALL) ({ frames := 2, cells := 0, slots := 0, locals := 43 }) (PM D t b σ [.ref (b + 193)]) (QG D t b σr (some (.int r))) 0 0 (geA b) := by
  refine Met.ofW (cc := cX5_sulkers) (maxL := 3) (ret := (some .int)) (by decide) rfl ?_
  intro p e s m args below meth c s₁ B hml hv
  obtain ⟨rfl, hW, hE⟩ := hv
  have hx := B.exec
  have hb := B.bytes
  have hr := B.returns
  have hts := atoms_spec (ws := Cond.code yX5_sulkers cX5_sulkers 3 (some .int) :: ALL) B.pre
  have hta := fun w h => hts w (List.mem_cons_of_mem _ h)
  have hown : s.vm.findClass RX5 = some m.cls := findClass_of_methodNamed B.named
  have hlocks := B.notSynchronized
  have hS : va_S (geA b) s.heap s.heap [] := va_S.rf
  have hl := lv_entry ([.ref (b + 193)]) (n := 3) (Nat.le_of_ble_eq_true rfl)
  rw [lg_entry_eq]
  generalize (lg_sl ([.ref (b + 193)]) ++ List.replicate (3 - (lg_sl ([.ref (b + 193)])).length) Slot.unset).toArray = ls at hl ⊢
  have hl : lv_has ls 3 [(0, .ref (b + 193))] := hl
  unfold f_X5_sulkers at hf
  refine lv_aload_n hx hb dX5_sulkers_0 rfl (lv_at hl 0 rfl) ?_
  refine lv_iconst (v := 0) hx hb dX5_sulkers_1 (by decide) ?_
  refine putX (k := 193) (q := (5, 0)) (ci := 5) (x := 0) inA5 tyX5_ok nmX5 rfl (by decide) rfl hx hb hta hown hE.1 hW hS sh_193 10 (by decide) q1191 rfl rfl rfl (Nat.le_of_ble_eq_true rfl) rfl dX5_sulkers_2 (fun H locs hW hS => ?_)
  obtain ⟨σ1, e2, hf⟩ := st_e hf
  rw [e2] at hW
  refine lv_iconst (v := 0) hx hb dX5_sulkers_5 (by decide) ?_
  refine lv_istore_n (lv' := [(1, .int 0), (0, .ref (b + 193))]) hx hb dX5_sulkers_6 rfl hl (by decide) rfl (fun ls hl => ?_)
  refine lv_iconst (v := 0) hx hb dX5_sulkers_7 (by decide) ?_
  refine lv_istore_n (lv' := [(2, .int 0), (1, .int 0), (0, .ref (b + 193))]) hx hb dX5_sulkers_8 rfl hl (by decide) rfl (fun ls hl => ?_)
  have key_9 : ∀ (n : Nat) (τ : Sg) (x1 : Int32) (x2 : Int32) (H : Heap) (locs : List Loc) (ls : Array Slot), l_X5_sulkers_9 n τ x1 x2 = some (r, σr) → wd D t b τ H → va_S (geA b) s.heap H locs → lv_has ls 3 [(0, .ref (b + 193)), (1, .int x1), (2, .int x2)] → W p l e (headSpec (Cond.code yX5_sulkers cX5_sulkers 3 (some .int) :: ALL) ({ frames := 2, cells := 0, slots := 0, locals := 43 })).room s m (([.ref (b + 193)] : List Value).toArray) below meth c H locs 0 0 (MQ below (QG D t b σr (some (.int r))) (([.ref (b + 193)] : List Value).toArray) s 0 0 (geA b)) (F0 m 9 ls []) := by
    intro n
    induction n with
    | zero =>
      intro τ x1 x2 H locs ls hf
      rw [l_X5_sulkers_9.eq_1] at hf
      cases hf
    | succ n ih_9 =>
      intro τ x1 x2 H locs ls hf hW hS hl
      rw [l_X5_sulkers_9.eq_2] at hf
      refine lv_iload_n hx hb dX5_sulkers_9 rfl (lv_at hl 2 rfl) ?_
      refine lv_aload_n hx hb dX5_sulkers_10 rfl (lv_at hl 0 rfl) ?_
      refine getM hx hb hta hown hE.1 hW 0 (by decide) q1181 rfl dX5_sulkers_11 ?_
      refine lv_bipush (v := 9) hx hb dX5_sulkers_14 (by decide) ?_
      refine iald hx hb hE.1 hW sh_194 (vp_lit (by decide +kernel)) dX5_sulkers_16 ?_
      refine lv_icmp_ge (tgt := 53) hx hb dX5_sulkers_17 (by decide) (fun h3 => ?_) (fun h3 => ?_)
      · have hf := ifp h3 hf
        refine lv_iload_n hx hb dX5_sulkers_53 rfl (lv_at hl 1 rfl) ?_
        cases hf
        exact W.iret hx hb hr (fun u hu _ => ⟨⟨rfl, by rw [hu]; exact hW⟩, hS.F hu⟩) hS.2.2 dX5_sulkers_54
      · have hf := ifn h3 hf
        refine lv_iload_n hx hb dX5_sulkers_20 rfl (lv_at hl 1 rfl) ?_
        refine lv_aload_n hx hb dX5_sulkers_21 rfl (lv_at hl 0 rfl) ?_
        refine lv_iload_n hx hb dX5_sulkers_22 rfl (lv_at hl 2 rfl) ?_
        obtain ⟨y4, u5, hf⟩ := b1_e hf
        refine mV (k := 193) (q := (5, 0)) (C := RX5) (T := TX5) (N := 14) (ci := 5) (n := 1) (As := [.int x2]) (rest := [.int x1]) (c_X5_isHere l D t b τ x2 y4 u5) sh_193 (by decide) rfl rfl hx hb hml hown hts hE hW hS q1349 q1351 q50 q96 q1352 hy_X5_isHere ⟨rfl, rfl⟩ ⟨Nat.le_of_ble_eq_true rfl, Nat.le_of_ble_eq_true rfl⟩ rfl rfl hl.1 (Nat.le_of_ble_eq_true rfl) ⟨Nat.zero_le _, Nat.zero_le _⟩ dX5_sulkers_23 (fun H locs hW hS => ?_)
        refine lv_if_eq (tgt := 44) hx hb dX5_sulkers_26 (by decide) (fun h6 => ?_) (fun h6 => ?_)
        · have hf := ifp h6 hf
          refine lv_iconst (v := 0) hx hb dX5_sulkers_44 (by decide) ?_
          refine lv_iadd hx hb dX5_sulkers_45 ?_
          refine lv_istore_n (lv' := [(1, .int (x1 + 0)), (0, .ref (b + 193)), (2, .int x2)]) hx hb dX5_sulkers_46 rfl hl (by decide) rfl (fun ls hl => ?_)
          refine lv_iinc (v := (x2 + 1)) (lv' := [(2, .int (x2 + 1)), (1, .int (x1 + 0)), (0, .ref (b + 193))]) hx hb dX5_sulkers_47 hl (k := 2) rfl (by rfl) (by decide) rfl (fun ls hl => ?_)
          refine lv_goto (tgt := 9) hx hb dX5_sulkers_50 (by decide) ?_
          exact ih_9 τ (x1 + 0) (x2 + 1) _ _ _ hf hW hS (lv_sub hl [2, 1, 0] rfl)
        · have hf := ifn h6 hf
          refine lv_aload_n hx hb dX5_sulkers_29 rfl (lv_at hl 0 rfl) ?_
          refine lv_iload_n hx hb dX5_sulkers_30 rfl (lv_at hl 2 rfl) ?_
          refine lv_iconst (v := 1) hx hb dX5_sulkers_31 (by decide) ?_
          obtain ⟨y7, u8, hf⟩ := b1_e hf
          refine mV (k := 193) (q := (5, 0)) (C := RX5) (T := TX5) (N := 14) (ci := 5) (n := 2) (As := [.int x2, .int 1]) (rest := [.int x1]) (c_X5_of l D t b τ x2 1 y7 u8) sh_193 (by decide) rfl rfl hx hb hml hown hts hE hW hS q1353 q1355 q51 q96 q1356 hy_X5_of ⟨rfl, rfl⟩ ⟨Nat.le_of_ble_eq_true rfl, Nat.le_of_ble_eq_true rfl⟩ rfl rfl hl.1 (Nat.le_of_ble_eq_true rfl) ⟨Nat.zero_le _, Nat.zero_le _⟩ dX5_sulkers_32 (fun H locs hW hS => ?_)
          refine lv_bipush (v := 50) hx hb dX5_sulkers_35 (by decide) ?_
          refine lv_icmp_ge (tgt := 44) hx hb dX5_sulkers_37 (by decide) (fun h9 => ?_) (fun h9 => ?_)
          · have hf := ifp h9 hf
            refine lv_iconst (v := 0) hx hb dX5_sulkers_44 (by decide) ?_
            refine lv_iadd hx hb dX5_sulkers_45 ?_
            refine lv_istore_n (lv' := [(1, .int (x1 + 0)), (0, .ref (b + 193)), (2, .int x2)]) hx hb dX5_sulkers_46 rfl hl (by decide) rfl (fun ls hl => ?_)
            refine lv_iinc (v := (x2 + 1)) (lv' := [(2, .int (x2 + 1)), (1, .int (x1 + 0)), (0, .ref (b + 193))]) hx hb dX5_sulkers_47 hl (k := 2) rfl (by rfl) (by decide) rfl (fun ls hl => ?_)
            refine lv_goto (tgt := 9) hx hb dX5_sulkers_50 (by decide) ?_
            exact ih_9 τ (x1 + 0) (x2 + 1) _ _ _ hf hW hS (lv_sub hl [2, 1, 0] rfl)
          · have hf := ifn h9 hf
            refine lv_iconst (v := 1) hx hb dX5_sulkers_40 (by decide) ?_
            refine lv_goto (tgt := 45) hx hb dX5_sulkers_41 (by decide) ?_
            refine lv_iadd hx hb dX5_sulkers_45 ?_
            refine lv_istore_n (lv' := [(1, .int (x1 + 1)), (0, .ref (b + 193)), (2, .int x2)]) hx hb dX5_sulkers_46 rfl hl (by decide) rfl (fun ls hl => ?_)
            refine lv_iinc (v := (x2 + 1)) (lv' := [(2, .int (x2 + 1)), (1, .int (x1 + 1)), (0, .ref (b + 193))]) hx hb dX5_sulkers_47 hl (k := 2) rfl (by rfl) (by decide) rfl (fun ls hl => ?_)
            refine lv_goto (tgt := 9) hx hb dX5_sulkers_50 (by decide) ?_
            exact ih_9 τ (x1 + 1) (x2 + 1) _ _ _ hf hW hS (lv_sub hl [2, 1, 0] rfl)
  exact key_9 10000 σ1 0 0 _ _ _ hf hW hS (lv_sub hl [2, 1, 0] rfl)
def l_X5_crowdOn_20 : Nat → Sg → Int32 → Int32 → Int32 → Option (Int32 × Sg)
  | 0, _, _, _, _ => none
  | n + 1, τ, x1, x2, x3 => if (τ 194 (9 : Int32).toNatClampNeg) ≤ x3 then (some (x2, τ)) else (if (τ 193 10) = 0 then (b1 (f_X5_of τ x3 4) fun y8 => if y8 = x1 then (l_X5_crowdOn_20 n τ x1 (x2 + 1) (x3 + 1)) else (l_X5_crowdOn_20 n τ x1 (x2 + 0) (x3 + 1))) else (some (x2, τ)))
def f_X5_crowdOn (σ : Sg) (p1 : Int32) : Option (Int32 × Sg) := b1 (f_X5_isPitch σ p1) fun y1 => if y1 = 0 then (st (u2 σ 193 10 1) fun σ4 => l_X5_crowdOn_20 10000 σ4 p1 0 0) else (st (u2 σ 193 10 0) fun σ11 => l_X5_crowdOn_20 10000 σ11 p1 0 0)
set_option maxHeartbeats 4000000 in
set_option maxRecDepth 100000 in
theorem c_X5_crowdOn (l : Launch) (D : va_G) (t : Nat → ClassId) (b : Nat) (σ : Sg) (p1 : Int32) (r : Int32) (σr : Sg) (hf : f_X5_crowdOn σ p1 = some (r, σr)) : Met l yX5_crowdOn (Cond.code yX5_crowdOn cX5_crowdOn 4 (some .int) :: ALL) ({ frames := 2, cells := 0, slots := 0, locals := 42 }) (PM D t b σ [.ref (b + 193), .int p1]) (QG D t b σr (some (.int r))) 0 0 (geA b) := by
  refine Met.ofW (cc := cX5_crowdOn) (maxL := 4) (ret := (some .int)) (by decide) rfl ?_
  intro p e s m args below meth c s₁ B hml hv
  obtain ⟨rfl, hW, hE⟩ := hv
  have hx := B.exec
  have hb := B.bytes
  have hr := B.returns
  have hts := atoms_spec (ws := Cond.code yX5_crowdOn cX5_crowdOn 4 (some .int) :: ALL) B.pre
  have hta := fun w h => hts w (List.mem_cons_of_mem _ h)
  have hown : s.vm.findClass RX5 = some m.cls := findClass_of_methodNamed B.named
  have hlocks := B.notSynchronized
  have hS : va_S (geA b) s.heap s.heap [] := va_S.rf
  have hl := lv_entry ([.ref (b + 193), .int p1]) (n := 4) (Nat.le_of_ble_eq_true rfl)
  rw [lg_entry_eq]
  generalize (lg_sl ([.ref (b + 193), .int p1]) ++ List.replicate (4 - (lg_sl ([.ref (b + 193), .int p1])).length) Slot.unset).toArray = ls at hl ⊢
  have hl : lv_has ls 4 [(0, .ref (b + 193)), (1, .int p1)] := hl
  unfold f_X5_crowdOn at hf
  refine lv_aload_n hx hb dX5_crowdOn_0 rfl (lv_at hl 0 rfl) ?_
  refine lv_iload_n hx hb dX5_crowdOn_1 rfl (lv_at hl 1 rfl) ?_
  obtain ⟨y1, u2, hf⟩ := b1_e hf
  refine mS (n := 1) (As := [.int p1]) (rest := [.ref (b + 193)]) (c_X5_isPitch l D t b σ p1 y1 u2) hx hb hml hown hts hE hW hS q1236 q1237 q96 q1238 hs_X5_isPitch ⟨rfl, rfl⟩ ⟨Nat.le_of_ble_eq_true rfl, Nat.le_of_ble_eq_true rfl⟩ rfl rfl hl.1 (Nat.le_of_ble_eq_true rfl) ⟨Nat.zero_le _, Nat.zero_le _⟩ dX5_crowdOn_2 (fun H locs hW hS => ?_)
  refine lv_if_eq (tgt := 12) hx hb dX5_crowdOn_5 (by decide) (fun h3 => ?_) (fun h3 => ?_)
  · have hf := ifp h3 hf
    refine lv_iconst (v := 1) hx hb dX5_crowdOn_12 (by decide) ?_
    refine putX (k := 193) (q := (5, 0)) (ci := 5) (x := 1) inA5 tyX5_ok nmX5 rfl (by decide) rfl hx hb hta hown hE.1 hW hS sh_193 10 (by decide) q1191 rfl rfl rfl (Nat.le_of_ble_eq_true rfl) rfl dX5_crowdOn_13 (fun H locs hW hS => ?_)
    obtain ⟨σ4, e5, hf⟩ := st_e hf
    rw [e5] at hW
    refine lv_iconst (v := 0) hx hb dX5_crowdOn_16 (by decide) ?_
    refine lv_istore_n (lv' := [(2, .int 0), (0, .ref (b + 193)), (1, .int p1)]) hx hb dX5_crowdOn_17 rfl hl (by decide) rfl (fun ls hl => ?_)
    refine lv_iconst (v := 0) hx hb dX5_crowdOn_18 (by decide) ?_
    refine lv_istore_n (lv' := [(3, .int 0), (2, .int 0), (0, .ref (b + 193)), (1, .int p1)]) hx hb dX5_crowdOn_19 rfl hl (by decide) rfl (fun ls hl => ?_)
    have key_20 : ∀ (n : Nat) (τ : Sg) (x1 : Int32) (x2 : Int32) (x3 : Int32) (H : Heap) (locs : List Loc) (ls : Array Slot), l_X5_crowdOn_20 n τ x1 x2 x3 = some (r, σr) → wd D t b τ H → va_S (geA b) s.heap H locs → lv_has ls 4 [(0, .ref (b + 193)), (1, .int x1), (2, .int x2), (3, .int x3)] → W p l e (headSpec (Cond.code yX5_crowdOn cX5_crowdOn 4 (some .int) :: ALL) ({ frames := 2, cells := 0, slots := 0, locals := 42 })).room s m (([.ref (b + 193), .int p1] : List Value).toArray) below meth c H locs 0 0 (MQ below (QG D t b σr (some (.int r))) (([.ref (b + 193), .int p1] : List Value).toArray) s 0 0 (geA b)) (F0 m 20 ls []) := by
      intro n
      induction n with
      | zero =>
        intro τ x1 x2 x3 H locs ls hf
        rw [l_X5_crowdOn_20.eq_1] at hf
        cases hf
      | succ n ih_20 =>
        intro τ x1 x2 x3 H locs ls hf hW hS hl
        rw [l_X5_crowdOn_20.eq_2] at hf
        refine lv_iload_n hx hb dX5_crowdOn_20 rfl (lv_at hl 3 rfl) ?_
        refine lv_aload_n hx hb dX5_crowdOn_21 rfl (lv_at hl 0 rfl) ?_
        refine getM hx hb hta hown hE.1 hW 0 (by decide) q1181 rfl dX5_crowdOn_22 ?_
        refine lv_bipush (v := 9) hx hb dX5_crowdOn_25 (by decide) ?_
        refine iald hx hb hE.1 hW sh_194 (vp_lit (by decide +kernel)) dX5_crowdOn_27 ?_
        refine lv_icmp_ge (tgt := 62) hx hb dX5_crowdOn_28 (by decide) (fun h6 => ?_) (fun h6 => ?_)
        · have hf := ifp h6 hf
          refine lv_iload_n hx hb dX5_crowdOn_62 rfl (lv_at hl 2 rfl) ?_
          cases hf
          exact W.iret hx hb hr (fun u hu _ => ⟨⟨rfl, by rw [hu]; exact hW⟩, hS.F hu⟩) hS.2.2 dX5_crowdOn_63
        · have hf := ifn h6 hf
          refine lv_aload_n hx hb dX5_crowdOn_31 rfl (lv_at hl 0 rfl) ?_
          refine getM hx hb hta hown hE.1 hW 10 (by decide) q1191 rfl dX5_crowdOn_32 ?_
          refine lv_if_ne (tgt := 62) hx hb dX5_crowdOn_35 (by decide) (fun h7 => ?_) (fun h7 => ?_)
          · have hf := ifn h7 hf
            refine lv_iload_n hx hb dX5_crowdOn_62 rfl (lv_at hl 2 rfl) ?_
            cases hf
            exact W.iret hx hb hr (fun u hu _ => ⟨⟨rfl, by rw [hu]; exact hW⟩, hS.F hu⟩) hS.2.2 dX5_crowdOn_63
          · have hf := ifp h7 hf
            refine lv_iload_n hx hb dX5_crowdOn_38 rfl (lv_at hl 2 rfl) ?_
            refine lv_aload_n hx hb dX5_crowdOn_39 rfl (lv_at hl 0 rfl) ?_
            refine lv_iload_n hx hb dX5_crowdOn_40 rfl (lv_at hl 3 rfl) ?_
            refine lv_iconst (v := 4) hx hb dX5_crowdOn_41 (by decide) ?_
            obtain ⟨y8, u9, hf⟩ := b1_e hf
            refine mV (k := 193) (q := (5, 0)) (C := RX5) (T := TX5) (N := 14) (ci := 5) (n := 2) (As := [.int x3, .int 4]) (rest := [.int x2]) (c_X5_of l D t b τ x3 4 y8 u9) sh_193 (by decide) rfl rfl hx hb hml hown hts hE hW hS q1353 q1355 q51 q96 q1356 hy_X5_of ⟨rfl, rfl⟩ ⟨Nat.le_of_ble_eq_true rfl, Nat.le_of_ble_eq_true rfl⟩ rfl rfl hl.1 (Nat.le_of_ble_eq_true rfl) ⟨Nat.zero_le _, Nat.zero_le _⟩ dX5_crowdOn_42 (fun H locs hW hS => ?_)
            refine lv_iload_n hx hb dX5_crowdOn_45 rfl (lv_at hl 1 rfl) ?_
            refine lv_icmp_ne (tgt := 53) hx hb dX5_crowdOn_46 (by decide) (fun h10 => ?_) (fun h10 => ?_)
            · have hf := ifn h10 hf
              refine lv_iconst (v := 0) hx hb dX5_crowdOn_53 (by decide) ?_
              refine lv_iadd hx hb dX5_crowdOn_54 ?_
              refine lv_istore_n (lv' := [(2, .int (x2 + 0)), (0, .ref (b + 193)), (1, .int x1), (3, .int x3)]) hx hb dX5_crowdOn_55 rfl hl (by decide) rfl (fun ls hl => ?_)
              refine lv_iinc (v := (x3 + 1)) (lv' := [(3, .int (x3 + 1)), (2, .int (x2 + 0)), (0, .ref (b + 193)), (1, .int x1)]) hx hb dX5_crowdOn_56 hl (k := 3) rfl (by rfl) (by decide) rfl (fun ls hl => ?_)
              refine lv_goto (tgt := 20) hx hb dX5_crowdOn_59 (by decide) ?_
              exact ih_20 τ x1 (x2 + 0) (x3 + 1) _ _ _ hf hW hS (lv_sub hl [2, 3, 1, 0] rfl)
            · have hf := ifp h10 hf
              refine lv_iconst (v := 1) hx hb dX5_crowdOn_49 (by decide) ?_
              refine lv_goto (tgt := 54) hx hb dX5_crowdOn_50 (by decide) ?_
              refine lv_iadd hx hb dX5_crowdOn_54 ?_
              refine lv_istore_n (lv' := [(2, .int (x2 + 1)), (0, .ref (b + 193)), (1, .int x1), (3, .int x3)]) hx hb dX5_crowdOn_55 rfl hl (by decide) rfl (fun ls hl => ?_)
              refine lv_iinc (v := (x3 + 1)) (lv' := [(3, .int (x3 + 1)), (2, .int (x2 + 1)), (0, .ref (b + 193)), (1, .int x1)]) hx hb dX5_crowdOn_56 hl (k := 3) rfl (by rfl) (by decide) rfl (fun ls hl => ?_)
              refine lv_goto (tgt := 20) hx hb dX5_crowdOn_59 (by decide) ?_
              exact ih_20 τ x1 (x2 + 1) (x3 + 1) _ _ _ hf hW hS (lv_sub hl [2, 3, 1, 0] rfl)
    exact key_20 10000 σ4 p1 0 0 _ _ _ hf hW hS (lv_sub hl [2, 3, 1, 0] rfl)
  · have hf := ifn h3 hf
    refine lv_iconst (v := 0) hx hb dX5_crowdOn_8 (by decide) ?_
    refine lv_goto (tgt := 13) hx hb dX5_crowdOn_9 (by decide) ?_
    refine putX (k := 193) (q := (5, 0)) (ci := 5) (x := 0) inA5 tyX5_ok nmX5 rfl (by decide) rfl hx hb hta hown hE.1 hW hS sh_193 10 (by decide) q1191 rfl rfl rfl (Nat.le_of_ble_eq_true rfl) rfl dX5_crowdOn_13 (fun H locs hW hS => ?_)
    obtain ⟨σ11, e12, hf⟩ := st_e hf
    rw [e12] at hW
    refine lv_iconst (v := 0) hx hb dX5_crowdOn_16 (by decide) ?_
    refine lv_istore_n (lv' := [(2, .int 0), (0, .ref (b + 193)), (1, .int p1)]) hx hb dX5_crowdOn_17 rfl hl (by decide) rfl (fun ls hl => ?_)
    refine lv_iconst (v := 0) hx hb dX5_crowdOn_18 (by decide) ?_
    refine lv_istore_n (lv' := [(3, .int 0), (2, .int 0), (0, .ref (b + 193)), (1, .int p1)]) hx hb dX5_crowdOn_19 rfl hl (by decide) rfl (fun ls hl => ?_)
    have key_20 : ∀ (n : Nat) (τ : Sg) (x1 : Int32) (x2 : Int32) (x3 : Int32) (H : Heap) (locs : List Loc) (ls : Array Slot), l_X5_crowdOn_20 n τ x1 x2 x3 = some (r, σr) → wd D t b τ H → va_S (geA b) s.heap H locs → lv_has ls 4 [(0, .ref (b + 193)), (1, .int x1), (2, .int x2), (3, .int x3)] → W p l e (headSpec (Cond.code yX5_crowdOn cX5_crowdOn 4 (some .int) :: ALL) ({ frames := 2, cells := 0, slots := 0, locals := 42 })).room s m (([.ref (b + 193), .int p1] : List Value).toArray) below meth c H locs 0 0 (MQ below (QG D t b σr (some (.int r))) (([.ref (b + 193), .int p1] : List Value).toArray) s 0 0 (geA b)) (F0 m 20 ls []) := by
      intro n
      induction n with
      | zero =>
        intro τ x1 x2 x3 H locs ls hf
        rw [l_X5_crowdOn_20.eq_1] at hf
        cases hf
      | succ n ih_20 =>
        intro τ x1 x2 x3 H locs ls hf hW hS hl
        rw [l_X5_crowdOn_20.eq_2] at hf
        refine lv_iload_n hx hb dX5_crowdOn_20 rfl (lv_at hl 3 rfl) ?_
        refine lv_aload_n hx hb dX5_crowdOn_21 rfl (lv_at hl 0 rfl) ?_
        refine getM hx hb hta hown hE.1 hW 0 (by decide) q1181 rfl dX5_crowdOn_22 ?_
        refine lv_bipush (v := 9) hx hb dX5_crowdOn_25 (by decide) ?_
        refine iald hx hb hE.1 hW sh_194 (vp_lit (by decide +kernel)) dX5_crowdOn_27 ?_
        refine lv_icmp_ge (tgt := 62) hx hb dX5_crowdOn_28 (by decide) (fun h13 => ?_) (fun h13 => ?_)
        · have hf := ifp h13 hf
          refine lv_iload_n hx hb dX5_crowdOn_62 rfl (lv_at hl 2 rfl) ?_
          cases hf
          exact W.iret hx hb hr (fun u hu _ => ⟨⟨rfl, by rw [hu]; exact hW⟩, hS.F hu⟩) hS.2.2 dX5_crowdOn_63
        · have hf := ifn h13 hf
          refine lv_aload_n hx hb dX5_crowdOn_31 rfl (lv_at hl 0 rfl) ?_
          refine getM hx hb hta hown hE.1 hW 10 (by decide) q1191 rfl dX5_crowdOn_32 ?_
          refine lv_if_ne (tgt := 62) hx hb dX5_crowdOn_35 (by decide) (fun h14 => ?_) (fun h14 => ?_)
          · have hf := ifn h14 hf
            refine lv_iload_n hx hb dX5_crowdOn_62 rfl (lv_at hl 2 rfl) ?_
            cases hf
            exact W.iret hx hb hr (fun u hu _ => ⟨⟨rfl, by rw [hu]; exact hW⟩, hS.F hu⟩) hS.2.2 dX5_crowdOn_63
          · have hf := ifp h14 hf
            refine lv_iload_n hx hb dX5_crowdOn_38 rfl (lv_at hl 2 rfl) ?_
            refine lv_aload_n hx hb dX5_crowdOn_39 rfl (lv_at hl 0 rfl) ?_
            refine lv_iload_n hx hb dX5_crowdOn_40 rfl (lv_at hl 3 rfl) ?_
            refine lv_iconst (v := 4) hx hb dX5_crowdOn_41 (by decide) ?_
            obtain ⟨y15, u16, hf⟩ := b1_e hf
            refine mV (k := 193) (q := (5, 0)) (C := RX5) (T := TX5) (N := 14) (ci := 5) (n := 2) (As := [.int x3, .int 4]) (rest := [.int x2]) (c_X5_of l D t b τ x3 4 y15 u16) sh_193 (by decide) rfl rfl hx hb hml hown hts hE hW hS q1353 q1355 q51 q96 q1356 hy_X5_of ⟨rfl, rfl⟩ ⟨Nat.le_of_ble_eq_true rfl, Nat.le_of_ble_eq_true rfl⟩ rfl rfl hl.1 (Nat.le_of_ble_eq_true rfl) ⟨Nat.zero_le _, Nat.zero_le _⟩ dX5_crowdOn_42 (fun H locs hW hS => ?_)
            refine lv_iload_n hx hb dX5_crowdOn_45 rfl (lv_at hl 1 rfl) ?_
            refine lv_icmp_ne (tgt := 53) hx hb dX5_crowdOn_46 (by decide) (fun h17 => ?_) (fun h17 => ?_)
            · have hf := ifn h17 hf
              refine lv_iconst (v := 0) hx hb dX5_crowdOn_53 (by decide) ?_
              refine lv_iadd hx hb dX5_crowdOn_54 ?_
              refine lv_istore_n (lv' := [(2, .int (x2 + 0)), (0, .ref (b + 193)), (1, .int x1), (3, .int x3)]) hx hb dX5_crowdOn_55 rfl hl (by decide) rfl (fun ls hl => ?_)
              refine lv_iinc (v := (x3 + 1)) (lv' := [(3, .int (x3 + 1)), (2, .int (x2 + 0)), (0, .ref (b + 193)), (1, .int x1)]) hx hb dX5_crowdOn_56 hl (k := 3) rfl (by rfl) (by decide) rfl (fun ls hl => ?_)
              refine lv_goto (tgt := 20) hx hb dX5_crowdOn_59 (by decide) ?_
              exact ih_20 τ x1 (x2 + 0) (x3 + 1) _ _ _ hf hW hS (lv_sub hl [2, 3, 1, 0] rfl)
            · have hf := ifp h17 hf
              refine lv_iconst (v := 1) hx hb dX5_crowdOn_49 (by decide) ?_
              refine lv_goto (tgt := 54) hx hb dX5_crowdOn_50 (by decide) ?_
              refine lv_iadd hx hb dX5_crowdOn_54 ?_
              refine lv_istore_n (lv' := [(2, .int (x2 + 1)), (0, .ref (b + 193)), (1, .int x1), (3, .int x3)]) hx hb dX5_crowdOn_55 rfl hl (by decide) rfl (fun ls hl => ?_)
              refine lv_iinc (v := (x3 + 1)) (lv' := [(3, .int (x3 + 1)), (2, .int (x2 + 1)), (0, .ref (b + 193)), (1, .int x1)]) hx hb dX5_crowdOn_56 hl (k := 3) rfl (by rfl) (by decide) rfl (fun ls hl => ?_)
              refine lv_goto (tgt := 20) hx hb dX5_crowdOn_59 (by decide) ?_
              exact ih_20 τ x1 (x2 + 1) (x3 + 1) _ _ _ hf hW hS (lv_sub hl [2, 3, 1, 0] rfl)
    exact key_20 10000 σ11 p1 0 0 _ _ _ hf hW hS (lv_sub hl [2, 3, 1, 0] rfl)
def f_X5_day (σ : Sg) : Option (Int32 × Sg) := b2 (f_X5_count σ 6) fun y1 σ3 => some (y1, σ3)
set_option maxHeartbeats 4000000 in
set_option maxRecDepth 100000 in
theorem c_X5_day (l : Launch) (D : va_G) (t : Nat → ClassId) (b : Nat) (σ : Sg) (r : Int32) (σr : Sg) (hf : f_X5_day σ = some (r, σr)) : Met l yX5_day (Cond.code yX5_day cX5_day 1 (some .int) :: ALL) ({ frames := 1, cells := 0, slots := 0, locals := 21 }) (PM D t b σ [.ref (b + 193)]) (QG D t b σr (some (.int r))) 0 0 (geA b) := by
  refine Met.ofW (cc := cX5_day) (maxL := 1) (ret := (some .int)) (by decide) rfl ?_
  intro p e s m args below meth c s₁ B hml hv
  obtain ⟨rfl, hW, hE⟩ := hv
  have hx := B.exec
  have hb := B.bytes
  have hr := B.returns
  have hts := atoms_spec (ws := Cond.code yX5_day cX5_day 1 (some .int) :: ALL) B.pre
  have hta := fun w h => hts w (List.mem_cons_of_mem _ h)
  have hown : s.vm.findClass RX5 = some m.cls := findClass_of_methodNamed B.named
  have hlocks := B.notSynchronized
  have hS : va_S (geA b) s.heap s.heap [] := va_S.rf
  have hl := lv_entry ([.ref (b + 193)]) (n := 1) (Nat.le_of_ble_eq_true rfl)
  rw [lg_entry_eq]
  generalize (lg_sl ([.ref (b + 193)]) ++ List.replicate (1 - (lg_sl ([.ref (b + 193)])).length) Slot.unset).toArray = ls at hl ⊢
  have hl : lv_has ls 1 [(0, .ref (b + 193))] := hl
  unfold f_X5_day at hf
  refine lv_aload_n hx hb dX5_day_0 rfl (lv_at hl 0 rfl) ?_
  refine lv_bipush (v := 6) hx hb dX5_day_1 (by decide) ?_
  obtain ⟨y1, σ3, u2, hf⟩ := b2_e hf
  refine mV (k := 193) (q := (5, 0)) (C := RX5) (T := TX5) (N := 14) (ci := 5) (n := 1) (As := [.int 6]) (rest := []) (c_X5_count l D t b σ 6 y1 σ3 u2) sh_193 (by decide) rfl rfl hx hb hml hown hts hE hW hS q1536 q1538 q82 q96 q1539 hy_X5_count ⟨rfl, rfl⟩ ⟨Nat.le_of_ble_eq_true rfl, Nat.le_of_ble_eq_true rfl⟩ rfl rfl hl.1 (Nat.le_of_ble_eq_true rfl) ⟨Nat.zero_le _, Nat.zero_le _⟩ dX5_day_3 (fun H locs hW hS => ?_)
  cases hf
  exact W.iret hx hb hr (fun u hu _ => ⟨⟨rfl, by rw [hu]; exact hW⟩, hS.F hu⟩) hS.2.2 dX5_day_6
def f_X5_round (σ : Sg) : Option (Int32 × Sg) := b2 (f_X5_count σ 7) fun y1 σ3 => some (y1, σ3)
set_option maxHeartbeats 4000000 in
set_option maxRecDepth 100000 in
theorem c_X5_round (l : Launch) (D : va_G) (t : Nat → ClassId) (b : Nat) (σ : Sg) (r : Int32) (σr : Sg) (hf : f_X5_round σ = some (r, σr)) : Met l yX5_round (Cond.code yX5_round cX5_round 1 (some .int) :: ALL) ({ frames := 1, cells := 0, slots := 0, locals := 21 }) (PM D t b σ [.ref (b + 193)]) (QG D t b σr (some (.int r))) 0 0 (geA b) := by
  refine Met.ofW (cc := cX5_round) (maxL := 1) (ret := (some .int)) (by decide) rfl ?_
  intro p e s m args below meth c s₁ B hml hv
  obtain ⟨rfl, hW, hE⟩ := hv
  have hx := B.exec
  have hb := B.bytes
  have hr := B.returns
  have hts := atoms_spec (ws := Cond.code yX5_round cX5_round 1 (some .int) :: ALL) B.pre
  have hta := fun w h => hts w (List.mem_cons_of_mem _ h)
  have hown : s.vm.findClass RX5 = some m.cls := findClass_of_methodNamed B.named
  have hlocks := B.notSynchronized
  have hS : va_S (geA b) s.heap s.heap [] := va_S.rf
  have hl := lv_entry ([.ref (b + 193)]) (n := 1) (Nat.le_of_ble_eq_true rfl)
  rw [lg_entry_eq]
  generalize (lg_sl ([.ref (b + 193)]) ++ List.replicate (1 - (lg_sl ([.ref (b + 193)])).length) Slot.unset).toArray = ls at hl ⊢
  have hl : lv_has ls 1 [(0, .ref (b + 193))] := hl
  unfold f_X5_round at hf
  refine lv_aload_n hx hb dX5_round_0 rfl (lv_at hl 0 rfl) ?_
  refine lv_bipush (v := 7) hx hb dX5_round_1 (by decide) ?_
  obtain ⟨y1, σ3, u2, hf⟩ := b2_e hf
  refine mV (k := 193) (q := (5, 0)) (C := RX5) (T := TX5) (N := 14) (ci := 5) (n := 1) (As := [.int 7]) (rest := []) (c_X5_count l D t b σ 7 y1 σ3 u2) sh_193 (by decide) rfl rfl hx hb hml hown hts hE hW hS q1536 q1538 q82 q96 q1539 hy_X5_count ⟨rfl, rfl⟩ ⟨Nat.le_of_ble_eq_true rfl, Nat.le_of_ble_eq_true rfl⟩ rfl rfl hl.1 (Nat.le_of_ble_eq_true rfl) ⟨Nat.zero_le _, Nat.zero_le _⟩ dX5_round_3 (fun H locs hW hS => ?_)
  cases hf
  exact W.iret hx hb hr (fun u hu _ => ⟨⟨rfl, by rw [hu]; exact hW⟩, hS.F hu⟩) hS.2.2 dX5_round_6
def f_X5_rainIn (σ : Sg) (p1 : Int32) : Option (Int32 × Sg) := b1 (f_X5_isHour σ p1) fun y1 => if y1 = 0 then (st (u2 σ 193 10 1) fun σ4 => if (σ4 193 10) ≤ 0 then (b1 (f_X5_rain σ4 p1) fun y7 => some (y7, σ4)) else (some (0, σ4))) else (st (u2 σ 193 10 0) fun σ9 => if (σ9 193 10) ≤ 0 then (b1 (f_X5_rain σ9 p1) fun y12 => some (y12, σ9)) else (some (0, σ9)))
set_option maxHeartbeats 4000000 in
set_option maxRecDepth 100000 in
theorem c_X5_rainIn (l : Launch) (D : va_G) (t : Nat → ClassId) (b : Nat) (σ : Sg) (p1 : Int32) (r : Int32) (σr : Sg) (hf : f_X5_rainIn σ p1 = some (r, σr)) : Met l yX5_rainIn (Cond.code yX5_rainIn cX5_rainIn 2 (some .int) :: ALL) ({ frames := 2, cells := 0, slots := 0, locals := 42 }) (PM D t b σ [.ref (b + 193), .int p1]) (QG D t b σr (some (.int r))) 0 0 (geA b) := by
  refine Met.ofW (cc := cX5_rainIn) (maxL := 2) (ret := (some .int)) (by decide) rfl ?_
  intro p e s m args below meth c s₁ B hml hv
  obtain ⟨rfl, hW, hE⟩ := hv
  have hx := B.exec
  have hb := B.bytes
  have hr := B.returns
  have hts := atoms_spec (ws := Cond.code yX5_rainIn cX5_rainIn 2 (some .int) :: ALL) B.pre
  have hta := fun w h => hts w (List.mem_cons_of_mem _ h)
  have hown : s.vm.findClass RX5 = some m.cls := findClass_of_methodNamed B.named
  have hlocks := B.notSynchronized
  have hS : va_S (geA b) s.heap s.heap [] := va_S.rf
  have hl := lv_entry ([.ref (b + 193), .int p1]) (n := 2) (Nat.le_of_ble_eq_true rfl)
  rw [lg_entry_eq]
  generalize (lg_sl ([.ref (b + 193), .int p1]) ++ List.replicate (2 - (lg_sl ([.ref (b + 193), .int p1])).length) Slot.unset).toArray = ls at hl ⊢
  have hl : lv_has ls 2 [(0, .ref (b + 193)), (1, .int p1)] := hl
  unfold f_X5_rainIn at hf
  refine lv_aload_n hx hb dX5_rainIn_0 rfl (lv_at hl 0 rfl) ?_
  refine lv_iload_n hx hb dX5_rainIn_1 rfl (lv_at hl 1 rfl) ?_
  obtain ⟨y1, u2, hf⟩ := b1_e hf
  refine mS (n := 1) (As := [.int p1]) (rest := [.ref (b + 193)]) (c_X5_isHour l D t b σ p1 y1 u2) hx hb hml hown hts hE hW hS q1369 q1370 q96 q1371 hs_X5_isHour ⟨rfl, rfl⟩ ⟨Nat.le_of_ble_eq_true rfl, Nat.le_of_ble_eq_true rfl⟩ rfl rfl hl.1 (Nat.le_of_ble_eq_true rfl) ⟨Nat.zero_le _, Nat.zero_le _⟩ dX5_rainIn_2 (fun H locs hW hS => ?_)
  refine lv_if_eq (tgt := 12) hx hb dX5_rainIn_5 (by decide) (fun h3 => ?_) (fun h3 => ?_)
  · have hf := ifp h3 hf
    refine lv_iconst (v := 1) hx hb dX5_rainIn_12 (by decide) ?_
    refine putX (k := 193) (q := (5, 0)) (ci := 5) (x := 1) inA5 tyX5_ok nmX5 rfl (by decide) rfl hx hb hta hown hE.1 hW hS sh_193 10 (by decide) q1191 rfl rfl rfl (Nat.le_of_ble_eq_true rfl) rfl dX5_rainIn_13 (fun H locs hW hS => ?_)
    obtain ⟨σ4, e5, hf⟩ := st_e hf
    rw [e5] at hW
    refine lv_aload_n hx hb dX5_rainIn_16 rfl (lv_at hl 0 rfl) ?_
    refine getM hx hb hta hown hE.1 hW 10 (by decide) q1191 rfl dX5_rainIn_17 ?_
    refine lv_if_le (tgt := 27) hx hb dX5_rainIn_20 (by decide) (fun h6 => ?_) (fun h6 => ?_)
    · have hf := ifp h6 hf
      refine lv_aload_n hx hb dX5_rainIn_27 rfl (lv_at hl 0 rfl) ?_
      refine lv_iload_n hx hb dX5_rainIn_28 rfl (lv_at hl 1 rfl) ?_
      obtain ⟨y7, u8, hf⟩ := b1_e hf
      refine mV (k := 193) (q := (5, 0)) (C := RX5) (T := TX5) (N := 14) (ci := 5) (n := 1) (As := [.int p1]) (rest := []) (c_X5_rain l D t b σ4 p1 y7 u8) sh_193 (by decide) rfl rfl hx hb hml hown hts hE hW hS q1392 q1394 q58 q96 q1395 hy_X5_rain ⟨rfl, rfl⟩ ⟨Nat.le_of_ble_eq_true rfl, Nat.le_of_ble_eq_true rfl⟩ rfl rfl hl.1 (Nat.le_of_ble_eq_true rfl) ⟨Nat.zero_le _, Nat.zero_le _⟩ dX5_rainIn_29 (fun H locs hW hS => ?_)
      cases hf
      exact W.iret hx hb hr (fun u hu _ => ⟨⟨rfl, by rw [hu]; exact hW⟩, hS.F hu⟩) hS.2.2 dX5_rainIn_32
    · have hf := ifn h6 hf
      refine lv_iconst (v := 0) hx hb dX5_rainIn_23 (by decide) ?_
      refine lv_goto (tgt := 32) hx hb dX5_rainIn_24 (by decide) ?_
      cases hf
      exact W.iret hx hb hr (fun u hu _ => ⟨⟨rfl, by rw [hu]; exact hW⟩, hS.F hu⟩) hS.2.2 dX5_rainIn_32
  · have hf := ifn h3 hf
    refine lv_iconst (v := 0) hx hb dX5_rainIn_8 (by decide) ?_
    refine lv_goto (tgt := 13) hx hb dX5_rainIn_9 (by decide) ?_
    refine putX (k := 193) (q := (5, 0)) (ci := 5) (x := 0) inA5 tyX5_ok nmX5 rfl (by decide) rfl hx hb hta hown hE.1 hW hS sh_193 10 (by decide) q1191 rfl rfl rfl (Nat.le_of_ble_eq_true rfl) rfl dX5_rainIn_13 (fun H locs hW hS => ?_)
    obtain ⟨σ9, e10, hf⟩ := st_e hf
    rw [e10] at hW
    refine lv_aload_n hx hb dX5_rainIn_16 rfl (lv_at hl 0 rfl) ?_
    refine getM hx hb hta hown hE.1 hW 10 (by decide) q1191 rfl dX5_rainIn_17 ?_
    refine lv_if_le (tgt := 27) hx hb dX5_rainIn_20 (by decide) (fun h11 => ?_) (fun h11 => ?_)
    · have hf := ifp h11 hf
      refine lv_aload_n hx hb dX5_rainIn_27 rfl (lv_at hl 0 rfl) ?_
      refine lv_iload_n hx hb dX5_rainIn_28 rfl (lv_at hl 1 rfl) ?_
      obtain ⟨y12, u13, hf⟩ := b1_e hf
      refine mV (k := 193) (q := (5, 0)) (C := RX5) (T := TX5) (N := 14) (ci := 5) (n := 1) (As := [.int p1]) (rest := []) (c_X5_rain l D t b σ9 p1 y12 u13) sh_193 (by decide) rfl rfl hx hb hml hown hts hE hW hS q1392 q1394 q58 q96 q1395 hy_X5_rain ⟨rfl, rfl⟩ ⟨Nat.le_of_ble_eq_true rfl, Nat.le_of_ble_eq_true rfl⟩ rfl rfl hl.1 (Nat.le_of_ble_eq_true rfl) ⟨Nat.zero_le _, Nat.zero_le _⟩ dX5_rainIn_29 (fun H locs hW hS => ?_)
      cases hf
      exact W.iret hx hb hr (fun u hu _ => ⟨⟨rfl, by rw [hu]; exact hW⟩, hS.F hu⟩) hS.2.2 dX5_rainIn_32
    · have hf := ifn h11 hf
      refine lv_iconst (v := 0) hx hb dX5_rainIn_23 (by decide) ?_
      refine lv_goto (tgt := 32) hx hb dX5_rainIn_24 (by decide) ?_
      cases hf
      exact W.iret hx hb hr (fun u hu _ => ⟨⟨rfl, by rw [hu]; exact hW⟩, hS.F hu⟩) hS.2.2 dX5_rainIn_32
def f_X5_isChildDue (σ : Sg) : Option (Int32 × Sg) := st (u2 σ 193 10 0) fun σ1 => b1 (f_X5_isDue σ1) fun y3 => gd y3 2 (some (y3, σ1))
set_option maxHeartbeats 4000000 in
set_option maxRecDepth 100000 in
theorem c_X5_isChildDue (l : Launch) (D : va_G) (t : Nat → ClassId) (b : Nat) (σ : Sg) (r : Int32) (σr : Sg) (hf : f_X5_isChildDue σ = some (r, σr)) : Met l yX5_isChildDue (Cond.code yX5_isChildDue cX5_isChildDue 1 (some .boolean) :: ALL) ({ frames := 5, cells := 0, slots := 0, locals := 106 }) (PM D t b σ [.ref (b + 193)]) (QG D t b σr (some (.int r))) 0 0 (geA b) := by
  refine Met.ofW (cc := cX5_isChildDue) (maxL := 1) (ret := (some .boolean)) (by decide) rfl ?_
  intro p e s m args below meth c s₁ B hml hv
  obtain ⟨rfl, hW, hE⟩ := hv
  have hx := B.exec
  have hb := B.bytes
  have hr := B.returns
  have hts := atoms_spec (ws := Cond.code yX5_isChildDue cX5_isChildDue 1 (some .boolean) :: ALL) B.pre
  have hta := fun w h => hts w (List.mem_cons_of_mem _ h)
  have hown : s.vm.findClass RX5 = some m.cls := findClass_of_methodNamed B.named
  have hlocks := B.notSynchronized
  have hS : va_S (geA b) s.heap s.heap [] := va_S.rf
  have hl := lv_entry ([.ref (b + 193)]) (n := 1) (Nat.le_of_ble_eq_true rfl)
  rw [lg_entry_eq]
  generalize (lg_sl ([.ref (b + 193)]) ++ List.replicate (1 - (lg_sl ([.ref (b + 193)])).length) Slot.unset).toArray = ls at hl ⊢
  have hl : lv_has ls 1 [(0, .ref (b + 193))] := hl
  unfold f_X5_isChildDue at hf
  refine lv_aload_n hx hb dX5_isChildDue_0 rfl (lv_at hl 0 rfl) ?_
  refine lv_iconst (v := 0) hx hb dX5_isChildDue_1 (by decide) ?_
  refine putX (k := 193) (q := (5, 0)) (ci := 5) (x := 0) inA5 tyX5_ok nmX5 rfl (by decide) rfl hx hb hta hown hE.1 hW hS sh_193 10 (by decide) q1191 rfl rfl rfl (Nat.le_of_ble_eq_true rfl) rfl dX5_isChildDue_2 (fun H locs hW hS => ?_)
  obtain ⟨σ1, e2, hf⟩ := st_e hf
  rw [e2] at hW
  refine lv_aload_n hx hb dX5_isChildDue_5 rfl (lv_at hl 0 rfl) ?_
  obtain ⟨y3, u4, hf⟩ := b1_e hf
  refine mV (k := 193) (q := (5, 0)) (C := RX5) (T := TX5) (N := 14) (ci := 5) (n := 0) (As := []) (rest := []) (c_X5_isDue l D t b σ1 y3 u4) sh_193 (by decide) rfl rfl hx hb hml hown hts hE hW hS q1396 q1398 q59 q96 q1399 hy_X5_isDue ⟨rfl, rfl⟩ ⟨Nat.le_of_ble_eq_true rfl, Nat.le_of_ble_eq_true rfl⟩ rfl rfl hl.1 (Nat.le_of_ble_eq_true rfl) ⟨Nat.zero_le _, Nat.zero_le _⟩ dX5_isChildDue_6 (fun H locs hW hS => ?_)
  obtain ⟨g5, hf⟩ := gd_e hf
  cases hf
  exact W.zret (ty := .boolean) hx hb hr (nar_bool g5).1 (fun u hu _ => ⟨⟨rfl, by rw [hu]; exact hW⟩, hS.F hu⟩) hS.2.2 dX5_isChildDue_9
def f_X5_bank (σ : Sg) : Option (Int32 × Sg) := b2 (f_X5_count σ 0) fun y1 σ3 => some (y1, σ3)
set_option maxHeartbeats 4000000 in
set_option maxRecDepth 100000 in
theorem c_X5_bank (l : Launch) (D : va_G) (t : Nat → ClassId) (b : Nat) (σ : Sg) (r : Int32) (σr : Sg) (hf : f_X5_bank σ = some (r, σr)) : Met l yX5_bank (Cond.code yX5_bank cX5_bank 1 (some .int) :: ALL) ({ frames := 1, cells := 0, slots := 0, locals := 21 }) (PM D t b σ [.ref (b + 193)]) (QG D t b σr (some (.int r))) 0 0 (geA b) := by
  refine Met.ofW (cc := cX5_bank) (maxL := 1) (ret := (some .int)) (by decide) rfl ?_
  intro p e s m args below meth c s₁ B hml hv
  obtain ⟨rfl, hW, hE⟩ := hv
  have hx := B.exec
  have hb := B.bytes
  have hr := B.returns
  have hts := atoms_spec (ws := Cond.code yX5_bank cX5_bank 1 (some .int) :: ALL) B.pre
  have hta := fun w h => hts w (List.mem_cons_of_mem _ h)
  have hown : s.vm.findClass RX5 = some m.cls := findClass_of_methodNamed B.named
  have hlocks := B.notSynchronized
  have hS : va_S (geA b) s.heap s.heap [] := va_S.rf
  have hl := lv_entry ([.ref (b + 193)]) (n := 1) (Nat.le_of_ble_eq_true rfl)
  rw [lg_entry_eq]
  generalize (lg_sl ([.ref (b + 193)]) ++ List.replicate (1 - (lg_sl ([.ref (b + 193)])).length) Slot.unset).toArray = ls at hl ⊢
  have hl : lv_has ls 1 [(0, .ref (b + 193))] := hl
  unfold f_X5_bank at hf
  refine lv_aload_n hx hb dX5_bank_0 rfl (lv_at hl 0 rfl) ?_
  refine lv_iconst (v := 0) hx hb dX5_bank_1 (by decide) ?_
  obtain ⟨y1, σ3, u2, hf⟩ := b2_e hf
  refine mV (k := 193) (q := (5, 0)) (C := RX5) (T := TX5) (N := 14) (ci := 5) (n := 1) (As := [.int 0]) (rest := []) (c_X5_count l D t b σ 0 y1 σ3 u2) sh_193 (by decide) rfl rfl hx hb hml hown hts hE hW hS q1536 q1538 q82 q96 q1539 hy_X5_count ⟨rfl, rfl⟩ ⟨Nat.le_of_ble_eq_true rfl, Nat.le_of_ble_eq_true rfl⟩ rfl rfl hl.1 (Nat.le_of_ble_eq_true rfl) ⟨Nat.zero_le _, Nat.zero_le _⟩ dX5_bank_2 (fun H locs hW hS => ?_)
  cases hf
  exact W.iret hx hb hr (fun u hu _ => ⟨⟨rfl, by rw [hu]; exact hW⟩, hS.F hu⟩) hS.2.2 dX5_bank_5
def f_X5_town (σ : Sg) : Option (Int32 × Sg) := b2 (f_X5_count σ 1) fun y1 σ3 => some (y1, σ3)
set_option maxHeartbeats 4000000 in
set_option maxRecDepth 100000 in
theorem c_X5_town (l : Launch) (D : va_G) (t : Nat → ClassId) (b : Nat) (σ : Sg) (r : Int32) (σr : Sg) (hf : f_X5_town σ = some (r, σr)) : Met l yX5_town (Cond.code yX5_town cX5_town 1 (some .int) :: ALL) ({ frames := 1, cells := 0, slots := 0, locals := 21 }) (PM D t b σ [.ref (b + 193)]) (QG D t b σr (some (.int r))) 0 0 (geA b) := by
  refine Met.ofW (cc := cX5_town) (maxL := 1) (ret := (some .int)) (by decide) rfl ?_
  intro p e s m args below meth c s₁ B hml hv
  obtain ⟨rfl, hW, hE⟩ := hv
  have hx := B.exec
  have hb := B.bytes
  have hr := B.returns
  have hts := atoms_spec (ws := Cond.code yX5_town cX5_town 1 (some .int) :: ALL) B.pre
  have hta := fun w h => hts w (List.mem_cons_of_mem _ h)
  have hown : s.vm.findClass RX5 = some m.cls := findClass_of_methodNamed B.named
  have hlocks := B.notSynchronized
  have hS : va_S (geA b) s.heap s.heap [] := va_S.rf
  have hl := lv_entry ([.ref (b + 193)]) (n := 1) (Nat.le_of_ble_eq_true rfl)
  rw [lg_entry_eq]
  generalize (lg_sl ([.ref (b + 193)]) ++ List.replicate (1 - (lg_sl ([.ref (b + 193)])).length) Slot.unset).toArray = ls at hl ⊢
  have hl : lv_has ls 1 [(0, .ref (b + 193))] := hl
  unfold f_X5_town at hf
  refine lv_aload_n hx hb dX5_town_0 rfl (lv_at hl 0 rfl) ?_
  refine lv_iconst (v := 1) hx hb dX5_town_1 (by decide) ?_
  obtain ⟨y1, σ3, u2, hf⟩ := b2_e hf
  refine mV (k := 193) (q := (5, 0)) (C := RX5) (T := TX5) (N := 14) (ci := 5) (n := 1) (As := [.int 1]) (rest := []) (c_X5_count l D t b σ 1 y1 σ3 u2) sh_193 (by decide) rfl rfl hx hb hml hown hts hE hW hS q1536 q1538 q82 q96 q1539 hy_X5_count ⟨rfl, rfl⟩ ⟨Nat.le_of_ble_eq_true rfl, Nat.le_of_ble_eq_true rfl⟩ rfl rfl hl.1 (Nat.le_of_ble_eq_true rfl) ⟨Nat.zero_le _, Nat.zero_le _⟩ dX5_town_2 (fun H locs hW hS => ?_)
  cases hf
  exact W.iret hx hb hr (fun u hu _ => ⟨⟨rfl, by rw [hu]; exact hW⟩, hS.F hu⟩) hS.2.2 dX5_town_5
def f_X5_all (σ : Sg) : Option (Int32 × Sg) := st (u2 σ 193 10 0) fun σ1 => some ((500 + (σ1 194 (3 : Int32).toNatClampNeg)), σ1)
set_option maxHeartbeats 4000000 in
set_option maxRecDepth 100000 in
theorem c_X5_all (l : Launch) (D : va_G) (t : Nat → ClassId) (b : Nat) (σ : Sg) (r : Int32) (σr : Sg) (hf : f_X5_all σ = some (r, σr)) : Met l yX5_all (Cond.code yX5_all cX5_all 1 (some .int) :: ALL) ({ frames := 0, cells := 0, slots := 0, locals := 0 }) (PM D t b σ [.ref (b + 193)]) (QG D t b σr (some (.int r))) 0 0 (geA b) := by
  refine Met.ofW (cc := cX5_all) (maxL := 1) (ret := (some .int)) (by decide) rfl ?_
  intro p e s m args below meth c s₁ B hml hv
  obtain ⟨rfl, hW, hE⟩ := hv
  have hx := B.exec
  have hb := B.bytes
  have hr := B.returns
  have hts := atoms_spec (ws := Cond.code yX5_all cX5_all 1 (some .int) :: ALL) B.pre
  have hta := fun w h => hts w (List.mem_cons_of_mem _ h)
  have hown : s.vm.findClass RX5 = some m.cls := findClass_of_methodNamed B.named
  have hlocks := B.notSynchronized
  have hS : va_S (geA b) s.heap s.heap [] := va_S.rf
  have hl := lv_entry ([.ref (b + 193)]) (n := 1) (Nat.le_of_ble_eq_true rfl)
  rw [lg_entry_eq]
  generalize (lg_sl ([.ref (b + 193)]) ++ List.replicate (1 - (lg_sl ([.ref (b + 193)])).length) Slot.unset).toArray = ls at hl ⊢
  have hl : lv_has ls 1 [(0, .ref (b + 193))] := hl
  unfold f_X5_all at hf
  refine lv_aload_n hx hb dX5_all_0 rfl (lv_at hl 0 rfl) ?_
  refine lv_iconst (v := 0) hx hb dX5_all_1 (by decide) ?_
  refine putX (k := 193) (q := (5, 0)) (ci := 5) (x := 0) inA5 tyX5_ok nmX5 rfl (by decide) rfl hx hb hta hown hE.1 hW hS sh_193 10 (by decide) q1191 rfl rfl rfl (Nat.le_of_ble_eq_true rfl) rfl dX5_all_2 (fun H locs hW hS => ?_)
  obtain ⟨σ1, e2, hf⟩ := st_e hf
  rw [e2] at hW
  refine lv_sipush (v := 500) hx hb dX5_all_5 (by decide) ?_
  refine lv_aload_n hx hb dX5_all_8 rfl (lv_at hl 0 rfl) ?_
  refine getM hx hb hta hown hE.1 hW 0 (by decide) q1181 rfl dX5_all_9 ?_
  refine lv_iconst (v := 3) hx hb dX5_all_12 (by decide) ?_
  refine iald hx hb hE.1 hW sh_194 (vp_lit (by decide +kernel)) dX5_all_13 ?_
  refine lv_iadd hx hb dX5_all_14 ?_
  cases hf
  exact W.iret hx hb hr (fun u hu _ => ⟨⟨rfl, by rw [hu]; exact hW⟩, hS.F hu⟩) hS.2.2 dX5_all_15
def f_X5_allCoins (σ : Sg) : Option (Int32 × Sg) := b2 (f_X5_all σ) fun y1 σ3 => some (y1, σ3)
set_option maxHeartbeats 4000000 in
set_option maxRecDepth 100000 in
theorem c_X5_allCoins (l : Launch) (D : va_G) (t : Nat → ClassId) (b : Nat) (σ : Sg) (r : Int32) (σr : Sg) (hf : f_X5_allCoins σ = some (r, σr)) : Met l yX5_allCoins (Cond.code yX5_allCoins cX5_allCoins 1 (some .int) :: ALL) ({ frames := 1, cells := 0, slots := 0, locals := 20 }) (PM D t b σ [.ref (b + 193)]) (QG D t b σr (some (.int r))) 0 0 (geA b) := by
  refine Met.ofW (cc := cX5_allCoins) (maxL := 1) (ret := (some .int)) (by decide) rfl ?_
  intro p e s m args below meth c s₁ B hml hv
  obtain ⟨rfl, hW, hE⟩ := hv
  have hx := B.exec
  have hb := B.bytes
  have hr := B.returns
  have hts := atoms_spec (ws := Cond.code yX5_allCoins cX5_allCoins 1 (some .int) :: ALL) B.pre
  have hta := fun w h => hts w (List.mem_cons_of_mem _ h)
  have hown : s.vm.findClass RX5 = some m.cls := findClass_of_methodNamed B.named
  have hlocks := B.notSynchronized
  have hS : va_S (geA b) s.heap s.heap [] := va_S.rf
  have hl := lv_entry ([.ref (b + 193)]) (n := 1) (Nat.le_of_ble_eq_true rfl)
  rw [lg_entry_eq]
  generalize (lg_sl ([.ref (b + 193)]) ++ List.replicate (1 - (lg_sl ([.ref (b + 193)])).length) Slot.unset).toArray = ls at hl ⊢
  have hl : lv_has ls 1 [(0, .ref (b + 193))] := hl
  unfold f_X5_allCoins at hf
  refine lv_aload_n hx hb dX5_allCoins_0 rfl (lv_at hl 0 rfl) ?_
  obtain ⟨y1, σ3, u2, hf⟩ := b2_e hf
  refine mV (k := 193) (q := (5, 0)) (C := RX5) (T := TX5) (N := 14) (ci := 5) (n := 0) (As := []) (rest := []) (c_X5_all l D t b σ y1 σ3 u2) sh_193 (by decide) rfl rfl hx hb hml hown hts hE hW hS q1680 q1682 q87 q96 q1683 hy_X5_all ⟨rfl, rfl⟩ ⟨Nat.le_of_ble_eq_true rfl, Nat.le_of_ble_eq_true rfl⟩ rfl rfl hl.1 (Nat.le_of_ble_eq_true rfl) ⟨Nat.zero_le _, Nat.zero_le _⟩ dX5_allCoins_1 (fun H locs hW hS => ?_)
  cases hf
  exact W.iret hx hb hr (fun u hu _ => ⟨⟨rfl, by rw [hu]; exact hW⟩, hS.F hu⟩) hS.2.2 dX5_allCoins_4
def f_X5_coinsByPlaces (σ : Sg) : Option (Int32 × Sg) := b2 (f_X5_all σ) fun y1 σ3 => some (y1, σ3)
set_option maxHeartbeats 4000000 in
set_option maxRecDepth 100000 in
theorem c_X5_coinsByPlaces (l : Launch) (D : va_G) (t : Nat → ClassId) (b : Nat) (σ : Sg) (r : Int32) (σr : Sg) (hf : f_X5_coinsByPlaces σ = some (r, σr)) : Met l yX5_coinsByPlaces (Cond.code yX5_coinsByPlaces cX5_coinsByPlaces 1 (some .int) :: ALL) ({ frames := 1, cells := 0, slots := 0, locals := 20 }) (PM D t b σ [.ref (b + 193)]) (QG D t b σr (some (.int r))) 0 0 (geA b) := by
  refine Met.ofW (cc := cX5_coinsByPlaces) (maxL := 1) (ret := (some .int)) (by decide) rfl ?_
  intro p e s m args below meth c s₁ B hml hv
  obtain ⟨rfl, hW, hE⟩ := hv
  have hx := B.exec
  have hb := B.bytes
  have hr := B.returns
  have hts := atoms_spec (ws := Cond.code yX5_coinsByPlaces cX5_coinsByPlaces 1 (some .int) :: ALL) B.pre
  have hta := fun w h => hts w (List.mem_cons_of_mem _ h)
  have hown : s.vm.findClass RX5 = some m.cls := findClass_of_methodNamed B.named
  have hlocks := B.notSynchronized
  have hS : va_S (geA b) s.heap s.heap [] := va_S.rf
  have hl := lv_entry ([.ref (b + 193)]) (n := 1) (Nat.le_of_ble_eq_true rfl)
  rw [lg_entry_eq]
  generalize (lg_sl ([.ref (b + 193)]) ++ List.replicate (1 - (lg_sl ([.ref (b + 193)])).length) Slot.unset).toArray = ls at hl ⊢
  have hl : lv_has ls 1 [(0, .ref (b + 193))] := hl
  unfold f_X5_coinsByPlaces at hf
  refine lv_aload_n hx hb dX5_coinsByPlaces_0 rfl (lv_at hl 0 rfl) ?_
  obtain ⟨y1, σ3, u2, hf⟩ := b2_e hf
  refine mV (k := 193) (q := (5, 0)) (C := RX5) (T := TX5) (N := 14) (ci := 5) (n := 0) (As := []) (rest := []) (c_X5_all l D t b σ y1 σ3 u2) sh_193 (by decide) rfl rfl hx hb hml hown hts hE hW hS q1680 q1682 q87 q96 q1683 hy_X5_all ⟨rfl, rfl⟩ ⟨Nat.le_of_ble_eq_true rfl, Nat.le_of_ble_eq_true rfl⟩ rfl rfl hl.1 (Nat.le_of_ble_eq_true rfl) ⟨Nat.zero_le _, Nat.zero_le _⟩ dX5_coinsByPlaces_1 (fun H locs hW hS => ?_)
  cases hf
  exact W.iret hx hb hr (fun u hu _ => ⟨⟨rfl, by rw [hu]; exact hW⟩, hS.F hu⟩) hS.2.2 dX5_coinsByPlaces_4
def f_X5_takings (σ : Sg) : Option (Int32 × Sg) := b2 (f_X5_count σ 4) fun y1 σ3 => some (y1, σ3)
set_option maxHeartbeats 4000000 in
set_option maxRecDepth 100000 in
theorem c_X5_takings (l : Launch) (D : va_G) (t : Nat → ClassId) (b : Nat) (σ : Sg) (r : Int32) (σr : Sg) (hf : f_X5_takings σ = some (r, σr)) : Met l yX5_takings (Cond.code yX5_takings cX5_takings 1 (some .int) :: ALL) ({ frames := 1, cells := 0, slots := 0, locals := 21 }) (PM D t b σ [.ref (b + 193)]) (QG D t b σr (some (.int r))) 0 0 (geA b) := by
  refine Met.ofW (cc := cX5_takings) (maxL := 1) (ret := (some .int)) (by decide) rfl ?_
  intro p e s m args below meth c s₁ B hml hv
  obtain ⟨rfl, hW, hE⟩ := hv
  have hx := B.exec
  have hb := B.bytes
  have hr := B.returns
  have hts := atoms_spec (ws := Cond.code yX5_takings cX5_takings 1 (some .int) :: ALL) B.pre
  have hta := fun w h => hts w (List.mem_cons_of_mem _ h)
  have hown : s.vm.findClass RX5 = some m.cls := findClass_of_methodNamed B.named
  have hlocks := B.notSynchronized
  have hS : va_S (geA b) s.heap s.heap [] := va_S.rf
  have hl := lv_entry ([.ref (b + 193)]) (n := 1) (Nat.le_of_ble_eq_true rfl)
  rw [lg_entry_eq]
  generalize (lg_sl ([.ref (b + 193)]) ++ List.replicate (1 - (lg_sl ([.ref (b + 193)])).length) Slot.unset).toArray = ls at hl ⊢
  have hl : lv_has ls 1 [(0, .ref (b + 193))] := hl
  unfold f_X5_takings at hf
  refine lv_aload_n hx hb dX5_takings_0 rfl (lv_at hl 0 rfl) ?_
  refine lv_iconst (v := 4) hx hb dX5_takings_1 (by decide) ?_
  obtain ⟨y1, σ3, u2, hf⟩ := b2_e hf
  refine mV (k := 193) (q := (5, 0)) (C := RX5) (T := TX5) (N := 14) (ci := 5) (n := 1) (As := [.int 4]) (rest := []) (c_X5_count l D t b σ 4 y1 σ3 u2) sh_193 (by decide) rfl rfl hx hb hml hown hts hE hW hS q1536 q1538 q82 q96 q1539 hy_X5_count ⟨rfl, rfl⟩ ⟨Nat.le_of_ble_eq_true rfl, Nat.le_of_ble_eq_true rfl⟩ rfl rfl hl.1 (Nat.le_of_ble_eq_true rfl) ⟨Nat.zero_le _, Nat.zero_le _⟩ dX5_takings_2 (fun H locs hW hS => ?_)
  cases hf
  exact W.iret hx hb hr (fun u hu _ => ⟨⟨rfl, by rw [hu]; exact hW⟩, hS.F hu⟩) hS.2.2 dX5_takings_5
def f_X5_takingsByChildren (σ : Sg) : Option (Int32 × Sg) := b2 (f_X5_count σ 4) fun y1 σ3 => some (y1, σ3)
set_option maxHeartbeats 4000000 in
set_option maxRecDepth 100000 in
theorem c_X5_takingsByChildren (l : Launch) (D : va_G) (t : Nat → ClassId) (b : Nat) (σ : Sg) (r : Int32) (σr : Sg) (hf : f_X5_takingsByChildren σ = some (r, σr)) : Met l yX5_takingsByChildren (Cond.code yX5_takingsByChildren cX5_takingsByChildren 1 (some .int) :: ALL) ({ frames := 1, cells := 0, slots := 0, locals := 21 }) (PM D t b σ [.ref (b + 193)]) (QG D t b σr (some (.int r))) 0 0 (geA b) := by
  refine Met.ofW (cc := cX5_takingsByChildren) (maxL := 1) (ret := (some .int)) (by decide) rfl ?_
  intro p e s m args below meth c s₁ B hml hv
  obtain ⟨rfl, hW, hE⟩ := hv
  have hx := B.exec
  have hb := B.bytes
  have hr := B.returns
  have hts := atoms_spec (ws := Cond.code yX5_takingsByChildren cX5_takingsByChildren 1 (some .int) :: ALL) B.pre
  have hta := fun w h => hts w (List.mem_cons_of_mem _ h)
  have hown : s.vm.findClass RX5 = some m.cls := findClass_of_methodNamed B.named
  have hlocks := B.notSynchronized
  have hS : va_S (geA b) s.heap s.heap [] := va_S.rf
  have hl := lv_entry ([.ref (b + 193)]) (n := 1) (Nat.le_of_ble_eq_true rfl)
  rw [lg_entry_eq]
  generalize (lg_sl ([.ref (b + 193)]) ++ List.replicate (1 - (lg_sl ([.ref (b + 193)])).length) Slot.unset).toArray = ls at hl ⊢
  have hl : lv_has ls 1 [(0, .ref (b + 193))] := hl
  unfold f_X5_takingsByChildren at hf
  refine lv_aload_n hx hb dX5_takingsByChildren_0 rfl (lv_at hl 0 rfl) ?_
  refine lv_iconst (v := 4) hx hb dX5_takingsByChildren_1 (by decide) ?_
  obtain ⟨y1, σ3, u2, hf⟩ := b2_e hf
  refine mV (k := 193) (q := (5, 0)) (C := RX5) (T := TX5) (N := 14) (ci := 5) (n := 1) (As := [.int 4]) (rest := []) (c_X5_count l D t b σ 4 y1 σ3 u2) sh_193 (by decide) rfl rfl hx hb hml hown hts hE hW hS q1536 q1538 q82 q96 q1539 hy_X5_count ⟨rfl, rfl⟩ ⟨Nat.le_of_ble_eq_true rfl, Nat.le_of_ble_eq_true rfl⟩ rfl rfl hl.1 (Nat.le_of_ble_eq_true rfl) ⟨Nat.zero_le _, Nat.zero_le _⟩ dX5_takingsByChildren_2 (fun H locs hW hS => ?_)
  cases hf
  exact W.iret hx hb hr (fun u hu _ => ⟨⟨rfl, by rw [hu]; exact hW⟩, hS.F hu⟩) hS.2.2 dX5_takingsByChildren_5
def f_X5_plays (σ : Sg) : Option (Int32 × Sg) := b2 (f_X5_count σ 5) fun y1 σ3 => some (y1, σ3)
set_option maxHeartbeats 4000000 in
set_option maxRecDepth 100000 in
theorem c_X5_plays (l : Launch) (D : va_G) (t : Nat → ClassId) (b : Nat) (σ : Sg) (r : Int32) (σr : Sg) (hf : f_X5_plays σ = some (r, σr)) : Met l yX5_plays (Cond.code yX5_plays cX5_plays 1 (some .int) :: ALL) ({ frames := 1, cells := 0, slots := 0, locals := 21 }) (PM D t b σ [.ref (b + 193)]) (QG D t b σr (some (.int r))) 0 0 (geA b) := by
  refine Met.ofW (cc := cX5_plays) (maxL := 1) (ret := (some .int)) (by decide) rfl ?_
  intro p e s m args below meth c s₁ B hml hv
  obtain ⟨rfl, hW, hE⟩ := hv
  have hx := B.exec
  have hb := B.bytes
  have hr := B.returns
  have hts := atoms_spec (ws := Cond.code yX5_plays cX5_plays 1 (some .int) :: ALL) B.pre
  have hta := fun w h => hts w (List.mem_cons_of_mem _ h)
  have hown : s.vm.findClass RX5 = some m.cls := findClass_of_methodNamed B.named
  have hlocks := B.notSynchronized
  have hS : va_S (geA b) s.heap s.heap [] := va_S.rf
  have hl := lv_entry ([.ref (b + 193)]) (n := 1) (Nat.le_of_ble_eq_true rfl)
  rw [lg_entry_eq]
  generalize (lg_sl ([.ref (b + 193)]) ++ List.replicate (1 - (lg_sl ([.ref (b + 193)])).length) Slot.unset).toArray = ls at hl ⊢
  have hl : lv_has ls 1 [(0, .ref (b + 193))] := hl
  unfold f_X5_plays at hf
  refine lv_aload_n hx hb dX5_plays_0 rfl (lv_at hl 0 rfl) ?_
  refine lv_iconst (v := 5) hx hb dX5_plays_1 (by decide) ?_
  obtain ⟨y1, σ3, u2, hf⟩ := b2_e hf
  refine mV (k := 193) (q := (5, 0)) (C := RX5) (T := TX5) (N := 14) (ci := 5) (n := 1) (As := [.int 5]) (rest := []) (c_X5_count l D t b σ 5 y1 σ3 u2) sh_193 (by decide) rfl rfl hx hb hml hown hts hE hW hS q1536 q1538 q82 q96 q1539 hy_X5_count ⟨rfl, rfl⟩ ⟨Nat.le_of_ble_eq_true rfl, Nat.le_of_ble_eq_true rfl⟩ rfl rfl hl.1 (Nat.le_of_ble_eq_true rfl) ⟨Nat.zero_le _, Nat.zero_le _⟩ dX5_plays_2 (fun H locs hW hS => ?_)
  cases hf
  exact W.iret hx hb hr (fun u hu _ => ⟨⟨rfl, by rw [hu]; exact hW⟩, hS.F hu⟩) hS.2.2 dX5_plays_5
def f_X5_takingsToday (σ : Sg) : Option (Int32 × Sg) := st (u2 σ 193 10 0) fun σ1 => b1 (f_X5_lays 194 1785 197 1785 σ1 0 0) fun σ5 => b2 (f_X5_passes σ5 (40 - (σ5 194 (7 : Int32).toNatClampNeg))) fun y6 σ8 => b1 (f_X5_lays 197 1785 194 1785 σ8 0 0) fun σ11 => if 0 ≤ y6 then (some (((σ8 194 (4 : Int32).toNatClampNeg) - (σ5 194 (4 : Int32).toNatClampNeg)), σ11)) else (some ((-1), σ11))
set_option maxHeartbeats 4000000 in
set_option maxRecDepth 100000 in
theorem c_X5_takingsToday (l : Launch) (D : va_G) (t : Nat → ClassId) (b : Nat) (σ : Sg) (r : Int32) (σr : Sg) (hf : f_X5_takingsToday σ = some (r, σr)) : Met l yX5_takingsToday (Cond.code yX5_takingsToday cX5_takingsToday 4 (some .int) :: ALL) ({ frames := 8, cells := 0, slots := 0, locals := 181 }) (PM D t b σ [.ref (b + 193)]) (QG D t b σr (some (.int r))) 0 0 (geA b) := by
  refine Met.ofW (cc := cX5_takingsToday) (maxL := 4) (ret := (some .int)) (by decide) rfl ?_
  intro p e s m args below meth c s₁ B hml hv
  obtain ⟨rfl, hW, hE⟩ := hv
  have hx := B.exec
  have hb := B.bytes
  have hr := B.returns
  have hts := atoms_spec (ws := Cond.code yX5_takingsToday cX5_takingsToday 4 (some .int) :: ALL) B.pre
  have hta := fun w h => hts w (List.mem_cons_of_mem _ h)
  have hown : s.vm.findClass RX5 = some m.cls := findClass_of_methodNamed B.named
  have hlocks := B.notSynchronized
  have hS : va_S (geA b) s.heap s.heap [] := va_S.rf
  have hl := lv_entry ([.ref (b + 193)]) (n := 4) (Nat.le_of_ble_eq_true rfl)
  rw [lg_entry_eq]
  generalize (lg_sl ([.ref (b + 193)]) ++ List.replicate (4 - (lg_sl ([.ref (b + 193)])).length) Slot.unset).toArray = ls at hl ⊢
  have hl : lv_has ls 4 [(0, .ref (b + 193))] := hl
  unfold f_X5_takingsToday at hf
  refine lv_aload_n hx hb dX5_takingsToday_0 rfl (lv_at hl 0 rfl) ?_
  refine lv_iconst (v := 0) hx hb dX5_takingsToday_1 (by decide) ?_
  refine putX (k := 193) (q := (5, 0)) (ci := 5) (x := 0) inA5 tyX5_ok nmX5 rfl (by decide) rfl hx hb hta hown hE.1 hW hS sh_193 10 (by decide) q1191 rfl rfl rfl (Nat.le_of_ble_eq_true rfl) rfl dX5_takingsToday_2 (fun H locs hW hS => ?_)
  obtain ⟨σ1, e2, hf⟩ := st_e hf
  rw [e2] at hW
  refine lv_aload_n hx hb dX5_takingsToday_5 rfl (lv_at hl 0 rfl) ?_
  refine getM hx hb hta hown hE.1 hW 0 (by decide) q1181 rfl dX5_takingsToday_6 ?_
  refine lv_iconst (v := 0) hx hb dX5_takingsToday_9 (by decide) ?_
  refine lv_aload_n hx hb dX5_takingsToday_10 rfl (lv_at hl 0 rfl) ?_
  refine getM hx hb hta hown hE.1 hW 5 (by decide) q1186 rfl dX5_takingsToday_11 ?_
  refine lv_iconst (v := 0) hx hb dX5_takingsToday_14 (by decide) ?_
  obtain ⟨σ5, u4, hf⟩ := b1_e hf
  refine mS (n := 4) (As := [.ref (b + 194), .int 0, .ref (b + 197), .int 0]) (rest := []) (c_X5_lays l D t b 194 1785 197 1785 σ1 0 0 σ5 sh_194 sh_197 u4) hx hb hml hown hts hE hW hS q1260 q1261 q96 q1262 hs_X5_lays ⟨rfl, rfl⟩ ⟨Nat.le_of_ble_eq_true rfl, Nat.le_of_ble_eq_true rfl⟩ rfl rfl hl.1 (Nat.le_of_ble_eq_true rfl) ⟨Nat.zero_le _, Nat.zero_le _⟩ dX5_takingsToday_15 (fun H locs hW hS => ?_)
  refine lv_aload_n hx hb dX5_takingsToday_18 rfl (lv_at hl 0 rfl) ?_
  refine getM hx hb hta hown hE.1 hW 0 (by decide) q1181 rfl dX5_takingsToday_19 ?_
  refine lv_iconst (v := 4) hx hb dX5_takingsToday_22 (by decide) ?_
  refine iald hx hb hE.1 hW sh_194 (vp_lit (by decide +kernel)) dX5_takingsToday_23 ?_
  refine lv_istore_n (lv' := [(1, .int (σ5 194 (4 : Int32).toNatClampNeg)), (0, .ref (b + 193))]) hx hb dX5_takingsToday_24 rfl hl (by decide) rfl (fun ls hl => ?_)
  refine lv_aload_n hx hb dX5_takingsToday_25 rfl (lv_at hl 1 rfl) ?_
  refine lv_bipush (v := 40) hx hb dX5_takingsToday_26 (by decide) ?_
  refine lv_aload_n hx hb dX5_takingsToday_28 rfl (lv_at hl 1 rfl) ?_
  refine getM hx hb hta hown hE.1 hW 0 (by decide) q1181 rfl dX5_takingsToday_29 ?_
  refine lv_bipush (v := 7) hx hb dX5_takingsToday_32 (by decide) ?_
  refine iald hx hb hE.1 hW sh_194 (vp_lit (by decide +kernel)) dX5_takingsToday_34 ?_
  refine lv_isub hx hb dX5_takingsToday_35 ?_
  obtain ⟨y6, σ8, u7, hf⟩ := b2_e hf
  refine mV (k := 193) (q := (5, 0)) (C := RX5) (T := TX5) (N := 14) (ci := 5) (n := 1) (As := [.int (40 - (σ5 194 (7 : Int32).toNatClampNeg))]) (rest := []) (c_X5_passes l D t b σ5 (40 - (σ5 194 (7 : Int32).toNatClampNeg)) y6 σ8 u7) sh_193 (by decide) rfl rfl hx hb hml hown hts hE hW hS q1384 q1386 q56 q96 q1387 hy_X5_passes ⟨rfl, rfl⟩ ⟨Nat.le_of_ble_eq_true rfl, Nat.le_of_ble_eq_true rfl⟩ rfl rfl hl.1 (Nat.le_of_ble_eq_true rfl) ⟨Nat.zero_le _, Nat.zero_le _⟩ dX5_takingsToday_36 (fun H locs hW hS => ?_)
  refine lv_istore_n (lv' := [(2, .int y6), (1, .int (σ5 194 (4 : Int32).toNatClampNeg)), (0, .ref (b + 193))]) hx hb dX5_takingsToday_39 rfl hl (by decide) rfl (fun ls hl => ?_)
  refine lv_aload_n hx hb dX5_takingsToday_40 rfl (lv_at hl 2 rfl) ?_
  refine getM hx hb hta hown hE.1 hW 0 (by decide) q1181 rfl dX5_takingsToday_41 ?_
  refine lv_iconst (v := 4) hx hb dX5_takingsToday_44 (by decide) ?_
  refine iald hx hb hE.1 hW sh_194 (vp_lit (by decide +kernel)) dX5_takingsToday_45 ?_
  refine lv_iload_n hx hb dX5_takingsToday_46 rfl (lv_at hl 1 rfl) ?_
  refine lv_isub hx hb dX5_takingsToday_47 ?_
  refine lv_istore_n (lv' := [(3, .int ((σ8 194 (4 : Int32).toNatClampNeg) - (σ5 194 (4 : Int32).toNatClampNeg))), (2, .int y6), (1, .int (σ5 194 (4 : Int32).toNatClampNeg)), (0, .ref (b + 193))]) hx hb dX5_takingsToday_48 rfl hl (by decide) rfl (fun ls hl => ?_)
  refine lv_aload_n hx hb dX5_takingsToday_49 rfl (lv_at hl 3 rfl) ?_
  refine getM hx hb hta hown hE.1 hW 5 (by decide) q1186 rfl dX5_takingsToday_50 ?_
  refine lv_iconst (v := 0) hx hb dX5_takingsToday_53 (by decide) ?_
  refine lv_aload_n hx hb dX5_takingsToday_54 rfl (lv_at hl 3 rfl) ?_
  refine getM hx hb hta hown hE.1 hW 0 (by decide) q1181 rfl dX5_takingsToday_55 ?_
  refine lv_iconst (v := 0) hx hb dX5_takingsToday_58 (by decide) ?_
  obtain ⟨σ11, u10, hf⟩ := b1_e hf
  refine mS (n := 4) (As := [.ref (b + 197), .int 0, .ref (b + 194), .int 0]) (rest := []) (c_X5_lays l D t b 197 1785 194 1785 σ8 0 0 σ11 sh_197 sh_194 u10) hx hb hml hown hts hE hW hS q1260 q1261 q96 q1262 hs_X5_lays ⟨rfl, rfl⟩ ⟨Nat.le_of_ble_eq_true rfl, Nat.le_of_ble_eq_true rfl⟩ rfl rfl hl.1 (Nat.le_of_ble_eq_true rfl) ⟨Nat.zero_le _, Nat.zero_le _⟩ dX5_takingsToday_59 (fun H locs hW hS => ?_)
  refine lv_iload_n hx hb dX5_takingsToday_62 rfl (lv_at hl 1 rfl) ?_
  refine lv_if_ge (tgt := 70) hx hb dX5_takingsToday_63 (by decide) (fun h12 => ?_) (fun h12 => ?_)
  · have hf := ifp h12 hf
    refine lv_iload_n hx hb dX5_takingsToday_70 rfl (lv_at hl 0 rfl) ?_
    cases hf
    exact W.iret hx hb hr (fun u hu _ => ⟨⟨rfl, by rw [hu]; exact hW⟩, hS.F hu⟩) hS.2.2 dX5_takingsToday_71
  · have hf := ifn h12 hf
    refine lv_iconst (v := (-1)) hx hb dX5_takingsToday_66 (by decide) ?_
    refine lv_goto (tgt := 71) hx hb dX5_takingsToday_67 (by decide) ?_
    cases hf
    exact W.iret hx hb hr (fun u hu _ => ⟨⟨rfl, by rw [hu]; exact hW⟩, hS.F hu⟩) hS.2.2 dX5_takingsToday_71
def l_X5_home_15 : Nat → Sg → Int32 → Int32 → Option (Int32 × Sg)
  | 0, _, _, _ => none
  | n + 1, τ, x1, x2 => b1 (f_X5_isHere τ x1) fun y4 => if y4 = 0 then (b1 (f_X5_lays 197 1785 194 1785 τ 0 0) fun σ9 => some (x2, σ9)) else (b2 (f_X5_passes τ 1) fun y10 σ12 => if 0 ≤ y10 then (l_X5_home_15 n σ12 x1 (x2 + 1)) else (l_X5_home_15 n σ12 x1 (x2 + 0)))
def f_X5_home (σ : Sg) (p1 : Int32) : Option (Int32 × Sg) := b1 (f_X5_lays 194 1785 197 1785 σ 0 0) fun σ3 => l_X5_home_15 10000 σ3 p1 0
set_option maxHeartbeats 4000000 in
set_option maxRecDepth 100000 in
theorem c_X5_home (l : Launch) (D : va_G) (t : Nat → ClassId) (b : Nat) (σ : Sg) (p1 : Int32) (r : Int32) (σr : Sg) (hf : f_X5_home σ p1 = some (r, σr)) : Met l yX5_home (Cond.code yX5_home cX5_home 3 (some .int) :: ALL) ({ frames := 8, cells := 0, slots := 0, locals := 181 }) (PM D t b σ [.ref (b + 193), .int p1]) (QG D t b σr (some (.int r))) 0 0 (geA b) := by
  refine Met.ofW (cc := cX5_home) (maxL := 3) (ret := (some .int)) (by decide) rfl ?_
  intro p e s m args below meth c s₁ B hml hv
  obtain ⟨rfl, hW, hE⟩ := hv
  have hx := B.exec
  have hb := B.bytes
  have hr := B.returns
  have hts := atoms_spec (ws := Cond.code yX5_home cX5_home 3 (some .int) :: ALL) B.pre
  have hta := fun w h => hts w (List.mem_cons_of_mem _ h)
  have hown : s.vm.findClass RX5 = some m.cls := findClass_of_methodNamed B.named
  have hlocks := B.notSynchronized
  have hS : va_S (geA b) s.heap s.heap [] := va_S.rf
  have hl := lv_entry ([.ref (b + 193), .int p1]) (n := 3) (Nat.le_of_ble_eq_true rfl)
  rw [lg_entry_eq]
  generalize (lg_sl ([.ref (b + 193), .int p1]) ++ List.replicate (3 - (lg_sl ([.ref (b + 193), .int p1])).length) Slot.unset).toArray = ls at hl ⊢
  have hl : lv_has ls 3 [(0, .ref (b + 193)), (1, .int p1)] := hl
  unfold f_X5_home at hf
  refine lv_aload_n hx hb dX5_home_0 rfl (lv_at hl 0 rfl) ?_
  refine getM hx hb hta hown hE.1 hW 0 (by decide) q1181 rfl dX5_home_1 ?_
  refine lv_iconst (v := 0) hx hb dX5_home_4 (by decide) ?_
  refine lv_aload_n hx hb dX5_home_5 rfl (lv_at hl 0 rfl) ?_
  refine getM hx hb hta hown hE.1 hW 5 (by decide) q1186 rfl dX5_home_6 ?_
  refine lv_iconst (v := 0) hx hb dX5_home_9 (by decide) ?_
  obtain ⟨σ3, u2, hf⟩ := b1_e hf
  refine mS (n := 4) (As := [.ref (b + 194), .int 0, .ref (b + 197), .int 0]) (rest := []) (c_X5_lays l D t b 194 1785 197 1785 σ 0 0 σ3 sh_194 sh_197 u2) hx hb hml hown hts hE hW hS q1260 q1261 q96 q1262 hs_X5_lays ⟨rfl, rfl⟩ ⟨Nat.le_of_ble_eq_true rfl, Nat.le_of_ble_eq_true rfl⟩ rfl rfl hl.1 (Nat.le_of_ble_eq_true rfl) ⟨Nat.zero_le _, Nat.zero_le _⟩ dX5_home_10 (fun H locs hW hS => ?_)
  refine lv_iconst (v := 0) hx hb dX5_home_13 (by decide) ?_
  refine lv_istore_n (lv' := [(2, .int 0), (0, .ref (b + 193)), (1, .int p1)]) hx hb dX5_home_14 rfl hl (by decide) rfl (fun ls hl => ?_)
  have key_15 : ∀ (n : Nat) (τ : Sg) (x1 : Int32) (x2 : Int32) (H : Heap) (locs : List Loc) (ls : Array Slot), l_X5_home_15 n τ x1 x2 = some (r, σr) → wd D t b τ H → va_S (geA b) s.heap H locs → lv_has ls 3 [(0, .ref (b + 193)), (1, .int x1), (2, .int x2)] → W p l e (headSpec (Cond.code yX5_home cX5_home 3 (some .int) :: ALL) ({ frames := 8, cells := 0, slots := 0, locals := 181 })).room s m (([.ref (b + 193), .int p1] : List Value).toArray) below meth c H locs 0 0 (MQ below (QG D t b σr (some (.int r))) (([.ref (b + 193), .int p1] : List Value).toArray) s 0 0 (geA b)) (F0 m 15 ls []) := by
    intro n
    induction n with
    | zero =>
      intro τ x1 x2 H locs ls hf
      rw [l_X5_home_15.eq_1] at hf
      cases hf
    | succ n ih_15 =>
      intro τ x1 x2 H locs ls hf hW hS hl
      rw [l_X5_home_15.eq_2] at hf
      refine lv_aload_n hx hb dX5_home_15 rfl (lv_at hl 0 rfl) ?_
      refine lv_iload_n hx hb dX5_home_16 rfl (lv_at hl 1 rfl) ?_
      obtain ⟨y4, u5, hf⟩ := b1_e hf
      refine mV (k := 193) (q := (5, 0)) (C := RX5) (T := TX5) (N := 14) (ci := 5) (n := 1) (As := [.int x1]) (rest := []) (c_X5_isHere l D t b τ x1 y4 u5) sh_193 (by decide) rfl rfl hx hb hml hown hts hE hW hS q1349 q1351 q50 q96 q1352 hy_X5_isHere ⟨rfl, rfl⟩ ⟨Nat.le_of_ble_eq_true rfl, Nat.le_of_ble_eq_true rfl⟩ rfl rfl hl.1 (Nat.le_of_ble_eq_true rfl) ⟨Nat.zero_le _, Nat.zero_le _⟩ dX5_home_17 (fun H locs hW hS => ?_)
      refine lv_if_eq (tgt := 42) hx hb dX5_home_20 (by decide) (fun h6 => ?_) (fun h6 => ?_)
      · have hf := ifp h6 hf
        refine lv_aload_n hx hb dX5_home_42 rfl (lv_at hl 0 rfl) ?_
        refine getM hx hb hta hown hE.1 hW 5 (by decide) q1186 rfl dX5_home_43 ?_
        refine lv_iconst (v := 0) hx hb dX5_home_46 (by decide) ?_
        refine lv_aload_n hx hb dX5_home_47 rfl (lv_at hl 0 rfl) ?_
        refine getM hx hb hta hown hE.1 hW 0 (by decide) q1181 rfl dX5_home_48 ?_
        refine lv_iconst (v := 0) hx hb dX5_home_51 (by decide) ?_
        obtain ⟨σ9, u8, hf⟩ := b1_e hf
        refine mS (n := 4) (As := [.ref (b + 197), .int 0, .ref (b + 194), .int 0]) (rest := []) (c_X5_lays l D t b 197 1785 194 1785 τ 0 0 σ9 sh_197 sh_194 u8) hx hb hml hown hts hE hW hS q1260 q1261 q96 q1262 hs_X5_lays ⟨rfl, rfl⟩ ⟨Nat.le_of_ble_eq_true rfl, Nat.le_of_ble_eq_true rfl⟩ rfl rfl hl.1 (Nat.le_of_ble_eq_true rfl) ⟨Nat.zero_le _, Nat.zero_le _⟩ dX5_home_52 (fun H locs hW hS => ?_)
        refine lv_iload_n hx hb dX5_home_55 rfl (lv_at hl 2 rfl) ?_
        cases hf
        exact W.iret hx hb hr (fun u hu _ => ⟨⟨rfl, by rw [hu]; exact hW⟩, hS.F hu⟩) hS.2.2 dX5_home_56
      · have hf := ifn h6 hf
        refine lv_iload_n hx hb dX5_home_23 rfl (lv_at hl 2 rfl) ?_
        refine lv_aload_n hx hb dX5_home_24 rfl (lv_at hl 0 rfl) ?_
        refine lv_iconst (v := 1) hx hb dX5_home_25 (by decide) ?_
        obtain ⟨y10, σ12, u11, hf⟩ := b2_e hf
        refine mV (k := 193) (q := (5, 0)) (C := RX5) (T := TX5) (N := 14) (ci := 5) (n := 1) (As := [.int 1]) (rest := [.int x2]) (c_X5_passes l D t b τ 1 y10 σ12 u11) sh_193 (by decide) rfl rfl hx hb hml hown hts hE hW hS q1384 q1386 q56 q96 q1387 hy_X5_passes ⟨rfl, rfl⟩ ⟨Nat.le_of_ble_eq_true rfl, Nat.le_of_ble_eq_true rfl⟩ rfl rfl hl.1 (Nat.le_of_ble_eq_true rfl) ⟨Nat.zero_le _, Nat.zero_le _⟩ dX5_home_26 (fun H locs hW hS => ?_)
        refine lv_if_ge (tgt := 36) hx hb dX5_home_29 (by decide) (fun h13 => ?_) (fun h13 => ?_)
        · have hf := ifp h13 hf
          refine lv_iconst (v := 1) hx hb dX5_home_36 (by decide) ?_
          refine lv_iadd hx hb dX5_home_37 ?_
          refine lv_istore_n (lv' := [(2, .int (x2 + 1)), (0, .ref (b + 193)), (1, .int x1)]) hx hb dX5_home_38 rfl hl (by decide) rfl (fun ls hl => ?_)
          refine lv_goto (tgt := 15) hx hb dX5_home_39 (by decide) ?_
          exact ih_15 σ12 x1 (x2 + 1) _ _ _ hf hW hS (lv_sub hl [1, 2, 0] rfl)
        · have hf := ifn h13 hf
          refine lv_iconst (v := 0) hx hb dX5_home_32 (by decide) ?_
          refine lv_goto (tgt := 37) hx hb dX5_home_33 (by decide) ?_
          refine lv_iadd hx hb dX5_home_37 ?_
          refine lv_istore_n (lv' := [(2, .int (x2 + 0)), (0, .ref (b + 193)), (1, .int x1)]) hx hb dX5_home_38 rfl hl (by decide) rfl (fun ls hl => ?_)
          refine lv_goto (tgt := 15) hx hb dX5_home_39 (by decide) ?_
          exact ih_15 σ12 x1 (x2 + 0) _ _ _ hf hW hS (lv_sub hl [1, 2, 0] rfl)
  exact key_15 10000 σ3 p1 0 _ _ _ hf hW hS (lv_sub hl [1, 2, 0] rfl)
def f_X5_homeIn (σ : Sg) (p1 : Int32) : Option (Int32 × Sg) := b1 (f_X5_isChild σ p1) fun y1 => if y1 = 0 then (st (u2 σ 193 10 1) fun σ4 => if (σ4 193 10) ≤ 0 then (b2 (f_X5_home σ4 p1) fun y7 σ9 => some (y7, σ9)) else (some (0, σ4))) else (st (u2 σ 193 10 0) fun σ10 => if (σ10 193 10) ≤ 0 then (b2 (f_X5_home σ10 p1) fun y13 σ15 => some (y13, σ15)) else (some (0, σ10)))
set_option maxHeartbeats 4000000 in
set_option maxRecDepth 100000 in
theorem c_X5_homeIn (l : Launch) (D : va_G) (t : Nat → ClassId) (b : Nat) (σ : Sg) (p1 : Int32) (r : Int32) (σr : Sg) (hf : f_X5_homeIn σ p1 = some (r, σr)) : Met l yX5_homeIn (Cond.code yX5_homeIn cX5_homeIn 2 (some .int) :: ALL) ({ frames := 9, cells := 0, slots := 0, locals := 203 }) (PM D t b σ [.ref (b + 193), .int p1]) (QG D t b σr (some (.int r))) 0 0 (geA b) := by
  refine Met.ofW (cc := cX5_homeIn) (maxL := 2) (ret := (some .int)) (by decide) rfl ?_
  intro p e s m args below meth c s₁ B hml hv
  obtain ⟨rfl, hW, hE⟩ := hv
  have hx := B.exec
  have hb := B.bytes
  have hr := B.returns
  have hts := atoms_spec (ws := Cond.code yX5_homeIn cX5_homeIn 2 (some .int) :: ALL) B.pre
  have hta := fun w h => hts w (List.mem_cons_of_mem _ h)
  have hown : s.vm.findClass RX5 = some m.cls := findClass_of_methodNamed B.named
  have hlocks := B.notSynchronized
  have hS : va_S (geA b) s.heap s.heap [] := va_S.rf
  have hl := lv_entry ([.ref (b + 193), .int p1]) (n := 2) (Nat.le_of_ble_eq_true rfl)
  rw [lg_entry_eq]
  generalize (lg_sl ([.ref (b + 193), .int p1]) ++ List.replicate (2 - (lg_sl ([.ref (b + 193), .int p1])).length) Slot.unset).toArray = ls at hl ⊢
  have hl : lv_has ls 2 [(0, .ref (b + 193)), (1, .int p1)] := hl
  unfold f_X5_homeIn at hf
  refine lv_aload_n hx hb dX5_homeIn_0 rfl (lv_at hl 0 rfl) ?_
  refine lv_aload_n hx hb dX5_homeIn_1 rfl (lv_at hl 0 rfl) ?_
  refine lv_iload_n hx hb dX5_homeIn_2 rfl (lv_at hl 1 rfl) ?_
  obtain ⟨y1, u2, hf⟩ := b1_e hf
  refine mV (k := 193) (q := (5, 0)) (C := RX5) (T := TX5) (N := 14) (ci := 5) (n := 1) (As := [.int p1]) (rest := [.ref (b + 193)]) (c_X5_isChild l D t b σ p1 y1 u2) sh_193 (by decide) rfl rfl hx hb hml hown hts hE hW hS q1604 q1606 q84 q96 q1607 hy_X5_isChild ⟨rfl, rfl⟩ ⟨Nat.le_of_ble_eq_true rfl, Nat.le_of_ble_eq_true rfl⟩ rfl rfl hl.1 (Nat.le_of_ble_eq_true rfl) ⟨Nat.zero_le _, Nat.zero_le _⟩ dX5_homeIn_3 (fun H locs hW hS => ?_)
  refine lv_if_eq (tgt := 13) hx hb dX5_homeIn_6 (by decide) (fun h3 => ?_) (fun h3 => ?_)
  · have hf := ifp h3 hf
    refine lv_iconst (v := 1) hx hb dX5_homeIn_13 (by decide) ?_
    refine putX (k := 193) (q := (5, 0)) (ci := 5) (x := 1) inA5 tyX5_ok nmX5 rfl (by decide) rfl hx hb hta hown hE.1 hW hS sh_193 10 (by decide) q1191 rfl rfl rfl (Nat.le_of_ble_eq_true rfl) rfl dX5_homeIn_14 (fun H locs hW hS => ?_)
    obtain ⟨σ4, e5, hf⟩ := st_e hf
    rw [e5] at hW
    refine lv_aload_n hx hb dX5_homeIn_17 rfl (lv_at hl 0 rfl) ?_
    refine getM hx hb hta hown hE.1 hW 10 (by decide) q1191 rfl dX5_homeIn_18 ?_
    refine lv_if_le (tgt := 28) hx hb dX5_homeIn_21 (by decide) (fun h6 => ?_) (fun h6 => ?_)
    · have hf := ifp h6 hf
      refine lv_aload_n hx hb dX5_homeIn_28 rfl (lv_at hl 0 rfl) ?_
      refine lv_iload_n hx hb dX5_homeIn_29 rfl (lv_at hl 1 rfl) ?_
      obtain ⟨y7, σ9, u8, hf⟩ := b2_e hf
      refine mV (k := 193) (q := (5, 0)) (C := RX5) (T := TX5) (N := 14) (ci := 5) (n := 1) (As := [.int p1]) (rest := []) (c_X5_home l D t b σ4 p1 y7 σ9 u8) sh_193 (by decide) rfl rfl hx hb hml hown hts hE hW hS q1708 q1710 q88 q96 q1711 hy_X5_home ⟨rfl, rfl⟩ ⟨Nat.le_of_ble_eq_true rfl, Nat.le_of_ble_eq_true rfl⟩ rfl rfl hl.1 (Nat.le_of_ble_eq_true rfl) ⟨Nat.zero_le _, Nat.zero_le _⟩ dX5_homeIn_30 (fun H locs hW hS => ?_)
      cases hf
      exact W.iret hx hb hr (fun u hu _ => ⟨⟨rfl, by rw [hu]; exact hW⟩, hS.F hu⟩) hS.2.2 dX5_homeIn_33
    · have hf := ifn h6 hf
      refine lv_iconst (v := 0) hx hb dX5_homeIn_24 (by decide) ?_
      refine lv_goto (tgt := 33) hx hb dX5_homeIn_25 (by decide) ?_
      cases hf
      exact W.iret hx hb hr (fun u hu _ => ⟨⟨rfl, by rw [hu]; exact hW⟩, hS.F hu⟩) hS.2.2 dX5_homeIn_33
  · have hf := ifn h3 hf
    refine lv_iconst (v := 0) hx hb dX5_homeIn_9 (by decide) ?_
    refine lv_goto (tgt := 14) hx hb dX5_homeIn_10 (by decide) ?_
    refine putX (k := 193) (q := (5, 0)) (ci := 5) (x := 0) inA5 tyX5_ok nmX5 rfl (by decide) rfl hx hb hta hown hE.1 hW hS sh_193 10 (by decide) q1191 rfl rfl rfl (Nat.le_of_ble_eq_true rfl) rfl dX5_homeIn_14 (fun H locs hW hS => ?_)
    obtain ⟨σ10, e11, hf⟩ := st_e hf
    rw [e11] at hW
    refine lv_aload_n hx hb dX5_homeIn_17 rfl (lv_at hl 0 rfl) ?_
    refine getM hx hb hta hown hE.1 hW 10 (by decide) q1191 rfl dX5_homeIn_18 ?_
    refine lv_if_le (tgt := 28) hx hb dX5_homeIn_21 (by decide) (fun h12 => ?_) (fun h12 => ?_)
    · have hf := ifp h12 hf
      refine lv_aload_n hx hb dX5_homeIn_28 rfl (lv_at hl 0 rfl) ?_
      refine lv_iload_n hx hb dX5_homeIn_29 rfl (lv_at hl 1 rfl) ?_
      obtain ⟨y13, σ15, u14, hf⟩ := b2_e hf
      refine mV (k := 193) (q := (5, 0)) (C := RX5) (T := TX5) (N := 14) (ci := 5) (n := 1) (As := [.int p1]) (rest := []) (c_X5_home l D t b σ10 p1 y13 σ15 u14) sh_193 (by decide) rfl rfl hx hb hml hown hts hE hW hS q1708 q1710 q88 q96 q1711 hy_X5_home ⟨rfl, rfl⟩ ⟨Nat.le_of_ble_eq_true rfl, Nat.le_of_ble_eq_true rfl⟩ rfl rfl hl.1 (Nat.le_of_ble_eq_true rfl) ⟨Nat.zero_le _, Nat.zero_le _⟩ dX5_homeIn_30 (fun H locs hW hS => ?_)
      cases hf
      exact W.iret hx hb hr (fun u hu _ => ⟨⟨rfl, by rw [hu]; exact hW⟩, hS.F hu⟩) hS.2.2 dX5_homeIn_33
    · have hf := ifn h12 hf
      refine lv_iconst (v := 0) hx hb dX5_homeIn_24 (by decide) ?_
      refine lv_goto (tgt := 33) hx hb dX5_homeIn_25 (by decide) ?_
      cases hf
      exact W.iret hx hb hr (fun u hu _ => ⟨⟨rfl, by rw [hu]; exact hW⟩, hS.F hu⟩) hS.2.2 dX5_homeIn_33
def f_X5_would (σ : Sg) (p1 : Int32) (p2 : Int32) (p3 : Int32) : Option (Int32 × Sg) := b1 (f_X5_lays 194 1785 197 1785 σ 0 0) fun σ3 => b2 (f_X5_builds σ3 p1 p2 p3 0) fun y4 σ6 => b2 (f_X5_passes σ6 (40 - (σ6 194 (7 : Int32).toNatClampNeg))) fun y7 σ9 => if 0 ≤ y7 then (b1 (f_X5_its σ9 y4 5) fun y11 => b1 (f_X5_lays 197 1785 194 1785 σ9 0 0) fun σ15 => some (y11, σ15)) else (b1 (f_X5_lays 197 1785 194 1785 σ9 0 0) fun σ18 => some ((-1), σ18))
set_option maxHeartbeats 4000000 in
set_option maxRecDepth 100000 in
theorem c_X5_would (l : Launch) (D : va_G) (t : Nat → ClassId) (b : Nat) (σ : Sg) (p1 : Int32) (p2 : Int32) (p3 : Int32) (r : Int32) (σr : Sg) (hf : f_X5_would σ p1 p2 p3 = some (r, σr)) : Met l yX5_would (Cond.code yX5_would cX5_would 6 (some .int) :: ALL) ({ frames := 8, cells := 0, slots := 0, locals := 181 }) (PM D t b σ [.ref (b + 193), .int p1, .int p2, .int p3]) (QG D t b σr (some (.int r))) 0 0 (geA b) := by
  refine Met.ofW (cc := cX5_would) (maxL := 6) (ret := (some .int)) (by decide) rfl ?_
  intro p e s m args below meth c s₁ B hml hv
  obtain ⟨rfl, hW, hE⟩ := hv
  have hx := B.exec
  have hb := B.bytes
  have hr := B.returns
  have hts := atoms_spec (ws := Cond.code yX5_would cX5_would 6 (some .int) :: ALL) B.pre
  have hta := fun w h => hts w (List.mem_cons_of_mem _ h)
  have hown : s.vm.findClass RX5 = some m.cls := findClass_of_methodNamed B.named
  have hlocks := B.notSynchronized
  have hS : va_S (geA b) s.heap s.heap [] := va_S.rf
  have hl := lv_entry ([.ref (b + 193), .int p1, .int p2, .int p3]) (n := 6) (Nat.le_of_ble_eq_true rfl)
  rw [lg_entry_eq]
  generalize (lg_sl ([.ref (b + 193), .int p1, .int p2, .int p3]) ++ List.replicate (6 - (lg_sl ([.ref (b + 193), .int p1, .int p2, .int p3])).length) Slot.unset).toArray = ls at hl ⊢
  have hl : lv_has ls 6 [(0, .ref (b + 193)), (1, .int p1), (2, .int p2), (3, .int p3)] := hl
  unfold f_X5_would at hf
  refine lv_aload_n hx hb dX5_would_0 rfl (lv_at hl 0 rfl) ?_
  refine getM hx hb hta hown hE.1 hW 0 (by decide) q1181 rfl dX5_would_1 ?_
  refine lv_iconst (v := 0) hx hb dX5_would_4 (by decide) ?_
  refine lv_aload_n hx hb dX5_would_5 rfl (lv_at hl 0 rfl) ?_
  refine getM hx hb hta hown hE.1 hW 5 (by decide) q1186 rfl dX5_would_6 ?_
  refine lv_iconst (v := 0) hx hb dX5_would_9 (by decide) ?_
  obtain ⟨σ3, u2, hf⟩ := b1_e hf
  refine mS (n := 4) (As := [.ref (b + 194), .int 0, .ref (b + 197), .int 0]) (rest := []) (c_X5_lays l D t b 194 1785 197 1785 σ 0 0 σ3 sh_194 sh_197 u2) hx hb hml hown hts hE hW hS q1260 q1261 q96 q1262 hs_X5_lays ⟨rfl, rfl⟩ ⟨Nat.le_of_ble_eq_true rfl, Nat.le_of_ble_eq_true rfl⟩ rfl rfl hl.1 (Nat.le_of_ble_eq_true rfl) ⟨Nat.zero_le _, Nat.zero_le _⟩ dX5_would_10 (fun H locs hW hS => ?_)
  refine lv_aload_n hx hb dX5_would_13 rfl (lv_at hl 0 rfl) ?_
  refine lv_iload_n hx hb dX5_would_14 rfl (lv_at hl 1 rfl) ?_
  refine lv_iload_n hx hb dX5_would_15 rfl (lv_at hl 2 rfl) ?_
  refine lv_iload_n hx hb dX5_would_16 rfl (lv_at hl 3 rfl) ?_
  refine lv_iconst (v := 0) hx hb dX5_would_17 (by decide) ?_
  obtain ⟨y4, σ6, u5, hf⟩ := b2_e hf
  refine mV (k := 193) (q := (5, 0)) (C := RX5) (T := TX5) (N := 14) (ci := 5) (n := 4) (As := [.int p1, .int p2, .int p3, .int 0]) (rest := []) (c_X5_builds l D t b σ3 p1 p2 p3 0 y4 σ6 u5) sh_193 (by decide) rfl rfl hx hb hml hown hts hE hW hS q1267 q1269 q38 q96 q1270 hy_X5_builds ⟨rfl, rfl⟩ ⟨Nat.le_of_ble_eq_true rfl, Nat.le_of_ble_eq_true rfl⟩ rfl rfl hl.1 (Nat.le_of_ble_eq_true rfl) ⟨Nat.zero_le _, Nat.zero_le _⟩ dX5_would_18 (fun H locs hW hS => ?_)
  refine lv_istore (lv' := [(4, .int y4), (0, .ref (b + 193)), (1, .int p1), (2, .int p2), (3, .int p3)]) hx hb dX5_would_21 hl (by decide) rfl (fun ls hl => ?_)
  refine lv_aload_n hx hb dX5_would_23 rfl (lv_at hl 1 rfl) ?_
  refine lv_bipush (v := 40) hx hb dX5_would_24 (by decide) ?_
  refine lv_aload_n hx hb dX5_would_26 rfl (lv_at hl 1 rfl) ?_
  refine getM hx hb hta hown hE.1 hW 0 (by decide) q1181 rfl dX5_would_27 ?_
  refine lv_bipush (v := 7) hx hb dX5_would_30 (by decide) ?_
  refine iald hx hb hE.1 hW sh_194 (vp_lit (by decide +kernel)) dX5_would_32 ?_
  refine lv_isub hx hb dX5_would_33 ?_
  obtain ⟨y7, σ9, u8, hf⟩ := b2_e hf
  refine mV (k := 193) (q := (5, 0)) (C := RX5) (T := TX5) (N := 14) (ci := 5) (n := 1) (As := [.int (40 - (σ6 194 (7 : Int32).toNatClampNeg))]) (rest := []) (c_X5_passes l D t b σ6 (40 - (σ6 194 (7 : Int32).toNatClampNeg)) y7 σ9 u8) sh_193 (by decide) rfl rfl hx hb hml hown hts hE hW hS q1384 q1386 q56 q96 q1387 hy_X5_passes ⟨rfl, rfl⟩ ⟨Nat.le_of_ble_eq_true rfl, Nat.le_of_ble_eq_true rfl⟩ rfl rfl hl.1 (Nat.le_of_ble_eq_true rfl) ⟨Nat.zero_le _, Nat.zero_le _⟩ dX5_would_34 (fun H locs hW hS => ?_)
  refine lv_if_ge (tgt := 44) hx hb dX5_would_37 (by decide) (fun h10 => ?_) (fun h10 => ?_)
  · have hf := ifp h10 hf
    refine lv_aload_n hx hb dX5_would_44 rfl (lv_at hl 1 rfl) ?_
    refine lv_iload hx hb dX5_would_45 (lv_at hl 0 rfl) ?_
    refine lv_iconst (v := 5) hx hb dX5_would_47 (by decide) ?_
    obtain ⟨y11, u12, hf⟩ := b1_e hf
    refine mV (k := 193) (q := (5, 0)) (C := RX5) (T := TX5) (N := 14) (ci := 5) (n := 2) (As := [.int y4, .int 5]) (rest := []) (c_X5_its l D t b σ9 y4 5 y11 u12) sh_193 (by decide) rfl rfl hx hb hml hown hts hE hW hS q1252 q1254 q35 q96 q1255 hy_X5_its ⟨rfl, rfl⟩ ⟨Nat.le_of_ble_eq_true rfl, Nat.le_of_ble_eq_true rfl⟩ rfl rfl hl.1 (Nat.le_of_ble_eq_true rfl) ⟨Nat.zero_le _, Nat.zero_le _⟩ dX5_would_48 (fun H locs hW hS => ?_)
    refine lv_istore (lv' := [(5, .int y11), (4, .int y4), (0, .ref (b + 193)), (1, .int p1), (2, .int p2), (3, .int p3)]) hx hb dX5_would_51 hl (by decide) rfl (fun ls hl => ?_)
    refine lv_aload_n hx hb dX5_would_53 rfl (lv_at hl 2 rfl) ?_
    refine getM hx hb hta hown hE.1 hW 5 (by decide) q1186 rfl dX5_would_54 ?_
    refine lv_iconst (v := 0) hx hb dX5_would_57 (by decide) ?_
    refine lv_aload_n hx hb dX5_would_58 rfl (lv_at hl 2 rfl) ?_
    refine getM hx hb hta hown hE.1 hW 0 (by decide) q1181 rfl dX5_would_59 ?_
    refine lv_iconst (v := 0) hx hb dX5_would_62 (by decide) ?_
    obtain ⟨σ15, u14, hf⟩ := b1_e hf
    refine mS (n := 4) (As := [.ref (b + 197), .int 0, .ref (b + 194), .int 0]) (rest := []) (c_X5_lays l D t b 197 1785 194 1785 σ9 0 0 σ15 sh_197 sh_194 u14) hx hb hml hown hts hE hW hS q1260 q1261 q96 q1262 hs_X5_lays ⟨rfl, rfl⟩ ⟨Nat.le_of_ble_eq_true rfl, Nat.le_of_ble_eq_true rfl⟩ rfl rfl hl.1 (Nat.le_of_ble_eq_true rfl) ⟨Nat.zero_le _, Nat.zero_le _⟩ dX5_would_63 (fun H locs hW hS => ?_)
    refine lv_iload hx hb dX5_would_66 (lv_at hl 0 rfl) ?_
    cases hf
    exact W.iret hx hb hr (fun u hu _ => ⟨⟨rfl, by rw [hu]; exact hW⟩, hS.F hu⟩) hS.2.2 dX5_would_68
  · have hf := ifn h10 hf
    refine lv_iconst (v := (-1)) hx hb dX5_would_40 (by decide) ?_
    refine lv_goto (tgt := 51) hx hb dX5_would_41 (by decide) ?_
    refine lv_istore (lv' := [(5, .int (-1)), (4, .int y4), (0, .ref (b + 193)), (1, .int p1), (2, .int p2), (3, .int p3)]) hx hb dX5_would_51 hl (by decide) rfl (fun ls hl => ?_)
    refine lv_aload_n hx hb dX5_would_53 rfl (lv_at hl 2 rfl) ?_
    refine getM hx hb hta hown hE.1 hW 5 (by decide) q1186 rfl dX5_would_54 ?_
    refine lv_iconst (v := 0) hx hb dX5_would_57 (by decide) ?_
    refine lv_aload_n hx hb dX5_would_58 rfl (lv_at hl 2 rfl) ?_
    refine getM hx hb hta hown hE.1 hW 0 (by decide) q1181 rfl dX5_would_59 ?_
    refine lv_iconst (v := 0) hx hb dX5_would_62 (by decide) ?_
    obtain ⟨σ18, u17, hf⟩ := b1_e hf
    refine mS (n := 4) (As := [.ref (b + 197), .int 0, .ref (b + 194), .int 0]) (rest := []) (c_X5_lays l D t b 197 1785 194 1785 σ9 0 0 σ18 sh_197 sh_194 u17) hx hb hml hown hts hE hW hS q1260 q1261 q96 q1262 hs_X5_lays ⟨rfl, rfl⟩ ⟨Nat.le_of_ble_eq_true rfl, Nat.le_of_ble_eq_true rfl⟩ rfl rfl hl.1 (Nat.le_of_ble_eq_true rfl) ⟨Nat.zero_le _, Nat.zero_le _⟩ dX5_would_63 (fun H locs hW hS => ?_)
    refine lv_iload hx hb dX5_would_66 (lv_at hl 0 rfl) ?_
    cases hf
    exact W.iret hx hb hr (fun u hu _ => ⟨⟨rfl, by rw [hu]; exact hW⟩, hS.F hu⟩) hS.2.2 dX5_would_68
def l_X5_bestPitch_44 : Nat → Sg → Int32 → Int32 → Int32 → Int32 → Int32 → Option (Int32 × Sg)
  | 0, _, _, _, _, _, _ => none
  | n + 1, τ, x1, x2, x3, x4, x5 => if 12 ≤ x5 then (some (x3, τ)) else (b1 (f_X5_on τ x5) fun y8 => if y8 = (-1) then (b2 (f_X5_would τ x5 x1 x2) fun y11 σ13 => if y11 ≤ x4 then (if y11 ≤ x4 then (l_X5_bestPitch_44 n σ13 x1 x2 x3 x4 (x5 + 1)) else (l_X5_bestPitch_44 n σ13 x1 x2 x3 y11 (x5 + 1))) else (if y11 ≤ x4 then (l_X5_bestPitch_44 n σ13 x1 x2 x5 x4 (x5 + 1)) else (l_X5_bestPitch_44 n σ13 x1 x2 x5 y11 (x5 + 1)))) else (if (-1) ≤ x4 then (if (-1) ≤ x4 then (l_X5_bestPitch_44 n τ x1 x2 x3 x4 (x5 + 1)) else (l_X5_bestPitch_44 n τ x1 x2 x3 (-1) (x5 + 1))) else (if (-1) ≤ x4 then (l_X5_bestPitch_44 n τ x1 x2 x5 x4 (x5 + 1)) else (l_X5_bestPitch_44 n τ x1 x2 x5 (-1) (x5 + 1)))))
def f_X5_bestPitch (σ : Sg) (p1 : Int32) (p2 : Int32) : Option (Int32 × Sg) := b1 (f_X5_isKind σ p1) fun y1 => if y1 = 0 then (st (u2 σ 193 10 1) fun σ4 => if (σ4 193 10) ≤ 0 then (l_X5_bestPitch_44 10000 σ4 p1 p2 (-1) (-1) 0) else (some (0, σ4))) else (b1 (f_X5_isPrice σ p2) fun y20 => if y20 = 0 then (st (u2 σ 193 10 2) fun σ23 => if (σ23 193 10) ≤ 0 then (l_X5_bestPitch_44 10000 σ23 p1 p2 (-1) (-1) 0) else (some (0, σ23))) else (st (u2 σ 193 10 0) fun σ39 => if (σ39 193 10) ≤ 0 then (l_X5_bestPitch_44 10000 σ39 p1 p2 (-1) (-1) 0) else (some (0, σ39))))
set_option maxHeartbeats 4000000 in
set_option maxRecDepth 100000 in
theorem c_X5_bestPitch (l : Launch) (D : va_G) (t : Nat → ClassId) (b : Nat) (σ : Sg) (p1 : Int32) (p2 : Int32) (r : Int32) (σr : Sg) (hf : f_X5_bestPitch σ p1 p2 = some (r, σr)) : Met l yX5_bestPitch (Cond.code yX5_bestPitch cX5_bestPitch 7 (some .int) :: ALL) ({ frames := 9, cells := 0, slots := 0, locals := 206 }) (PM D t b σ [.ref (b + 193), .int p1, .int p2]) (QG D t b σr (some (.int r))) 0 0 (geA b) := by
  refine Met.ofW (cc := cX5_bestPitch) (maxL := 7) (ret := (some .int)) (by decide) rfl ?_
  intro p e s m args below meth c s₁ B hml hv
  obtain ⟨rfl, hW, hE⟩ := hv
  have hx := B.exec
  have hb := B.bytes
  have hr := B.returns
  have hts := atoms_spec (ws := Cond.code yX5_bestPitch cX5_bestPitch 7 (some .int) :: ALL) B.pre
  have hta := fun w h => hts w (List.mem_cons_of_mem _ h)
  have hown : s.vm.findClass RX5 = some m.cls := findClass_of_methodNamed B.named
  have hlocks := B.notSynchronized
  have hS : va_S (geA b) s.heap s.heap [] := va_S.rf
  have hl := lv_entry ([.ref (b + 193), .int p1, .int p2]) (n := 7) (Nat.le_of_ble_eq_true rfl)
  rw [lg_entry_eq]
  generalize (lg_sl ([.ref (b + 193), .int p1, .int p2]) ++ List.replicate (7 - (lg_sl ([.ref (b + 193), .int p1, .int p2])).length) Slot.unset).toArray = ls at hl ⊢
  have hl : lv_has ls 7 [(0, .ref (b + 193)), (1, .int p1), (2, .int p2)] := hl
  unfold f_X5_bestPitch at hf
  refine lv_aload_n hx hb dX5_bestPitch_0 rfl (lv_at hl 0 rfl) ?_
  refine lv_iload_n hx hb dX5_bestPitch_1 rfl (lv_at hl 1 rfl) ?_
  obtain ⟨y1, u2, hf⟩ := b1_e hf
  refine mS (n := 1) (As := [.int p1]) (rest := [.ref (b + 193)]) (c_X5_isKind l D t b σ p1 y1 u2) hx hb hml hown hts hE hW hS q1242 q1243 q96 q1244 hs_X5_isKind ⟨rfl, rfl⟩ ⟨Nat.le_of_ble_eq_true rfl, Nat.le_of_ble_eq_true rfl⟩ rfl rfl hl.1 (Nat.le_of_ble_eq_true rfl) ⟨Nat.zero_le _, Nat.zero_le _⟩ dX5_bestPitch_2 (fun H locs hW hS => ?_)
  refine lv_if_ne (tgt := 12) hx hb dX5_bestPitch_5 (by decide) (fun h3 => ?_) (fun h3 => ?_)
  · have hf := ifn h3 hf
    refine lv_iload_n hx hb dX5_bestPitch_12 rfl (lv_at hl 2 rfl) ?_
    obtain ⟨y20, u21, hf⟩ := b1_e hf
    refine mS (n := 1) (As := [.int p2]) (rest := [.ref (b + 193)]) (c_X5_isPrice l D t b σ p2 y20 u21) hx hb hml hown hts hE hW hS q1245 q1246 q96 q1247 hs_X5_isPrice ⟨rfl, rfl⟩ ⟨Nat.le_of_ble_eq_true rfl, Nat.le_of_ble_eq_true rfl⟩ rfl rfl hl.1 (Nat.le_of_ble_eq_true rfl) ⟨Nat.zero_le _, Nat.zero_le _⟩ dX5_bestPitch_13 (fun H locs hW hS => ?_)
    refine lv_if_eq (tgt := 23) hx hb dX5_bestPitch_16 (by decide) (fun h22 => ?_) (fun h22 => ?_)
    · have hf := ifp h22 hf
      refine lv_iconst (v := 2) hx hb dX5_bestPitch_23 (by decide) ?_
      refine putX (k := 193) (q := (5, 0)) (ci := 5) (x := 2) inA5 tyX5_ok nmX5 rfl (by decide) rfl hx hb hta hown hE.1 hW hS sh_193 10 (by decide) q1191 rfl rfl rfl (Nat.le_of_ble_eq_true rfl) rfl dX5_bestPitch_24 (fun H locs hW hS => ?_)
      obtain ⟨σ23, e24, hf⟩ := st_e hf
      rw [e24] at hW
      refine lv_aload_n hx hb dX5_bestPitch_27 rfl (lv_at hl 0 rfl) ?_
      refine getM hx hb hta hown hE.1 hW 10 (by decide) q1191 rfl dX5_bestPitch_28 ?_
      refine lv_if_le (tgt := 36) hx hb dX5_bestPitch_31 (by decide) (fun h25 => ?_) (fun h25 => ?_)
      · have hf := ifp h25 hf
        refine lv_iconst (v := (-1)) hx hb dX5_bestPitch_36 (by decide) ?_
        refine lv_istore_n (lv' := [(3, .int (-1)), (0, .ref (b + 193)), (1, .int p1), (2, .int p2)]) hx hb dX5_bestPitch_37 rfl hl (by decide) rfl (fun ls hl => ?_)
        refine lv_iconst (v := (-1)) hx hb dX5_bestPitch_38 (by decide) ?_
        refine lv_istore (lv' := [(4, .int (-1)), (3, .int (-1)), (0, .ref (b + 193)), (1, .int p1), (2, .int p2)]) hx hb dX5_bestPitch_39 hl (by decide) rfl (fun ls hl => ?_)
        refine lv_iconst (v := 0) hx hb dX5_bestPitch_41 (by decide) ?_
        refine lv_istore (lv' := [(5, .int 0), (4, .int (-1)), (3, .int (-1)), (0, .ref (b + 193)), (1, .int p1), (2, .int p2)]) hx hb dX5_bestPitch_42 hl (by decide) rfl (fun ls hl => ?_)
        have key_44 : ∀ (n : Nat) (τ : Sg) (x1 : Int32) (x2 : Int32) (x3 : Int32) (x4 : Int32) (x5 : Int32) (H : Heap) (locs : List Loc) (ls : Array Slot), l_X5_bestPitch_44 n τ x1 x2 x3 x4 x5 = some (r, σr) → wd D t b τ H → va_S (geA b) s.heap H locs → lv_has ls 7 [(0, .ref (b + 193)), (1, .int x1), (2, .int x2), (3, .int x3), (4, .int x4), (5, .int x5)] → W p l e (headSpec (Cond.code yX5_bestPitch cX5_bestPitch 7 (some .int) :: ALL) ({ frames := 9, cells := 0, slots := 0, locals := 206 })).room s m (([.ref (b + 193), .int p1, .int p2] : List Value).toArray) below meth c H locs 0 0 (MQ below (QG D t b σr (some (.int r))) (([.ref (b + 193), .int p1, .int p2] : List Value).toArray) s 0 0 (geA b)) (F0 m 44 ls []) := by
          intro n
          induction n with
          | zero =>
            intro τ x1 x2 x3 x4 x5 H locs ls hf
            rw [l_X5_bestPitch_44.eq_1] at hf
            cases hf
          | succ n ih_44 =>
            intro τ x1 x2 x3 x4 x5 H locs ls hf hW hS hl
            rw [l_X5_bestPitch_44.eq_2] at hf
            refine lv_iload hx hb dX5_bestPitch_44 (lv_at hl 5 rfl) ?_
            refine lv_bipush (v := 12) hx hb dX5_bestPitch_46 (by decide) ?_
            refine lv_icmp_ge (tgt := 111) hx hb dX5_bestPitch_48 (by decide) (fun h26 => ?_) (fun h26 => ?_)
            · have hf := ifp h26 hf
              refine lv_iload_n hx hb dX5_bestPitch_111 rfl (lv_at hl 3 rfl) ?_
              cases hf
              exact W.iret hx hb hr (fun u hu _ => ⟨⟨rfl, by rw [hu]; exact hW⟩, hS.F hu⟩) hS.2.2 dX5_bestPitch_112
            · have hf := ifn h26 hf
              refine lv_aload_n hx hb dX5_bestPitch_51 rfl (lv_at hl 0 rfl) ?_
              refine lv_iload hx hb dX5_bestPitch_52 (lv_at hl 5 rfl) ?_
              obtain ⟨y27, u28, hf⟩ := b1_e hf
              refine mV (k := 193) (q := (5, 0)) (C := RX5) (T := TX5) (N := 14) (ci := 5) (n := 1) (As := [.int x5]) (rest := []) (c_X5_on l D t b τ x5 y27 u28) sh_193 (by decide) rfl rfl hx hb hml hown hts hE hW hS q1248 q1250 q34 q96 q1251 hy_X5_on ⟨rfl, rfl⟩ ⟨Nat.le_of_ble_eq_true rfl, Nat.le_of_ble_eq_true rfl⟩ rfl rfl hl.1 (Nat.le_of_ble_eq_true rfl) ⟨Nat.zero_le _, Nat.zero_le _⟩ dX5_bestPitch_54 (fun H locs hW hS => ?_)
              refine lv_iconst (v := (-1)) hx hb dX5_bestPitch_57 (by decide) ?_
              refine lv_icmp_ne (tgt := 72) hx hb dX5_bestPitch_58 (by decide) (fun h29 => ?_) (fun h29 => ?_)
              · have hf := ifn h29 hf
                refine lv_iconst (v := (-1)) hx hb dX5_bestPitch_72 (by decide) ?_
                refine lv_istore (lv' := [(6, .int (-1)), (0, .ref (b + 193)), (1, .int x1), (2, .int x2), (3, .int x3), (4, .int x4), (5, .int x5)]) hx hb dX5_bestPitch_73 hl (by decide) rfl (fun ls hl => ?_)
                refine lv_iload hx hb dX5_bestPitch_75 (lv_at hl 0 rfl) ?_
                refine lv_iload hx hb dX5_bestPitch_77 (lv_at hl 5 rfl) ?_
                refine lv_icmp_le (tgt := 87) hx hb dX5_bestPitch_79 (by decide) (fun h36 => ?_) (fun h36 => ?_)
                · have hf := ifp h36 hf
                  refine lv_iload_n hx hb dX5_bestPitch_87 rfl (lv_at hl 4 rfl) ?_
                  refine lv_istore_n (lv' := [(3, .int x3), (6, .int (-1)), (0, .ref (b + 193)), (1, .int x1), (2, .int x2), (4, .int x4), (5, .int x5)]) hx hb dX5_bestPitch_88 rfl hl (by decide) rfl (fun ls hl => ?_)
                  refine lv_iload hx hb dX5_bestPitch_89 (lv_at hl 1 rfl) ?_
                  refine lv_iload hx hb dX5_bestPitch_91 (lv_at hl 5 rfl) ?_
                  refine lv_icmp_le (tgt := 101) hx hb dX5_bestPitch_93 (by decide) (fun h37 => ?_) (fun h37 => ?_)
                  · have hf := ifp h37 hf
                    refine lv_iload hx hb dX5_bestPitch_101 (lv_at hl 5 rfl) ?_
                    refine lv_istore (lv' := [(4, .int x4), (3, .int x3), (6, .int (-1)), (0, .ref (b + 193)), (1, .int x1), (2, .int x2), (5, .int x5)]) hx hb dX5_bestPitch_103 hl (by decide) rfl (fun ls hl => ?_)
                    refine lv_iinc (v := (x5 + 1)) (lv' := [(5, .int (x5 + 1)), (4, .int x4), (3, .int x3), (6, .int (-1)), (0, .ref (b + 193)), (1, .int x1), (2, .int x2)]) hx hb dX5_bestPitch_105 hl (k := 6) rfl (by rfl) (by decide) rfl (fun ls hl => ?_)
                    refine lv_goto (tgt := 44) hx hb dX5_bestPitch_108 (by decide) ?_
                    exact ih_44 τ x1 x2 x3 x4 (x5 + 1) _ _ _ hf hW hS (lv_sub hl [4, 5, 6, 2, 1, 0] rfl)
                  · have hf := ifn h37 hf
                    refine lv_iload hx hb dX5_bestPitch_96 (lv_at hl 1 rfl) ?_
                    refine lv_goto (tgt := 103) hx hb dX5_bestPitch_98 (by decide) ?_
                    refine lv_istore (lv' := [(4, .int (-1)), (3, .int x3), (6, .int (-1)), (0, .ref (b + 193)), (1, .int x1), (2, .int x2), (5, .int x5)]) hx hb dX5_bestPitch_103 hl (by decide) rfl (fun ls hl => ?_)
                    refine lv_iinc (v := (x5 + 1)) (lv' := [(5, .int (x5 + 1)), (4, .int (-1)), (3, .int x3), (6, .int (-1)), (0, .ref (b + 193)), (1, .int x1), (2, .int x2)]) hx hb dX5_bestPitch_105 hl (k := 6) rfl (by rfl) (by decide) rfl (fun ls hl => ?_)
                    refine lv_goto (tgt := 44) hx hb dX5_bestPitch_108 (by decide) ?_
                    exact ih_44 τ x1 x2 x3 (-1) (x5 + 1) _ _ _ hf hW hS (lv_sub hl [4, 5, 6, 2, 1, 0] rfl)
                · have hf := ifn h36 hf
                  refine lv_iload hx hb dX5_bestPitch_82 (lv_at hl 6 rfl) ?_
                  refine lv_goto (tgt := 88) hx hb dX5_bestPitch_84 (by decide) ?_
                  refine lv_istore_n (lv' := [(3, .int x5), (6, .int (-1)), (0, .ref (b + 193)), (1, .int x1), (2, .int x2), (4, .int x4), (5, .int x5)]) hx hb dX5_bestPitch_88 rfl hl (by decide) rfl (fun ls hl => ?_)
                  refine lv_iload hx hb dX5_bestPitch_89 (lv_at hl 1 rfl) ?_
                  refine lv_iload hx hb dX5_bestPitch_91 (lv_at hl 5 rfl) ?_
                  refine lv_icmp_le (tgt := 101) hx hb dX5_bestPitch_93 (by decide) (fun h38 => ?_) (fun h38 => ?_)
                  · have hf := ifp h38 hf
                    refine lv_iload hx hb dX5_bestPitch_101 (lv_at hl 5 rfl) ?_
                    refine lv_istore (lv' := [(4, .int x4), (3, .int x5), (6, .int (-1)), (0, .ref (b + 193)), (1, .int x1), (2, .int x2), (5, .int x5)]) hx hb dX5_bestPitch_103 hl (by decide) rfl (fun ls hl => ?_)
                    refine lv_iinc (v := (x5 + 1)) (lv' := [(5, .int (x5 + 1)), (4, .int x4), (3, .int x5), (6, .int (-1)), (0, .ref (b + 193)), (1, .int x1), (2, .int x2)]) hx hb dX5_bestPitch_105 hl (k := 6) rfl (by rfl) (by decide) rfl (fun ls hl => ?_)
                    refine lv_goto (tgt := 44) hx hb dX5_bestPitch_108 (by decide) ?_
                    exact ih_44 τ x1 x2 x5 x4 (x5 + 1) _ _ _ hf hW hS (lv_sub hl [4, 5, 6, 2, 1, 0] rfl)
                  · have hf := ifn h38 hf
                    refine lv_iload hx hb dX5_bestPitch_96 (lv_at hl 1 rfl) ?_
                    refine lv_goto (tgt := 103) hx hb dX5_bestPitch_98 (by decide) ?_
                    refine lv_istore (lv' := [(4, .int (-1)), (3, .int x5), (6, .int (-1)), (0, .ref (b + 193)), (1, .int x1), (2, .int x2), (5, .int x5)]) hx hb dX5_bestPitch_103 hl (by decide) rfl (fun ls hl => ?_)
                    refine lv_iinc (v := (x5 + 1)) (lv' := [(5, .int (x5 + 1)), (4, .int (-1)), (3, .int x5), (6, .int (-1)), (0, .ref (b + 193)), (1, .int x1), (2, .int x2)]) hx hb dX5_bestPitch_105 hl (k := 6) rfl (by rfl) (by decide) rfl (fun ls hl => ?_)
                    refine lv_goto (tgt := 44) hx hb dX5_bestPitch_108 (by decide) ?_
                    exact ih_44 τ x1 x2 x5 (-1) (x5 + 1) _ _ _ hf hW hS (lv_sub hl [4, 5, 6, 2, 1, 0] rfl)
              · have hf := ifp h29 hf
                refine lv_aload_n hx hb dX5_bestPitch_61 rfl (lv_at hl 0 rfl) ?_
                refine lv_iload hx hb dX5_bestPitch_62 (lv_at hl 5 rfl) ?_
                refine lv_iload_n hx hb dX5_bestPitch_64 rfl (lv_at hl 1 rfl) ?_
                refine lv_iload_n hx hb dX5_bestPitch_65 rfl (lv_at hl 2 rfl) ?_
                obtain ⟨y30, σ32, u31, hf⟩ := b2_e hf
                refine mV (k := 193) (q := (5, 0)) (C := RX5) (T := TX5) (N := 14) (ci := 5) (n := 3) (As := [.int x5, .int x1, .int x2]) (rest := []) (c_X5_would l D t b τ x5 x1 x2 y30 σ32 u31) sh_193 (by decide) rfl rfl hx hb hml hown hts hE hW hS q1716 q1718 q89 q96 q1719 hy_X5_would ⟨rfl, rfl⟩ ⟨Nat.le_of_ble_eq_true rfl, Nat.le_of_ble_eq_true rfl⟩ rfl rfl hl.1 (Nat.le_of_ble_eq_true rfl) ⟨Nat.zero_le _, Nat.zero_le _⟩ dX5_bestPitch_66 (fun H locs hW hS => ?_)
                refine lv_goto (tgt := 73) hx hb dX5_bestPitch_69 (by decide) ?_
                refine lv_istore (lv' := [(6, .int y30), (0, .ref (b + 193)), (1, .int x1), (2, .int x2), (3, .int x3), (4, .int x4), (5, .int x5)]) hx hb dX5_bestPitch_73 hl (by decide) rfl (fun ls hl => ?_)
                refine lv_iload hx hb dX5_bestPitch_75 (lv_at hl 0 rfl) ?_
                refine lv_iload hx hb dX5_bestPitch_77 (lv_at hl 5 rfl) ?_
                refine lv_icmp_le (tgt := 87) hx hb dX5_bestPitch_79 (by decide) (fun h33 => ?_) (fun h33 => ?_)
                · have hf := ifp h33 hf
                  refine lv_iload_n hx hb dX5_bestPitch_87 rfl (lv_at hl 4 rfl) ?_
                  refine lv_istore_n (lv' := [(3, .int x3), (6, .int y30), (0, .ref (b + 193)), (1, .int x1), (2, .int x2), (4, .int x4), (5, .int x5)]) hx hb dX5_bestPitch_88 rfl hl (by decide) rfl (fun ls hl => ?_)
                  refine lv_iload hx hb dX5_bestPitch_89 (lv_at hl 1 rfl) ?_
                  refine lv_iload hx hb dX5_bestPitch_91 (lv_at hl 5 rfl) ?_
                  refine lv_icmp_le (tgt := 101) hx hb dX5_bestPitch_93 (by decide) (fun h34 => ?_) (fun h34 => ?_)
                  · have hf := ifp h34 hf
                    refine lv_iload hx hb dX5_bestPitch_101 (lv_at hl 5 rfl) ?_
                    refine lv_istore (lv' := [(4, .int x4), (3, .int x3), (6, .int y30), (0, .ref (b + 193)), (1, .int x1), (2, .int x2), (5, .int x5)]) hx hb dX5_bestPitch_103 hl (by decide) rfl (fun ls hl => ?_)
                    refine lv_iinc (v := (x5 + 1)) (lv' := [(5, .int (x5 + 1)), (4, .int x4), (3, .int x3), (6, .int y30), (0, .ref (b + 193)), (1, .int x1), (2, .int x2)]) hx hb dX5_bestPitch_105 hl (k := 6) rfl (by rfl) (by decide) rfl (fun ls hl => ?_)
                    refine lv_goto (tgt := 44) hx hb dX5_bestPitch_108 (by decide) ?_
                    exact ih_44 σ32 x1 x2 x3 x4 (x5 + 1) _ _ _ hf hW hS (lv_sub hl [4, 5, 6, 2, 1, 0] rfl)
                  · have hf := ifn h34 hf
                    refine lv_iload hx hb dX5_bestPitch_96 (lv_at hl 1 rfl) ?_
                    refine lv_goto (tgt := 103) hx hb dX5_bestPitch_98 (by decide) ?_
                    refine lv_istore (lv' := [(4, .int y30), (3, .int x3), (6, .int y30), (0, .ref (b + 193)), (1, .int x1), (2, .int x2), (5, .int x5)]) hx hb dX5_bestPitch_103 hl (by decide) rfl (fun ls hl => ?_)
                    refine lv_iinc (v := (x5 + 1)) (lv' := [(5, .int (x5 + 1)), (4, .int y30), (3, .int x3), (6, .int y30), (0, .ref (b + 193)), (1, .int x1), (2, .int x2)]) hx hb dX5_bestPitch_105 hl (k := 6) rfl (by rfl) (by decide) rfl (fun ls hl => ?_)
                    refine lv_goto (tgt := 44) hx hb dX5_bestPitch_108 (by decide) ?_
                    exact ih_44 σ32 x1 x2 x3 y30 (x5 + 1) _ _ _ hf hW hS (lv_sub hl [4, 5, 6, 2, 1, 0] rfl)
                · have hf := ifn h33 hf
                  refine lv_iload hx hb dX5_bestPitch_82 (lv_at hl 6 rfl) ?_
                  refine lv_goto (tgt := 88) hx hb dX5_bestPitch_84 (by decide) ?_
                  refine lv_istore_n (lv' := [(3, .int x5), (6, .int y30), (0, .ref (b + 193)), (1, .int x1), (2, .int x2), (4, .int x4), (5, .int x5)]) hx hb dX5_bestPitch_88 rfl hl (by decide) rfl (fun ls hl => ?_)
                  refine lv_iload hx hb dX5_bestPitch_89 (lv_at hl 1 rfl) ?_
                  refine lv_iload hx hb dX5_bestPitch_91 (lv_at hl 5 rfl) ?_
                  refine lv_icmp_le (tgt := 101) hx hb dX5_bestPitch_93 (by decide) (fun h35 => ?_) (fun h35 => ?_)
                  · have hf := ifp h35 hf
                    refine lv_iload hx hb dX5_bestPitch_101 (lv_at hl 5 rfl) ?_
                    refine lv_istore (lv' := [(4, .int x4), (3, .int x5), (6, .int y30), (0, .ref (b + 193)), (1, .int x1), (2, .int x2), (5, .int x5)]) hx hb dX5_bestPitch_103 hl (by decide) rfl (fun ls hl => ?_)
                    refine lv_iinc (v := (x5 + 1)) (lv' := [(5, .int (x5 + 1)), (4, .int x4), (3, .int x5), (6, .int y30), (0, .ref (b + 193)), (1, .int x1), (2, .int x2)]) hx hb dX5_bestPitch_105 hl (k := 6) rfl (by rfl) (by decide) rfl (fun ls hl => ?_)
                    refine lv_goto (tgt := 44) hx hb dX5_bestPitch_108 (by decide) ?_
                    exact ih_44 σ32 x1 x2 x5 x4 (x5 + 1) _ _ _ hf hW hS (lv_sub hl [4, 5, 6, 2, 1, 0] rfl)
                  · have hf := ifn h35 hf
                    refine lv_iload hx hb dX5_bestPitch_96 (lv_at hl 1 rfl) ?_
                    refine lv_goto (tgt := 103) hx hb dX5_bestPitch_98 (by decide) ?_
                    refine lv_istore (lv' := [(4, .int y30), (3, .int x5), (6, .int y30), (0, .ref (b + 193)), (1, .int x1), (2, .int x2), (5, .int x5)]) hx hb dX5_bestPitch_103 hl (by decide) rfl (fun ls hl => ?_)
                    refine lv_iinc (v := (x5 + 1)) (lv' := [(5, .int (x5 + 1)), (4, .int y30), (3, .int x5), (6, .int y30), (0, .ref (b + 193)), (1, .int x1), (2, .int x2)]) hx hb dX5_bestPitch_105 hl (k := 6) rfl (by rfl) (by decide) rfl (fun ls hl => ?_)
                    refine lv_goto (tgt := 44) hx hb dX5_bestPitch_108 (by decide) ?_
                    exact ih_44 σ32 x1 x2 x5 y30 (x5 + 1) _ _ _ hf hW hS (lv_sub hl [4, 5, 6, 2, 1, 0] rfl)
        exact key_44 10000 σ23 p1 p2 (-1) (-1) 0 _ _ _ hf hW hS (lv_sub hl [3, 4, 5, 2, 1, 0] rfl)
      · have hf := ifn h25 hf
        refine lv_iconst (v := 0) hx hb dX5_bestPitch_34 (by decide) ?_
        cases hf
        exact W.iret hx hb hr (fun u hu _ => ⟨⟨rfl, by rw [hu]; exact hW⟩, hS.F hu⟩) hS.2.2 dX5_bestPitch_35
    · have hf := ifn h22 hf
      refine lv_iconst (v := 0) hx hb dX5_bestPitch_19 (by decide) ?_
      refine lv_goto (tgt := 24) hx hb dX5_bestPitch_20 (by decide) ?_
      refine putX (k := 193) (q := (5, 0)) (ci := 5) (x := 0) inA5 tyX5_ok nmX5 rfl (by decide) rfl hx hb hta hown hE.1 hW hS sh_193 10 (by decide) q1191 rfl rfl rfl (Nat.le_of_ble_eq_true rfl) rfl dX5_bestPitch_24 (fun H locs hW hS => ?_)
      obtain ⟨σ39, e40, hf⟩ := st_e hf
      rw [e40] at hW
      refine lv_aload_n hx hb dX5_bestPitch_27 rfl (lv_at hl 0 rfl) ?_
      refine getM hx hb hta hown hE.1 hW 10 (by decide) q1191 rfl dX5_bestPitch_28 ?_
      refine lv_if_le (tgt := 36) hx hb dX5_bestPitch_31 (by decide) (fun h41 => ?_) (fun h41 => ?_)
      · have hf := ifp h41 hf
        refine lv_iconst (v := (-1)) hx hb dX5_bestPitch_36 (by decide) ?_
        refine lv_istore_n (lv' := [(3, .int (-1)), (0, .ref (b + 193)), (1, .int p1), (2, .int p2)]) hx hb dX5_bestPitch_37 rfl hl (by decide) rfl (fun ls hl => ?_)
        refine lv_iconst (v := (-1)) hx hb dX5_bestPitch_38 (by decide) ?_
        refine lv_istore (lv' := [(4, .int (-1)), (3, .int (-1)), (0, .ref (b + 193)), (1, .int p1), (2, .int p2)]) hx hb dX5_bestPitch_39 hl (by decide) rfl (fun ls hl => ?_)
        refine lv_iconst (v := 0) hx hb dX5_bestPitch_41 (by decide) ?_
        refine lv_istore (lv' := [(5, .int 0), (4, .int (-1)), (3, .int (-1)), (0, .ref (b + 193)), (1, .int p1), (2, .int p2)]) hx hb dX5_bestPitch_42 hl (by decide) rfl (fun ls hl => ?_)
        have key_44 : ∀ (n : Nat) (τ : Sg) (x1 : Int32) (x2 : Int32) (x3 : Int32) (x4 : Int32) (x5 : Int32) (H : Heap) (locs : List Loc) (ls : Array Slot), l_X5_bestPitch_44 n τ x1 x2 x3 x4 x5 = some (r, σr) → wd D t b τ H → va_S (geA b) s.heap H locs → lv_has ls 7 [(0, .ref (b + 193)), (1, .int x1), (2, .int x2), (3, .int x3), (4, .int x4), (5, .int x5)] → W p l e (headSpec (Cond.code yX5_bestPitch cX5_bestPitch 7 (some .int) :: ALL) ({ frames := 9, cells := 0, slots := 0, locals := 206 })).room s m (([.ref (b + 193), .int p1, .int p2] : List Value).toArray) below meth c H locs 0 0 (MQ below (QG D t b σr (some (.int r))) (([.ref (b + 193), .int p1, .int p2] : List Value).toArray) s 0 0 (geA b)) (F0 m 44 ls []) := by
          intro n
          induction n with
          | zero =>
            intro τ x1 x2 x3 x4 x5 H locs ls hf
            rw [l_X5_bestPitch_44.eq_1] at hf
            cases hf
          | succ n ih_44 =>
            intro τ x1 x2 x3 x4 x5 H locs ls hf hW hS hl
            rw [l_X5_bestPitch_44.eq_2] at hf
            refine lv_iload hx hb dX5_bestPitch_44 (lv_at hl 5 rfl) ?_
            refine lv_bipush (v := 12) hx hb dX5_bestPitch_46 (by decide) ?_
            refine lv_icmp_ge (tgt := 111) hx hb dX5_bestPitch_48 (by decide) (fun h42 => ?_) (fun h42 => ?_)
            · have hf := ifp h42 hf
              refine lv_iload_n hx hb dX5_bestPitch_111 rfl (lv_at hl 3 rfl) ?_
              cases hf
              exact W.iret hx hb hr (fun u hu _ => ⟨⟨rfl, by rw [hu]; exact hW⟩, hS.F hu⟩) hS.2.2 dX5_bestPitch_112
            · have hf := ifn h42 hf
              refine lv_aload_n hx hb dX5_bestPitch_51 rfl (lv_at hl 0 rfl) ?_
              refine lv_iload hx hb dX5_bestPitch_52 (lv_at hl 5 rfl) ?_
              obtain ⟨y43, u44, hf⟩ := b1_e hf
              refine mV (k := 193) (q := (5, 0)) (C := RX5) (T := TX5) (N := 14) (ci := 5) (n := 1) (As := [.int x5]) (rest := []) (c_X5_on l D t b τ x5 y43 u44) sh_193 (by decide) rfl rfl hx hb hml hown hts hE hW hS q1248 q1250 q34 q96 q1251 hy_X5_on ⟨rfl, rfl⟩ ⟨Nat.le_of_ble_eq_true rfl, Nat.le_of_ble_eq_true rfl⟩ rfl rfl hl.1 (Nat.le_of_ble_eq_true rfl) ⟨Nat.zero_le _, Nat.zero_le _⟩ dX5_bestPitch_54 (fun H locs hW hS => ?_)
              refine lv_iconst (v := (-1)) hx hb dX5_bestPitch_57 (by decide) ?_
              refine lv_icmp_ne (tgt := 72) hx hb dX5_bestPitch_58 (by decide) (fun h45 => ?_) (fun h45 => ?_)
              · have hf := ifn h45 hf
                refine lv_iconst (v := (-1)) hx hb dX5_bestPitch_72 (by decide) ?_
                refine lv_istore (lv' := [(6, .int (-1)), (0, .ref (b + 193)), (1, .int x1), (2, .int x2), (3, .int x3), (4, .int x4), (5, .int x5)]) hx hb dX5_bestPitch_73 hl (by decide) rfl (fun ls hl => ?_)
                refine lv_iload hx hb dX5_bestPitch_75 (lv_at hl 0 rfl) ?_
                refine lv_iload hx hb dX5_bestPitch_77 (lv_at hl 5 rfl) ?_
                refine lv_icmp_le (tgt := 87) hx hb dX5_bestPitch_79 (by decide) (fun h52 => ?_) (fun h52 => ?_)
                · have hf := ifp h52 hf
                  refine lv_iload_n hx hb dX5_bestPitch_87 rfl (lv_at hl 4 rfl) ?_
                  refine lv_istore_n (lv' := [(3, .int x3), (6, .int (-1)), (0, .ref (b + 193)), (1, .int x1), (2, .int x2), (4, .int x4), (5, .int x5)]) hx hb dX5_bestPitch_88 rfl hl (by decide) rfl (fun ls hl => ?_)
                  refine lv_iload hx hb dX5_bestPitch_89 (lv_at hl 1 rfl) ?_
                  refine lv_iload hx hb dX5_bestPitch_91 (lv_at hl 5 rfl) ?_
                  refine lv_icmp_le (tgt := 101) hx hb dX5_bestPitch_93 (by decide) (fun h53 => ?_) (fun h53 => ?_)
                  · have hf := ifp h53 hf
                    refine lv_iload hx hb dX5_bestPitch_101 (lv_at hl 5 rfl) ?_
                    refine lv_istore (lv' := [(4, .int x4), (3, .int x3), (6, .int (-1)), (0, .ref (b + 193)), (1, .int x1), (2, .int x2), (5, .int x5)]) hx hb dX5_bestPitch_103 hl (by decide) rfl (fun ls hl => ?_)
                    refine lv_iinc (v := (x5 + 1)) (lv' := [(5, .int (x5 + 1)), (4, .int x4), (3, .int x3), (6, .int (-1)), (0, .ref (b + 193)), (1, .int x1), (2, .int x2)]) hx hb dX5_bestPitch_105 hl (k := 6) rfl (by rfl) (by decide) rfl (fun ls hl => ?_)
                    refine lv_goto (tgt := 44) hx hb dX5_bestPitch_108 (by decide) ?_
                    exact ih_44 τ x1 x2 x3 x4 (x5 + 1) _ _ _ hf hW hS (lv_sub hl [4, 5, 6, 2, 1, 0] rfl)
                  · have hf := ifn h53 hf
                    refine lv_iload hx hb dX5_bestPitch_96 (lv_at hl 1 rfl) ?_
                    refine lv_goto (tgt := 103) hx hb dX5_bestPitch_98 (by decide) ?_
                    refine lv_istore (lv' := [(4, .int (-1)), (3, .int x3), (6, .int (-1)), (0, .ref (b + 193)), (1, .int x1), (2, .int x2), (5, .int x5)]) hx hb dX5_bestPitch_103 hl (by decide) rfl (fun ls hl => ?_)
                    refine lv_iinc (v := (x5 + 1)) (lv' := [(5, .int (x5 + 1)), (4, .int (-1)), (3, .int x3), (6, .int (-1)), (0, .ref (b + 193)), (1, .int x1), (2, .int x2)]) hx hb dX5_bestPitch_105 hl (k := 6) rfl (by rfl) (by decide) rfl (fun ls hl => ?_)
                    refine lv_goto (tgt := 44) hx hb dX5_bestPitch_108 (by decide) ?_
                    exact ih_44 τ x1 x2 x3 (-1) (x5 + 1) _ _ _ hf hW hS (lv_sub hl [4, 5, 6, 2, 1, 0] rfl)
                · have hf := ifn h52 hf
                  refine lv_iload hx hb dX5_bestPitch_82 (lv_at hl 6 rfl) ?_
                  refine lv_goto (tgt := 88) hx hb dX5_bestPitch_84 (by decide) ?_
                  refine lv_istore_n (lv' := [(3, .int x5), (6, .int (-1)), (0, .ref (b + 193)), (1, .int x1), (2, .int x2), (4, .int x4), (5, .int x5)]) hx hb dX5_bestPitch_88 rfl hl (by decide) rfl (fun ls hl => ?_)
                  refine lv_iload hx hb dX5_bestPitch_89 (lv_at hl 1 rfl) ?_
                  refine lv_iload hx hb dX5_bestPitch_91 (lv_at hl 5 rfl) ?_
                  refine lv_icmp_le (tgt := 101) hx hb dX5_bestPitch_93 (by decide) (fun h54 => ?_) (fun h54 => ?_)
                  · have hf := ifp h54 hf
                    refine lv_iload hx hb dX5_bestPitch_101 (lv_at hl 5 rfl) ?_
                    refine lv_istore (lv' := [(4, .int x4), (3, .int x5), (6, .int (-1)), (0, .ref (b + 193)), (1, .int x1), (2, .int x2), (5, .int x5)]) hx hb dX5_bestPitch_103 hl (by decide) rfl (fun ls hl => ?_)
                    refine lv_iinc (v := (x5 + 1)) (lv' := [(5, .int (x5 + 1)), (4, .int x4), (3, .int x5), (6, .int (-1)), (0, .ref (b + 193)), (1, .int x1), (2, .int x2)]) hx hb dX5_bestPitch_105 hl (k := 6) rfl (by rfl) (by decide) rfl (fun ls hl => ?_)
                    refine lv_goto (tgt := 44) hx hb dX5_bestPitch_108 (by decide) ?_
                    exact ih_44 τ x1 x2 x5 x4 (x5 + 1) _ _ _ hf hW hS (lv_sub hl [4, 5, 6, 2, 1, 0] rfl)
                  · have hf := ifn h54 hf
                    refine lv_iload hx hb dX5_bestPitch_96 (lv_at hl 1 rfl) ?_
                    refine lv_goto (tgt := 103) hx hb dX5_bestPitch_98 (by decide) ?_
                    refine lv_istore (lv' := [(4, .int (-1)), (3, .int x5), (6, .int (-1)), (0, .ref (b + 193)), (1, .int x1), (2, .int x2), (5, .int x5)]) hx hb dX5_bestPitch_103 hl (by decide) rfl (fun ls hl => ?_)
                    refine lv_iinc (v := (x5 + 1)) (lv' := [(5, .int (x5 + 1)), (4, .int (-1)), (3, .int x5), (6, .int (-1)), (0, .ref (b + 193)), (1, .int x1), (2, .int x2)]) hx hb dX5_bestPitch_105 hl (k := 6) rfl (by rfl) (by decide) rfl (fun ls hl => ?_)
                    refine lv_goto (tgt := 44) hx hb dX5_bestPitch_108 (by decide) ?_
                    exact ih_44 τ x1 x2 x5 (-1) (x5 + 1) _ _ _ hf hW hS (lv_sub hl [4, 5, 6, 2, 1, 0] rfl)
              · have hf := ifp h45 hf
                refine lv_aload_n hx hb dX5_bestPitch_61 rfl (lv_at hl 0 rfl) ?_
                refine lv_iload hx hb dX5_bestPitch_62 (lv_at hl 5 rfl) ?_
                refine lv_iload_n hx hb dX5_bestPitch_64 rfl (lv_at hl 1 rfl) ?_
                refine lv_iload_n hx hb dX5_bestPitch_65 rfl (lv_at hl 2 rfl) ?_
                obtain ⟨y46, σ48, u47, hf⟩ := b2_e hf
                refine mV (k := 193) (q := (5, 0)) (C := RX5) (T := TX5) (N := 14) (ci := 5) (n := 3) (As := [.int x5, .int x1, .int x2]) (rest := []) (c_X5_would l D t b τ x5 x1 x2 y46 σ48 u47) sh_193 (by decide) rfl rfl hx hb hml hown hts hE hW hS q1716 q1718 q89 q96 q1719 hy_X5_would ⟨rfl, rfl⟩ ⟨Nat.le_of_ble_eq_true rfl, Nat.le_of_ble_eq_true rfl⟩ rfl rfl hl.1 (Nat.le_of_ble_eq_true rfl) ⟨Nat.zero_le _, Nat.zero_le _⟩ dX5_bestPitch_66 (fun H locs hW hS => ?_)
                refine lv_goto (tgt := 73) hx hb dX5_bestPitch_69 (by decide) ?_
                refine lv_istore (lv' := [(6, .int y46), (0, .ref (b + 193)), (1, .int x1), (2, .int x2), (3, .int x3), (4, .int x4), (5, .int x5)]) hx hb dX5_bestPitch_73 hl (by decide) rfl (fun ls hl => ?_)
                refine lv_iload hx hb dX5_bestPitch_75 (lv_at hl 0 rfl) ?_
                refine lv_iload hx hb dX5_bestPitch_77 (lv_at hl 5 rfl) ?_
                refine lv_icmp_le (tgt := 87) hx hb dX5_bestPitch_79 (by decide) (fun h49 => ?_) (fun h49 => ?_)
                · have hf := ifp h49 hf
                  refine lv_iload_n hx hb dX5_bestPitch_87 rfl (lv_at hl 4 rfl) ?_
                  refine lv_istore_n (lv' := [(3, .int x3), (6, .int y46), (0, .ref (b + 193)), (1, .int x1), (2, .int x2), (4, .int x4), (5, .int x5)]) hx hb dX5_bestPitch_88 rfl hl (by decide) rfl (fun ls hl => ?_)
                  refine lv_iload hx hb dX5_bestPitch_89 (lv_at hl 1 rfl) ?_
                  refine lv_iload hx hb dX5_bestPitch_91 (lv_at hl 5 rfl) ?_
                  refine lv_icmp_le (tgt := 101) hx hb dX5_bestPitch_93 (by decide) (fun h50 => ?_) (fun h50 => ?_)
                  · have hf := ifp h50 hf
                    refine lv_iload hx hb dX5_bestPitch_101 (lv_at hl 5 rfl) ?_
                    refine lv_istore (lv' := [(4, .int x4), (3, .int x3), (6, .int y46), (0, .ref (b + 193)), (1, .int x1), (2, .int x2), (5, .int x5)]) hx hb dX5_bestPitch_103 hl (by decide) rfl (fun ls hl => ?_)
                    refine lv_iinc (v := (x5 + 1)) (lv' := [(5, .int (x5 + 1)), (4, .int x4), (3, .int x3), (6, .int y46), (0, .ref (b + 193)), (1, .int x1), (2, .int x2)]) hx hb dX5_bestPitch_105 hl (k := 6) rfl (by rfl) (by decide) rfl (fun ls hl => ?_)
                    refine lv_goto (tgt := 44) hx hb dX5_bestPitch_108 (by decide) ?_
                    exact ih_44 σ48 x1 x2 x3 x4 (x5 + 1) _ _ _ hf hW hS (lv_sub hl [4, 5, 6, 2, 1, 0] rfl)
                  · have hf := ifn h50 hf
                    refine lv_iload hx hb dX5_bestPitch_96 (lv_at hl 1 rfl) ?_
                    refine lv_goto (tgt := 103) hx hb dX5_bestPitch_98 (by decide) ?_
                    refine lv_istore (lv' := [(4, .int y46), (3, .int x3), (6, .int y46), (0, .ref (b + 193)), (1, .int x1), (2, .int x2), (5, .int x5)]) hx hb dX5_bestPitch_103 hl (by decide) rfl (fun ls hl => ?_)
                    refine lv_iinc (v := (x5 + 1)) (lv' := [(5, .int (x5 + 1)), (4, .int y46), (3, .int x3), (6, .int y46), (0, .ref (b + 193)), (1, .int x1), (2, .int x2)]) hx hb dX5_bestPitch_105 hl (k := 6) rfl (by rfl) (by decide) rfl (fun ls hl => ?_)
                    refine lv_goto (tgt := 44) hx hb dX5_bestPitch_108 (by decide) ?_
                    exact ih_44 σ48 x1 x2 x3 y46 (x5 + 1) _ _ _ hf hW hS (lv_sub hl [4, 5, 6, 2, 1, 0] rfl)
                · have hf := ifn h49 hf
                  refine lv_iload hx hb dX5_bestPitch_82 (lv_at hl 6 rfl) ?_
                  refine lv_goto (tgt := 88) hx hb dX5_bestPitch_84 (by decide) ?_
                  refine lv_istore_n (lv' := [(3, .int x5), (6, .int y46), (0, .ref (b + 193)), (1, .int x1), (2, .int x2), (4, .int x4), (5, .int x5)]) hx hb dX5_bestPitch_88 rfl hl (by decide) rfl (fun ls hl => ?_)
                  refine lv_iload hx hb dX5_bestPitch_89 (lv_at hl 1 rfl) ?_
                  refine lv_iload hx hb dX5_bestPitch_91 (lv_at hl 5 rfl) ?_
                  refine lv_icmp_le (tgt := 101) hx hb dX5_bestPitch_93 (by decide) (fun h51 => ?_) (fun h51 => ?_)
                  · have hf := ifp h51 hf
                    refine lv_iload hx hb dX5_bestPitch_101 (lv_at hl 5 rfl) ?_
                    refine lv_istore (lv' := [(4, .int x4), (3, .int x5), (6, .int y46), (0, .ref (b + 193)), (1, .int x1), (2, .int x2), (5, .int x5)]) hx hb dX5_bestPitch_103 hl (by decide) rfl (fun ls hl => ?_)
                    refine lv_iinc (v := (x5 + 1)) (lv' := [(5, .int (x5 + 1)), (4, .int x4), (3, .int x5), (6, .int y46), (0, .ref (b + 193)), (1, .int x1), (2, .int x2)]) hx hb dX5_bestPitch_105 hl (k := 6) rfl (by rfl) (by decide) rfl (fun ls hl => ?_)
                    refine lv_goto (tgt := 44) hx hb dX5_bestPitch_108 (by decide) ?_
                    exact ih_44 σ48 x1 x2 x5 x4 (x5 + 1) _ _ _ hf hW hS (lv_sub hl [4, 5, 6, 2, 1, 0] rfl)
                  · have hf := ifn h51 hf
                    refine lv_iload hx hb dX5_bestPitch_96 (lv_at hl 1 rfl) ?_
                    refine lv_goto (tgt := 103) hx hb dX5_bestPitch_98 (by decide) ?_
                    refine lv_istore (lv' := [(4, .int y46), (3, .int x5), (6, .int y46), (0, .ref (b + 193)), (1, .int x1), (2, .int x2), (5, .int x5)]) hx hb dX5_bestPitch_103 hl (by decide) rfl (fun ls hl => ?_)
                    refine lv_iinc (v := (x5 + 1)) (lv' := [(5, .int (x5 + 1)), (4, .int y46), (3, .int x5), (6, .int y46), (0, .ref (b + 193)), (1, .int x1), (2, .int x2)]) hx hb dX5_bestPitch_105 hl (k := 6) rfl (by rfl) (by decide) rfl (fun ls hl => ?_)
                    refine lv_goto (tgt := 44) hx hb dX5_bestPitch_108 (by decide) ?_
                    exact ih_44 σ48 x1 x2 x5 y46 (x5 + 1) _ _ _ hf hW hS (lv_sub hl [4, 5, 6, 2, 1, 0] rfl)
        exact key_44 10000 σ39 p1 p2 (-1) (-1) 0 _ _ _ hf hW hS (lv_sub hl [3, 4, 5, 2, 1, 0] rfl)
      · have hf := ifn h41 hf
        refine lv_iconst (v := 0) hx hb dX5_bestPitch_34 (by decide) ?_
        cases hf
        exact W.iret hx hb hr (fun u hu _ => ⟨⟨rfl, by rw [hu]; exact hW⟩, hS.F hu⟩) hS.2.2 dX5_bestPitch_35
  · have hf := ifp h3 hf
    refine lv_iconst (v := 1) hx hb dX5_bestPitch_8 (by decide) ?_
    refine lv_goto (tgt := 24) hx hb dX5_bestPitch_9 (by decide) ?_
    refine putX (k := 193) (q := (5, 0)) (ci := 5) (x := 1) inA5 tyX5_ok nmX5 rfl (by decide) rfl hx hb hta hown hE.1 hW hS sh_193 10 (by decide) q1191 rfl rfl rfl (Nat.le_of_ble_eq_true rfl) rfl dX5_bestPitch_24 (fun H locs hW hS => ?_)
    obtain ⟨σ4, e5, hf⟩ := st_e hf
    rw [e5] at hW
    refine lv_aload_n hx hb dX5_bestPitch_27 rfl (lv_at hl 0 rfl) ?_
    refine getM hx hb hta hown hE.1 hW 10 (by decide) q1191 rfl dX5_bestPitch_28 ?_
    refine lv_if_le (tgt := 36) hx hb dX5_bestPitch_31 (by decide) (fun h6 => ?_) (fun h6 => ?_)
    · have hf := ifp h6 hf
      refine lv_iconst (v := (-1)) hx hb dX5_bestPitch_36 (by decide) ?_
      refine lv_istore_n (lv' := [(3, .int (-1)), (0, .ref (b + 193)), (1, .int p1), (2, .int p2)]) hx hb dX5_bestPitch_37 rfl hl (by decide) rfl (fun ls hl => ?_)
      refine lv_iconst (v := (-1)) hx hb dX5_bestPitch_38 (by decide) ?_
      refine lv_istore (lv' := [(4, .int (-1)), (3, .int (-1)), (0, .ref (b + 193)), (1, .int p1), (2, .int p2)]) hx hb dX5_bestPitch_39 hl (by decide) rfl (fun ls hl => ?_)
      refine lv_iconst (v := 0) hx hb dX5_bestPitch_41 (by decide) ?_
      refine lv_istore (lv' := [(5, .int 0), (4, .int (-1)), (3, .int (-1)), (0, .ref (b + 193)), (1, .int p1), (2, .int p2)]) hx hb dX5_bestPitch_42 hl (by decide) rfl (fun ls hl => ?_)
      have key_44 : ∀ (n : Nat) (τ : Sg) (x1 : Int32) (x2 : Int32) (x3 : Int32) (x4 : Int32) (x5 : Int32) (H : Heap) (locs : List Loc) (ls : Array Slot), l_X5_bestPitch_44 n τ x1 x2 x3 x4 x5 = some (r, σr) → wd D t b τ H → va_S (geA b) s.heap H locs → lv_has ls 7 [(0, .ref (b + 193)), (1, .int x1), (2, .int x2), (3, .int x3), (4, .int x4), (5, .int x5)] → W p l e (headSpec (Cond.code yX5_bestPitch cX5_bestPitch 7 (some .int) :: ALL) ({ frames := 9, cells := 0, slots := 0, locals := 206 })).room s m (([.ref (b + 193), .int p1, .int p2] : List Value).toArray) below meth c H locs 0 0 (MQ below (QG D t b σr (some (.int r))) (([.ref (b + 193), .int p1, .int p2] : List Value).toArray) s 0 0 (geA b)) (F0 m 44 ls []) := by
        intro n
        induction n with
        | zero =>
          intro τ x1 x2 x3 x4 x5 H locs ls hf
          rw [l_X5_bestPitch_44.eq_1] at hf
          cases hf
        | succ n ih_44 =>
          intro τ x1 x2 x3 x4 x5 H locs ls hf hW hS hl
          rw [l_X5_bestPitch_44.eq_2] at hf
          refine lv_iload hx hb dX5_bestPitch_44 (lv_at hl 5 rfl) ?_
          refine lv_bipush (v := 12) hx hb dX5_bestPitch_46 (by decide) ?_
          refine lv_icmp_ge (tgt := 111) hx hb dX5_bestPitch_48 (by decide) (fun h7 => ?_) (fun h7 => ?_)
          · have hf := ifp h7 hf
            refine lv_iload_n hx hb dX5_bestPitch_111 rfl (lv_at hl 3 rfl) ?_
            cases hf
            exact W.iret hx hb hr (fun u hu _ => ⟨⟨rfl, by rw [hu]; exact hW⟩, hS.F hu⟩) hS.2.2 dX5_bestPitch_112
          · have hf := ifn h7 hf
            refine lv_aload_n hx hb dX5_bestPitch_51 rfl (lv_at hl 0 rfl) ?_
            refine lv_iload hx hb dX5_bestPitch_52 (lv_at hl 5 rfl) ?_
            obtain ⟨y8, u9, hf⟩ := b1_e hf
            refine mV (k := 193) (q := (5, 0)) (C := RX5) (T := TX5) (N := 14) (ci := 5) (n := 1) (As := [.int x5]) (rest := []) (c_X5_on l D t b τ x5 y8 u9) sh_193 (by decide) rfl rfl hx hb hml hown hts hE hW hS q1248 q1250 q34 q96 q1251 hy_X5_on ⟨rfl, rfl⟩ ⟨Nat.le_of_ble_eq_true rfl, Nat.le_of_ble_eq_true rfl⟩ rfl rfl hl.1 (Nat.le_of_ble_eq_true rfl) ⟨Nat.zero_le _, Nat.zero_le _⟩ dX5_bestPitch_54 (fun H locs hW hS => ?_)
            refine lv_iconst (v := (-1)) hx hb dX5_bestPitch_57 (by decide) ?_
            refine lv_icmp_ne (tgt := 72) hx hb dX5_bestPitch_58 (by decide) (fun h10 => ?_) (fun h10 => ?_)
            · have hf := ifn h10 hf
              refine lv_iconst (v := (-1)) hx hb dX5_bestPitch_72 (by decide) ?_
              refine lv_istore (lv' := [(6, .int (-1)), (0, .ref (b + 193)), (1, .int x1), (2, .int x2), (3, .int x3), (4, .int x4), (5, .int x5)]) hx hb dX5_bestPitch_73 hl (by decide) rfl (fun ls hl => ?_)
              refine lv_iload hx hb dX5_bestPitch_75 (lv_at hl 0 rfl) ?_
              refine lv_iload hx hb dX5_bestPitch_77 (lv_at hl 5 rfl) ?_
              refine lv_icmp_le (tgt := 87) hx hb dX5_bestPitch_79 (by decide) (fun h17 => ?_) (fun h17 => ?_)
              · have hf := ifp h17 hf
                refine lv_iload_n hx hb dX5_bestPitch_87 rfl (lv_at hl 4 rfl) ?_
                refine lv_istore_n (lv' := [(3, .int x3), (6, .int (-1)), (0, .ref (b + 193)), (1, .int x1), (2, .int x2), (4, .int x4), (5, .int x5)]) hx hb dX5_bestPitch_88 rfl hl (by decide) rfl (fun ls hl => ?_)
                refine lv_iload hx hb dX5_bestPitch_89 (lv_at hl 1 rfl) ?_
                refine lv_iload hx hb dX5_bestPitch_91 (lv_at hl 5 rfl) ?_
                refine lv_icmp_le (tgt := 101) hx hb dX5_bestPitch_93 (by decide) (fun h18 => ?_) (fun h18 => ?_)
                · have hf := ifp h18 hf
                  refine lv_iload hx hb dX5_bestPitch_101 (lv_at hl 5 rfl) ?_
                  refine lv_istore (lv' := [(4, .int x4), (3, .int x3), (6, .int (-1)), (0, .ref (b + 193)), (1, .int x1), (2, .int x2), (5, .int x5)]) hx hb dX5_bestPitch_103 hl (by decide) rfl (fun ls hl => ?_)
                  refine lv_iinc (v := (x5 + 1)) (lv' := [(5, .int (x5 + 1)), (4, .int x4), (3, .int x3), (6, .int (-1)), (0, .ref (b + 193)), (1, .int x1), (2, .int x2)]) hx hb dX5_bestPitch_105 hl (k := 6) rfl (by rfl) (by decide) rfl (fun ls hl => ?_)
                  refine lv_goto (tgt := 44) hx hb dX5_bestPitch_108 (by decide) ?_
                  exact ih_44 τ x1 x2 x3 x4 (x5 + 1) _ _ _ hf hW hS (lv_sub hl [4, 5, 6, 2, 1, 0] rfl)
                · have hf := ifn h18 hf
                  refine lv_iload hx hb dX5_bestPitch_96 (lv_at hl 1 rfl) ?_
                  refine lv_goto (tgt := 103) hx hb dX5_bestPitch_98 (by decide) ?_
                  refine lv_istore (lv' := [(4, .int (-1)), (3, .int x3), (6, .int (-1)), (0, .ref (b + 193)), (1, .int x1), (2, .int x2), (5, .int x5)]) hx hb dX5_bestPitch_103 hl (by decide) rfl (fun ls hl => ?_)
                  refine lv_iinc (v := (x5 + 1)) (lv' := [(5, .int (x5 + 1)), (4, .int (-1)), (3, .int x3), (6, .int (-1)), (0, .ref (b + 193)), (1, .int x1), (2, .int x2)]) hx hb dX5_bestPitch_105 hl (k := 6) rfl (by rfl) (by decide) rfl (fun ls hl => ?_)
                  refine lv_goto (tgt := 44) hx hb dX5_bestPitch_108 (by decide) ?_
                  exact ih_44 τ x1 x2 x3 (-1) (x5 + 1) _ _ _ hf hW hS (lv_sub hl [4, 5, 6, 2, 1, 0] rfl)
              · have hf := ifn h17 hf
                refine lv_iload hx hb dX5_bestPitch_82 (lv_at hl 6 rfl) ?_
                refine lv_goto (tgt := 88) hx hb dX5_bestPitch_84 (by decide) ?_
                refine lv_istore_n (lv' := [(3, .int x5), (6, .int (-1)), (0, .ref (b + 193)), (1, .int x1), (2, .int x2), (4, .int x4), (5, .int x5)]) hx hb dX5_bestPitch_88 rfl hl (by decide) rfl (fun ls hl => ?_)
                refine lv_iload hx hb dX5_bestPitch_89 (lv_at hl 1 rfl) ?_
                refine lv_iload hx hb dX5_bestPitch_91 (lv_at hl 5 rfl) ?_
                refine lv_icmp_le (tgt := 101) hx hb dX5_bestPitch_93 (by decide) (fun h19 => ?_) (fun h19 => ?_)
                · have hf := ifp h19 hf
                  refine lv_iload hx hb dX5_bestPitch_101 (lv_at hl 5 rfl) ?_
                  refine lv_istore (lv' := [(4, .int x4), (3, .int x5), (6, .int (-1)), (0, .ref (b + 193)), (1, .int x1), (2, .int x2), (5, .int x5)]) hx hb dX5_bestPitch_103 hl (by decide) rfl (fun ls hl => ?_)
                  refine lv_iinc (v := (x5 + 1)) (lv' := [(5, .int (x5 + 1)), (4, .int x4), (3, .int x5), (6, .int (-1)), (0, .ref (b + 193)), (1, .int x1), (2, .int x2)]) hx hb dX5_bestPitch_105 hl (k := 6) rfl (by rfl) (by decide) rfl (fun ls hl => ?_)
                  refine lv_goto (tgt := 44) hx hb dX5_bestPitch_108 (by decide) ?_
                  exact ih_44 τ x1 x2 x5 x4 (x5 + 1) _ _ _ hf hW hS (lv_sub hl [4, 5, 6, 2, 1, 0] rfl)
                · have hf := ifn h19 hf
                  refine lv_iload hx hb dX5_bestPitch_96 (lv_at hl 1 rfl) ?_
                  refine lv_goto (tgt := 103) hx hb dX5_bestPitch_98 (by decide) ?_
                  refine lv_istore (lv' := [(4, .int (-1)), (3, .int x5), (6, .int (-1)), (0, .ref (b + 193)), (1, .int x1), (2, .int x2), (5, .int x5)]) hx hb dX5_bestPitch_103 hl (by decide) rfl (fun ls hl => ?_)
                  refine lv_iinc (v := (x5 + 1)) (lv' := [(5, .int (x5 + 1)), (4, .int (-1)), (3, .int x5), (6, .int (-1)), (0, .ref (b + 193)), (1, .int x1), (2, .int x2)]) hx hb dX5_bestPitch_105 hl (k := 6) rfl (by rfl) (by decide) rfl (fun ls hl => ?_)
                  refine lv_goto (tgt := 44) hx hb dX5_bestPitch_108 (by decide) ?_
                  exact ih_44 τ x1 x2 x5 (-1) (x5 + 1) _ _ _ hf hW hS (lv_sub hl [4, 5, 6, 2, 1, 0] rfl)
            · have hf := ifp h10 hf
              refine lv_aload_n hx hb dX5_bestPitch_61 rfl (lv_at hl 0 rfl) ?_
              refine lv_iload hx hb dX5_bestPitch_62 (lv_at hl 5 rfl) ?_
              refine lv_iload_n hx hb dX5_bestPitch_64 rfl (lv_at hl 1 rfl) ?_
              refine lv_iload_n hx hb dX5_bestPitch_65 rfl (lv_at hl 2 rfl) ?_
              obtain ⟨y11, σ13, u12, hf⟩ := b2_e hf
              refine mV (k := 193) (q := (5, 0)) (C := RX5) (T := TX5) (N := 14) (ci := 5) (n := 3) (As := [.int x5, .int x1, .int x2]) (rest := []) (c_X5_would l D t b τ x5 x1 x2 y11 σ13 u12) sh_193 (by decide) rfl rfl hx hb hml hown hts hE hW hS q1716 q1718 q89 q96 q1719 hy_X5_would ⟨rfl, rfl⟩ ⟨Nat.le_of_ble_eq_true rfl, Nat.le_of_ble_eq_true rfl⟩ rfl rfl hl.1 (Nat.le_of_ble_eq_true rfl) ⟨Nat.zero_le _, Nat.zero_le _⟩ dX5_bestPitch_66 (fun H locs hW hS => ?_)
              refine lv_goto (tgt := 73) hx hb dX5_bestPitch_69 (by decide) ?_
              refine lv_istore (lv' := [(6, .int y11), (0, .ref (b + 193)), (1, .int x1), (2, .int x2), (3, .int x3), (4, .int x4), (5, .int x5)]) hx hb dX5_bestPitch_73 hl (by decide) rfl (fun ls hl => ?_)
              refine lv_iload hx hb dX5_bestPitch_75 (lv_at hl 0 rfl) ?_
              refine lv_iload hx hb dX5_bestPitch_77 (lv_at hl 5 rfl) ?_
              refine lv_icmp_le (tgt := 87) hx hb dX5_bestPitch_79 (by decide) (fun h14 => ?_) (fun h14 => ?_)
              · have hf := ifp h14 hf
                refine lv_iload_n hx hb dX5_bestPitch_87 rfl (lv_at hl 4 rfl) ?_
                refine lv_istore_n (lv' := [(3, .int x3), (6, .int y11), (0, .ref (b + 193)), (1, .int x1), (2, .int x2), (4, .int x4), (5, .int x5)]) hx hb dX5_bestPitch_88 rfl hl (by decide) rfl (fun ls hl => ?_)
                refine lv_iload hx hb dX5_bestPitch_89 (lv_at hl 1 rfl) ?_
                refine lv_iload hx hb dX5_bestPitch_91 (lv_at hl 5 rfl) ?_
                refine lv_icmp_le (tgt := 101) hx hb dX5_bestPitch_93 (by decide) (fun h15 => ?_) (fun h15 => ?_)
                · have hf := ifp h15 hf
                  refine lv_iload hx hb dX5_bestPitch_101 (lv_at hl 5 rfl) ?_
                  refine lv_istore (lv' := [(4, .int x4), (3, .int x3), (6, .int y11), (0, .ref (b + 193)), (1, .int x1), (2, .int x2), (5, .int x5)]) hx hb dX5_bestPitch_103 hl (by decide) rfl (fun ls hl => ?_)
                  refine lv_iinc (v := (x5 + 1)) (lv' := [(5, .int (x5 + 1)), (4, .int x4), (3, .int x3), (6, .int y11), (0, .ref (b + 193)), (1, .int x1), (2, .int x2)]) hx hb dX5_bestPitch_105 hl (k := 6) rfl (by rfl) (by decide) rfl (fun ls hl => ?_)
                  refine lv_goto (tgt := 44) hx hb dX5_bestPitch_108 (by decide) ?_
                  exact ih_44 σ13 x1 x2 x3 x4 (x5 + 1) _ _ _ hf hW hS (lv_sub hl [4, 5, 6, 2, 1, 0] rfl)
                · have hf := ifn h15 hf
                  refine lv_iload hx hb dX5_bestPitch_96 (lv_at hl 1 rfl) ?_
                  refine lv_goto (tgt := 103) hx hb dX5_bestPitch_98 (by decide) ?_
                  refine lv_istore (lv' := [(4, .int y11), (3, .int x3), (6, .int y11), (0, .ref (b + 193)), (1, .int x1), (2, .int x2), (5, .int x5)]) hx hb dX5_bestPitch_103 hl (by decide) rfl (fun ls hl => ?_)
                  refine lv_iinc (v := (x5 + 1)) (lv' := [(5, .int (x5 + 1)), (4, .int y11), (3, .int x3), (6, .int y11), (0, .ref (b + 193)), (1, .int x1), (2, .int x2)]) hx hb dX5_bestPitch_105 hl (k := 6) rfl (by rfl) (by decide) rfl (fun ls hl => ?_)
                  refine lv_goto (tgt := 44) hx hb dX5_bestPitch_108 (by decide) ?_
                  exact ih_44 σ13 x1 x2 x3 y11 (x5 + 1) _ _ _ hf hW hS (lv_sub hl [4, 5, 6, 2, 1, 0] rfl)
              · have hf := ifn h14 hf
                refine lv_iload hx hb dX5_bestPitch_82 (lv_at hl 6 rfl) ?_
                refine lv_goto (tgt := 88) hx hb dX5_bestPitch_84 (by decide) ?_
                refine lv_istore_n (lv' := [(3, .int x5), (6, .int y11), (0, .ref (b + 193)), (1, .int x1), (2, .int x2), (4, .int x4), (5, .int x5)]) hx hb dX5_bestPitch_88 rfl hl (by decide) rfl (fun ls hl => ?_)
                refine lv_iload hx hb dX5_bestPitch_89 (lv_at hl 1 rfl) ?_
                refine lv_iload hx hb dX5_bestPitch_91 (lv_at hl 5 rfl) ?_
                refine lv_icmp_le (tgt := 101) hx hb dX5_bestPitch_93 (by decide) (fun h16 => ?_) (fun h16 => ?_)
                · have hf := ifp h16 hf
                  refine lv_iload hx hb dX5_bestPitch_101 (lv_at hl 5 rfl) ?_
                  refine lv_istore (lv' := [(4, .int x4), (3, .int x5), (6, .int y11), (0, .ref (b + 193)), (1, .int x1), (2, .int x2), (5, .int x5)]) hx hb dX5_bestPitch_103 hl (by decide) rfl (fun ls hl => ?_)
                  refine lv_iinc (v := (x5 + 1)) (lv' := [(5, .int (x5 + 1)), (4, .int x4), (3, .int x5), (6, .int y11), (0, .ref (b + 193)), (1, .int x1), (2, .int x2)]) hx hb dX5_bestPitch_105 hl (k := 6) rfl (by rfl) (by decide) rfl (fun ls hl => ?_)
                  refine lv_goto (tgt := 44) hx hb dX5_bestPitch_108 (by decide) ?_
                  exact ih_44 σ13 x1 x2 x5 x4 (x5 + 1) _ _ _ hf hW hS (lv_sub hl [4, 5, 6, 2, 1, 0] rfl)
                · have hf := ifn h16 hf
                  refine lv_iload hx hb dX5_bestPitch_96 (lv_at hl 1 rfl) ?_
                  refine lv_goto (tgt := 103) hx hb dX5_bestPitch_98 (by decide) ?_
                  refine lv_istore (lv' := [(4, .int y11), (3, .int x5), (6, .int y11), (0, .ref (b + 193)), (1, .int x1), (2, .int x2), (5, .int x5)]) hx hb dX5_bestPitch_103 hl (by decide) rfl (fun ls hl => ?_)
                  refine lv_iinc (v := (x5 + 1)) (lv' := [(5, .int (x5 + 1)), (4, .int y11), (3, .int x5), (6, .int y11), (0, .ref (b + 193)), (1, .int x1), (2, .int x2)]) hx hb dX5_bestPitch_105 hl (k := 6) rfl (by rfl) (by decide) rfl (fun ls hl => ?_)
                  refine lv_goto (tgt := 44) hx hb dX5_bestPitch_108 (by decide) ?_
                  exact ih_44 σ13 x1 x2 x5 y11 (x5 + 1) _ _ _ hf hW hS (lv_sub hl [4, 5, 6, 2, 1, 0] rfl)
      exact key_44 10000 σ4 p1 p2 (-1) (-1) 0 _ _ _ hf hW hS (lv_sub hl [3, 4, 5, 2, 1, 0] rfl)
    · have hf := ifn h6 hf
      refine lv_iconst (v := 0) hx hb dX5_bestPitch_34 (by decide) ?_
      cases hf
      exact W.iret hx hb hr (fun u hu _ => ⟨⟨rfl, by rw [hu]; exact hW⟩, hS.F hu⟩) hS.2.2 dX5_bestPitch_35
def f_X5_recordedStates (σ : Sg) : Option (Int32 × Sg) := st (u2 σ 193 10 0) fun σ1 => some ((σ1 193 2), σ1)
set_option maxHeartbeats 4000000 in
set_option maxRecDepth 100000 in
theorem c_X5_recordedStates (l : Launch) (D : va_G) (t : Nat → ClassId) (b : Nat) (σ : Sg) (r : Int32) (σr : Sg) (hf : f_X5_recordedStates σ = some (r, σr)) : Met l yX5_recordedStates (Cond.code yX5_recordedStates cX5_recordedStates 1 (some .int) :: ALL) ({ frames := 0, cells := 0, slots := 0, locals := 0 }) (PM D t b σ [.ref (b + 193)]) (QG D t b σr (some (.int r))) 0 0 (geA b) := by
  refine Met.ofW (cc := cX5_recordedStates) (maxL := 1) (ret := (some .int)) (by decide) rfl ?_
  intro p e s m args below meth c s₁ B hml hv
  obtain ⟨rfl, hW, hE⟩ := hv
  have hx := B.exec
  have hb := B.bytes
  have hr := B.returns
  have hts := atoms_spec (ws := Cond.code yX5_recordedStates cX5_recordedStates 1 (some .int) :: ALL) B.pre
  have hta := fun w h => hts w (List.mem_cons_of_mem _ h)
  have hown : s.vm.findClass RX5 = some m.cls := findClass_of_methodNamed B.named
  have hlocks := B.notSynchronized
  have hS : va_S (geA b) s.heap s.heap [] := va_S.rf
  have hl := lv_entry ([.ref (b + 193)]) (n := 1) (Nat.le_of_ble_eq_true rfl)
  rw [lg_entry_eq]
  generalize (lg_sl ([.ref (b + 193)]) ++ List.replicate (1 - (lg_sl ([.ref (b + 193)])).length) Slot.unset).toArray = ls at hl ⊢
  have hl : lv_has ls 1 [(0, .ref (b + 193))] := hl
  unfold f_X5_recordedStates at hf
  refine lv_aload_n hx hb dX5_recordedStates_0 rfl (lv_at hl 0 rfl) ?_
  refine lv_iconst (v := 0) hx hb dX5_recordedStates_1 (by decide) ?_
  refine putX (k := 193) (q := (5, 0)) (ci := 5) (x := 0) inA5 tyX5_ok nmX5 rfl (by decide) rfl hx hb hta hown hE.1 hW hS sh_193 10 (by decide) q1191 rfl rfl rfl (Nat.le_of_ble_eq_true rfl) rfl dX5_recordedStates_2 (fun H locs hW hS => ?_)
  obtain ⟨σ1, e2, hf⟩ := st_e hf
  rw [e2] at hW
  refine lv_aload_n hx hb dX5_recordedStates_5 rfl (lv_at hl 0 rfl) ?_
  refine getM hx hb hta hown hE.1 hW 2 (by decide) q1183 rfl dX5_recordedStates_6 ?_
  cases hf
  exact W.iret hx hb hr (fun u hu _ => ⟨⟨rfl, by rw [hu]; exact hW⟩, hS.F hu⟩) hS.2.2 dX5_recordedStates_9

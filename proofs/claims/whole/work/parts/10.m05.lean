def f_X5_canPass (σ : Sg) (p1 : Int32) : Option Int32 := if 9999 < ((σ 194 (6 : Int32).toNatClampNeg) + (((σ 194 (7 : Int32).toNatClampNeg) + p1) / 40)) then (some 0) else (some 1)
set_option maxHeartbeats 4000000 in
set_option maxRecDepth 100000 in
theorem c_X5_canPass (l : Launch) (D : va_G) (t : Nat → ClassId) (b : Nat) (σ : Sg) (p1 : Int32) (r : Int32) (hf : f_X5_canPass σ p1 = some r) : Met l yX5_canPass (Cond.code yX5_canPass cX5_canPass 2 (some .boolean) :: ALL) ({ frames := 0, cells := 0, slots := 0, locals := 0 }) (PM D t b σ [.ref (b + 193), .int p1]) (QG D t b σ (some (.int r))) 0 0 (geA b) := by
  refine Met.ofW (cc := cX5_canPass) (maxL := 2) (ret := (some .boolean)) (by decide) rfl ?_
  intro p e s m args below meth c s₁ B hml hv
  obtain ⟨rfl, hW, hE⟩ := hv
  have hx := B.exec
  have hb := B.bytes
  have hr := B.returns
  have hts := atoms_spec (ws := Cond.code yX5_canPass cX5_canPass 2 (some .boolean) :: ALL) B.pre
  have hta := fun w h => hts w (List.mem_cons_of_mem _ h)
  have hown : s.vm.findClass RX5 = some m.cls := findClass_of_methodNamed B.named
  have hlocks := B.notSynchronized
  have hS : va_S (geA b) s.heap s.heap [] := va_S.rf
  have hl := lv_entry ([.ref (b + 193), .int p1]) (n := 2) (Nat.le_of_ble_eq_true rfl)
  rw [lg_entry_eq]
  generalize (lg_sl ([.ref (b + 193), .int p1]) ++ List.replicate (2 - (lg_sl ([.ref (b + 193), .int p1])).length) Slot.unset).toArray = ls at hl ⊢
  have hl : lv_has ls 2 [(0, .ref (b + 193)), (1, .int p1)] := hl
  unfold f_X5_canPass at hf
  refine lv_aload_n hx hb dX5_canPass_0 rfl (lv_at hl 0 rfl) ?_
  refine getM hx hb hta hown hE.1 hW 0 (by decide) q1181 rfl dX5_canPass_1 ?_
  refine lv_bipush (v := 6) hx hb dX5_canPass_4 (by decide) ?_
  refine iald hx hb hE.1 hW sh_194 (vp_lit (by decide +kernel)) dX5_canPass_6 ?_
  refine lv_aload_n hx hb dX5_canPass_7 rfl (lv_at hl 0 rfl) ?_
  refine getM hx hb hta hown hE.1 hW 0 (by decide) q1181 rfl dX5_canPass_8 ?_
  refine lv_bipush (v := 7) hx hb dX5_canPass_11 (by decide) ?_
  refine iald hx hb hE.1 hW sh_194 (vp_lit (by decide +kernel)) dX5_canPass_13 ?_
  refine lv_iload_n hx hb dX5_canPass_14 rfl (lv_at hl 1 rfl) ?_
  refine lv_iadd hx hb dX5_canPass_15 ?_
  refine lv_bipush (v := 40) hx hb dX5_canPass_16 (by decide) ?_
  refine lv_idiv hx hb dX5_canPass_18 (by decide) ?_
  refine lv_iadd hx hb dX5_canPass_19 ?_
  refine lv_sipush (v := 9999) hx hb dX5_canPass_20 (by decide) ?_
  refine lv_icmp_gt (tgt := 30) hx hb dX5_canPass_23 (by decide) (fun h1 => ?_) (fun h1 => ?_)
  · have hf := ifp h1 hf
    refine lv_iconst (v := 0) hx hb dX5_canPass_30 (by decide) ?_
    cases hf
    exact W.zret (ty := .boolean) hx hb hr (by decide) (fun u hu _ => ⟨⟨rfl, by rw [hu]; exact hW⟩, hS.F hu⟩) hS.2.2 dX5_canPass_31
  · have hf := ifn h1 hf
    refine lv_iconst (v := 1) hx hb dX5_canPass_26 (by decide) ?_
    refine lv_goto (tgt := 31) hx hb dX5_canPass_27 (by decide) ?_
    cases hf
    exact W.zret (ty := .boolean) hx hb hr (by decide) (fun u hu _ => ⟨⟨rfl, by rw [hu]; exact hW⟩, hS.F hu⟩) hS.2.2 dX5_canPass_31
def l_X5_passes_9 : Nat → Sg → Int32 → Int32 → Int32 → Option (Int32 × Sg)
  | 0, _, _, _, _ => none
  | n + 1, τ, x1, x2, x3 => if x1 ≤ x3 then (some (((τ 194 (5 : Int32).toNatClampNeg) - x2), τ)) else (b1 (f_X5_passesRound τ) fun σ4 => l_X5_passes_9 n σ4 x1 x2 (x3 + 1))
def f_X5_passes (σ : Sg) (p1 : Int32) : Option (Int32 × Sg) := l_X5_passes_9 10000 σ p1 (σ 194 (5 : Int32).toNatClampNeg) 0
set_option maxHeartbeats 4000000 in
set_option maxRecDepth 100000 in
theorem c_X5_passes (l : Launch) (D : va_G) (t : Nat → ClassId) (b : Nat) (σ : Sg) (p1 : Int32) (r : Int32) (σr : Sg) (hf : f_X5_passes σ p1 = some (r, σr)) : Met l yX5_passes (Cond.code yX5_passes cX5_passes 4 (some .int) :: ALL) ({ frames := 7, cells := 0, slots := 0, locals := 158 }) (PM D t b σ [.ref (b + 193), .int p1]) (QG D t b σr (some (.int r))) 0 0 (geA b) := by
  refine Met.ofW (cc := cX5_passes) (maxL := 4) (ret := (some .int)) (by decide) rfl ?_
  intro p e s m args below meth c s₁ B hml hv
  obtain ⟨rfl, hW, hE⟩ := hv
  have hx := B.exec
  have hb := B.bytes
  have hr := B.returns
  have hts := atoms_spec (ws := Cond.code yX5_passes cX5_passes 4 (some .int) :: ALL) B.pre
  have hta := fun w h => hts w (List.mem_cons_of_mem _ h)
  have hown : s.vm.findClass RX5 = some m.cls := findClass_of_methodNamed B.named
  have hlocks := B.notSynchronized
  have hS : va_S (geA b) s.heap s.heap [] := va_S.rf
  have hl := lv_entry ([.ref (b + 193), .int p1]) (n := 4) (Nat.le_of_ble_eq_true rfl)
  rw [lg_entry_eq]
  generalize (lg_sl ([.ref (b + 193), .int p1]) ++ List.replicate (4 - (lg_sl ([.ref (b + 193), .int p1])).length) Slot.unset).toArray = ls at hl ⊢
  have hl : lv_has ls 4 [(0, .ref (b + 193)), (1, .int p1)] := hl
  unfold f_X5_passes at hf
  refine lv_aload_n hx hb dX5_passes_0 rfl (lv_at hl 0 rfl) ?_
  refine getM hx hb hta hown hE.1 hW 0 (by decide) q1181 rfl dX5_passes_1 ?_
  refine lv_iconst (v := 5) hx hb dX5_passes_4 (by decide) ?_
  refine iald hx hb hE.1 hW sh_194 (vp_lit (by decide +kernel)) dX5_passes_5 ?_
  refine lv_istore_n (lv' := [(2, .int (σ 194 (5 : Int32).toNatClampNeg)), (0, .ref (b + 193)), (1, .int p1)]) hx hb dX5_passes_6 rfl hl (by decide) rfl (fun ls hl => ?_)
  refine lv_iconst (v := 0) hx hb dX5_passes_7 (by decide) ?_
  refine lv_istore_n (lv' := [(3, .int 0), (2, .int (σ 194 (5 : Int32).toNatClampNeg)), (0, .ref (b + 193)), (1, .int p1)]) hx hb dX5_passes_8 rfl hl (by decide) rfl (fun ls hl => ?_)
  have key_9 : ∀ (n : Nat) (τ : Sg) (x1 : Int32) (x2 : Int32) (x3 : Int32) (H : Heap) (locs : List Loc) (ls : Array Slot), l_X5_passes_9 n τ x1 x2 x3 = some (r, σr) → wd D t b τ H → va_S (geA b) s.heap H locs → lv_has ls 4 [(0, .ref (b + 193)), (1, .int x1), (2, .int x2), (3, .int x3)] → W p l e (headSpec (Cond.code yX5_passes cX5_passes 4 (some .int) :: ALL) ({ frames := 7, cells := 0, slots := 0, locals := 158 })).room s m (([.ref (b + 193), .int p1] : List Value).toArray) below meth c H locs 0 0 (MQ below (QG D t b σr (some (.int r))) (([.ref (b + 193), .int p1] : List Value).toArray) s 0 0 (geA b)) (F0 m 9 ls []) := by
    intro n
    induction n with
    | zero =>
      intro τ x1 x2 x3 H locs ls hf
      rw [l_X5_passes_9.eq_1] at hf
      cases hf
    | succ n ih_9 =>
      intro τ x1 x2 x3 H locs ls hf hW hS hl
      rw [l_X5_passes_9.eq_2] at hf
      refine lv_iload_n hx hb dX5_passes_9 rfl (lv_at hl 3 rfl) ?_
      refine lv_iload_n hx hb dX5_passes_10 rfl (lv_at hl 1 rfl) ?_
      refine lv_icmp_ge (tgt := 24) hx hb dX5_passes_11 (by decide) (fun h1 => ?_) (fun h1 => ?_)
      · have hf := ifp h1 hf
        refine lv_aload_n hx hb dX5_passes_24 rfl (lv_at hl 0 rfl) ?_
        refine getM hx hb hta hown hE.1 hW 0 (by decide) q1181 rfl dX5_passes_25 ?_
        refine lv_iconst (v := 5) hx hb dX5_passes_28 (by decide) ?_
        refine iald hx hb hE.1 hW sh_194 (vp_lit (by decide +kernel)) dX5_passes_29 ?_
        refine lv_iload_n hx hb dX5_passes_30 rfl (lv_at hl 2 rfl) ?_
        refine lv_isub hx hb dX5_passes_31 ?_
        cases hf
        exact W.iret hx hb hr (fun u hu _ => ⟨⟨rfl, by rw [hu]; exact hW⟩, hS.F hu⟩) hS.2.2 dX5_passes_32
      · have hf := ifn h1 hf
        refine lv_aload_n hx hb dX5_passes_14 rfl (lv_at hl 0 rfl) ?_
        obtain ⟨σ4, u3, hf⟩ := b1_e hf
        refine mV (k := 193) (q := (5, 0)) (C := RX5) (T := TX5) (N := 14) (ci := 5) (n := 0) (As := []) (rest := []) (c_X5_passesRound l D t b τ σ4 u3) sh_193 (by decide) rfl rfl hx hb hml hown hts hE hW hS q1388 q1390 q57 q96 q1391 hy_X5_passesRound ⟨rfl, rfl⟩ ⟨Nat.le_of_ble_eq_true rfl, Nat.le_of_ble_eq_true rfl⟩ rfl rfl hl.1 (Nat.le_of_ble_eq_true rfl) ⟨Nat.zero_le _, Nat.zero_le _⟩ dX5_passes_15 (fun H locs hW hS => ?_)
        refine lv_iinc (v := (x3 + 1)) (lv' := [(3, .int (x3 + 1)), (0, .ref (b + 193)), (1, .int x1), (2, .int x2)]) hx hb dX5_passes_18 hl (k := 3) rfl (by rfl) (by decide) rfl (fun ls hl => ?_)
        refine lv_goto (tgt := 9) hx hb dX5_passes_21 (by decide) ?_
        exact ih_9 σ4 x1 x2 (x3 + 1) _ _ _ hf hW hS (lv_sub hl [1, 2, 3, 0] rfl)
  exact key_9 10000 σ p1 (σ 194 (5 : Int32).toNatClampNeg) 0 _ _ _ hf hW hS (lv_sub hl [2, 3, 1, 0] rfl)
def f_X5_build (σ : Sg) (p1 : Int32) (p2 : Int32) (p3 : Int32) (p4 : Int32) : Option (Int32 × Sg) := b1 (f_X5_whyNotBuilt σ p1 p2 p3 p4) fun y1 => st (u2 σ 193 10 y1) fun σ3 => if (σ3 193 10) ≤ 0 then (b1 (f_X5_saves 194 1785 σ3) fun σ8 => b2 (f_X5_paysBuilding σ8 p1 p2 p3 p4) fun y9 σ11 => some (y9, σ11)) else (some (0, σ3))
set_option maxHeartbeats 4000000 in
set_option maxRecDepth 100000 in
theorem c_X5_build (l : Launch) (D : va_G) (t : Nat → ClassId) (b : Nat) (σ : Sg) (p1 : Int32) (p2 : Int32) (p3 : Int32) (p4 : Int32) (r : Int32) (σr : Sg) (hf : f_X5_build σ p1 p2 p3 p4 = some (r, σr)) : Met l yX5_build (Cond.code yX5_build cX5_build 5 (some .int) :: ALL) ({ frames := 3, cells := 0, slots := 0, locals := 74 }) (PM D t b σ [.ref (b + 193), .int p1, .int p2, .int p3, .int p4]) (QG D t b σr (some (.int r))) 0 0 (geA b) := by
  refine Met.ofW (cc := cX5_build) (maxL := 5) (ret := (some .int)) (by decide) rfl ?_
  intro p e s m args below meth c s₁ B hml hv
  obtain ⟨rfl, hW, hE⟩ := hv
  have hx := B.exec
  have hb := B.bytes
  have hr := B.returns
  have hts := atoms_spec (ws := Cond.code yX5_build cX5_build 5 (some .int) :: ALL) B.pre
  have hta := fun w h => hts w (List.mem_cons_of_mem _ h)
  have hown : s.vm.findClass RX5 = some m.cls := findClass_of_methodNamed B.named
  have hlocks := B.notSynchronized
  have hS : va_S (geA b) s.heap s.heap [] := va_S.rf
  have hl := lv_entry ([.ref (b + 193), .int p1, .int p2, .int p3, .int p4]) (n := 5) (Nat.le_of_ble_eq_true rfl)
  rw [lg_entry_eq]
  generalize (lg_sl ([.ref (b + 193), .int p1, .int p2, .int p3, .int p4]) ++ List.replicate (5 - (lg_sl ([.ref (b + 193), .int p1, .int p2, .int p3, .int p4])).length) Slot.unset).toArray = ls at hl ⊢
  have hl : lv_has ls 5 [(0, .ref (b + 193)), (1, .int p1), (2, .int p2), (3, .int p3), (4, .int p4)] := hl
  unfold f_X5_build at hf
  refine lv_aload_n hx hb dX5_build_0 rfl (lv_at hl 0 rfl) ?_
  refine lv_aload_n hx hb dX5_build_1 rfl (lv_at hl 0 rfl) ?_
  refine lv_iload_n hx hb dX5_build_2 rfl (lv_at hl 1 rfl) ?_
  refine lv_iload_n hx hb dX5_build_3 rfl (lv_at hl 2 rfl) ?_
  refine lv_iload_n hx hb dX5_build_4 rfl (lv_at hl 3 rfl) ?_
  refine lv_iload hx hb dX5_build_5 (lv_at hl 4 rfl) ?_
  obtain ⟨y1, u2, hf⟩ := b1_e hf
  refine mV (k := 193) (q := (5, 0)) (C := RX5) (T := TX5) (N := 14) (ci := 5) (n := 4) (As := [.int p1, .int p2, .int p3, .int p4]) (rest := [.ref (b + 193)]) (c_X5_whyNotBuilt l D t b σ p1 p2 p3 p4 y1 u2) sh_193 (by decide) rfl rfl hx hb hml hown hts hE hW hS q1232 q1234 q33 q96 q1235 hy_X5_whyNotBuilt ⟨rfl, rfl⟩ ⟨Nat.le_of_ble_eq_true rfl, Nat.le_of_ble_eq_true rfl⟩ rfl rfl hl.1 (Nat.le_of_ble_eq_true rfl) ⟨Nat.zero_le _, Nat.zero_le _⟩ dX5_build_7 (fun H locs hW hS => ?_)
  refine putX (k := 193) (q := (5, 0)) (ci := 5) (x := y1) inA5 tyX5_ok nmX5 rfl (by decide) rfl hx hb hta hown hE.1 hW hS sh_193 10 (by decide) q1191 rfl rfl rfl (Nat.le_of_ble_eq_true rfl) rfl dX5_build_10 (fun H locs hW hS => ?_)
  obtain ⟨σ3, e4, hf⟩ := st_e hf
  rw [e4] at hW
  refine lv_aload_n hx hb dX5_build_13 rfl (lv_at hl 0 rfl) ?_
  refine getM hx hb hta hown hE.1 hW 10 (by decide) q1191 rfl dX5_build_14 ?_
  refine lv_if_le (tgt := 22) hx hb dX5_build_17 (by decide) (fun h5 => ?_) (fun h5 => ?_)
  · have hf := ifp h5 hf
    refine lv_aload_n hx hb dX5_build_22 rfl (lv_at hl 0 rfl) ?_
    refine lv_aload_n hx hb dX5_build_23 rfl (lv_at hl 0 rfl) ?_
    refine getM hx hb hta hown hE.1 hW 0 (by decide) q1181 rfl dX5_build_24 ?_
    obtain ⟨σ8, u7, hf⟩ := b1_e hf
    refine mV (k := 193) (q := (5, 0)) (C := RX5) (T := TX5) (N := 14) (ci := 5) (n := 1) (As := [.ref (b + 194)]) (rest := []) (c_X5_saves l D t b 194 1785 σ3 σ8 sh_194 u7) sh_193 (by decide) rfl rfl hx hb hml hown hts hE hW hS q1256 q1258 q36 q96 q1259 hy_X5_saves ⟨rfl, rfl⟩ ⟨Nat.le_of_ble_eq_true rfl, Nat.le_of_ble_eq_true rfl⟩ rfl rfl hl.1 (Nat.le_of_ble_eq_true rfl) ⟨Nat.zero_le _, Nat.zero_le _⟩ dX5_build_27 (fun H locs hW hS => ?_)
    refine lv_aload_n hx hb dX5_build_30 rfl (lv_at hl 0 rfl) ?_
    refine lv_iload_n hx hb dX5_build_31 rfl (lv_at hl 1 rfl) ?_
    refine lv_iload_n hx hb dX5_build_32 rfl (lv_at hl 2 rfl) ?_
    refine lv_iload_n hx hb dX5_build_33 rfl (lv_at hl 3 rfl) ?_
    refine lv_iload hx hb dX5_build_34 (lv_at hl 4 rfl) ?_
    obtain ⟨y9, σ11, u10, hf⟩ := b2_e hf
    refine mV (k := 193) (q := (5, 0)) (C := RX5) (T := TX5) (N := 14) (ci := 5) (n := 4) (As := [.int p1, .int p2, .int p3, .int p4]) (rest := []) (c_X5_paysBuilding l D t b σ8 p1 p2 p3 p4 y9 σ11 u10) sh_193 (by decide) rfl rfl hx hb hml hown hts hE hW hS q1263 q1265 q37 q96 q1266 hy_X5_paysBuilding ⟨rfl, rfl⟩ ⟨Nat.le_of_ble_eq_true rfl, Nat.le_of_ble_eq_true rfl⟩ rfl rfl hl.1 (Nat.le_of_ble_eq_true rfl) ⟨Nat.zero_le _, Nat.zero_le _⟩ dX5_build_36 (fun H locs hW hS => ?_)
    cases hf
    exact W.iret hx hb hr (fun u hu _ => ⟨⟨rfl, by rw [hu]; exact hW⟩, hS.F hu⟩) hS.2.2 dX5_build_39
  · have hf := ifn h5 hf
    refine lv_iconst (v := 0) hx hb dX5_build_20 (by decide) ?_
    cases hf
    exact W.iret hx hb hr (fun u hu _ => ⟨⟨rfl, by rw [hu]; exact hW⟩, hS.F hu⟩) hS.2.2 dX5_build_21
def l_X5_pullDown_70 : Nat → Sg → Int32 → Int32 → Option (Int32 × Sg)
  | 0, _, _, _ => none
  | n + 1, τ, x2, x3 => if (24 + (23 * (τ 194 (8 : Int32).toNatClampNeg))) ≤ x3 then (some (x2, τ)) else (gd (x3 + 23) 1785 (gd x3 1785 (st (u2 τ 194 (x3).toNatClampNeg (τ 194 ((x3 + 23)).toNatClampNeg)) fun σ19 => l_X5_pullDown_70 n σ19 x2 (x3 + 1))))
def f_X5_pullDown (σ : Sg) (p1 : Int32) : Option (Int32 × Sg) := b1 (f_X5_isStall σ p1) fun y1 => if y1 = 0 then (st (u2 σ 193 10 1) fun σ4 => if (σ4 193 10) ≤ 0 then (b1 (f_X5_saves 194 1785 σ4) fun σ9 => b1 (f_X5_its σ9 p1 4) fun y10 => st (u2 σ9 194 (0 : Int32).toNatClampNeg ((σ9 194 (0 : Int32).toNatClampNeg) + y10)) fun σ12 => st (u2 σ12 194 (8 : Int32).toNatClampNeg ((σ12 194 (8 : Int32).toNatClampNeg) - 1)) fun σ14 => l_X5_pullDown_70 10000 σ14 y10 (24 + (23 * p1))) else (some (0, σ4))) else (st (u2 σ 193 10 0) fun σ21 => if (σ21 193 10) ≤ 0 then (b1 (f_X5_saves 194 1785 σ21) fun σ26 => b1 (f_X5_its σ26 p1 4) fun y27 => st (u2 σ26 194 (0 : Int32).toNatClampNeg ((σ26 194 (0 : Int32).toNatClampNeg) + y27)) fun σ29 => st (u2 σ29 194 (8 : Int32).toNatClampNeg ((σ29 194 (8 : Int32).toNatClampNeg) - 1)) fun σ31 => l_X5_pullDown_70 10000 σ31 y27 (24 + (23 * p1))) else (some (0, σ21)))
set_option maxHeartbeats 4000000 in
set_option maxRecDepth 100000 in
theorem c_X5_pullDown (l : Launch) (D : va_G) (t : Nat → ClassId) (b : Nat) (σ : Sg) (p1 : Int32) (r : Int32) (σr : Sg) (hf : f_X5_pullDown σ p1 = some (r, σr)) : Met l yX5_pullDown (Cond.code yX5_pullDown cX5_pullDown 4 (some .int) :: ALL) ({ frames := 2, cells := 0, slots := 0, locals := 46 }) (PM D t b σ [.ref (b + 193), .int p1]) (QG D t b σr (some (.int r))) 0 0 (geA b) := by
  refine Met.ofW (cc := cX5_pullDown) (maxL := 4) (ret := (some .int)) (by decide) rfl ?_
  intro p e s m args below meth c s₁ B hml hv
  obtain ⟨rfl, hW, hE⟩ := hv
  have hx := B.exec
  have hb := B.bytes
  have hr := B.returns
  have hts := atoms_spec (ws := Cond.code yX5_pullDown cX5_pullDown 4 (some .int) :: ALL) B.pre
  have hta := fun w h => hts w (List.mem_cons_of_mem _ h)
  have hown : s.vm.findClass RX5 = some m.cls := findClass_of_methodNamed B.named
  have hlocks := B.notSynchronized
  have hS : va_S (geA b) s.heap s.heap [] := va_S.rf
  have hl := lv_entry ([.ref (b + 193), .int p1]) (n := 4) (Nat.le_of_ble_eq_true rfl)
  rw [lg_entry_eq]
  generalize (lg_sl ([.ref (b + 193), .int p1]) ++ List.replicate (4 - (lg_sl ([.ref (b + 193), .int p1])).length) Slot.unset).toArray = ls at hl ⊢
  have hl : lv_has ls 4 [(0, .ref (b + 193)), (1, .int p1)] := hl
  unfold f_X5_pullDown at hf
  refine lv_aload_n hx hb dX5_pullDown_0 rfl (lv_at hl 0 rfl) ?_
  refine lv_aload_n hx hb dX5_pullDown_1 rfl (lv_at hl 0 rfl) ?_
  refine lv_iload_n hx hb dX5_pullDown_2 rfl (lv_at hl 1 rfl) ?_
  obtain ⟨y1, u2, hf⟩ := b1_e hf
  refine mV (k := 193) (q := (5, 0)) (C := RX5) (T := TX5) (N := 14) (ci := 5) (n := 1) (As := [.int p1]) (rest := [.ref (b + 193)]) (c_X5_isStall l D t b σ p1 y1 u2) sh_193 (by decide) rfl rfl hx hb hml hown hts hE hW hS q1279 q1281 q40 q96 q1282 hy_X5_isStall ⟨rfl, rfl⟩ ⟨Nat.le_of_ble_eq_true rfl, Nat.le_of_ble_eq_true rfl⟩ rfl rfl hl.1 (Nat.le_of_ble_eq_true rfl) ⟨Nat.zero_le _, Nat.zero_le _⟩ dX5_pullDown_3 (fun H locs hW hS => ?_)
  refine lv_if_eq (tgt := 13) hx hb dX5_pullDown_6 (by decide) (fun h3 => ?_) (fun h3 => ?_)
  · have hf := ifp h3 hf
    refine lv_iconst (v := 1) hx hb dX5_pullDown_13 (by decide) ?_
    refine putX (k := 193) (q := (5, 0)) (ci := 5) (x := 1) inA5 tyX5_ok nmX5 rfl (by decide) rfl hx hb hta hown hE.1 hW hS sh_193 10 (by decide) q1191 rfl rfl rfl (Nat.le_of_ble_eq_true rfl) rfl dX5_pullDown_14 (fun H locs hW hS => ?_)
    obtain ⟨σ4, e5, hf⟩ := st_e hf
    rw [e5] at hW
    refine lv_aload_n hx hb dX5_pullDown_17 rfl (lv_at hl 0 rfl) ?_
    refine getM hx hb hta hown hE.1 hW 10 (by decide) q1191 rfl dX5_pullDown_18 ?_
    refine lv_if_le (tgt := 26) hx hb dX5_pullDown_21 (by decide) (fun h6 => ?_) (fun h6 => ?_)
    · have hf := ifp h6 hf
      refine lv_aload_n hx hb dX5_pullDown_26 rfl (lv_at hl 0 rfl) ?_
      refine lv_aload_n hx hb dX5_pullDown_27 rfl (lv_at hl 0 rfl) ?_
      refine getM hx hb hta hown hE.1 hW 0 (by decide) q1181 rfl dX5_pullDown_28 ?_
      obtain ⟨σ9, u8, hf⟩ := b1_e hf
      refine mV (k := 193) (q := (5, 0)) (C := RX5) (T := TX5) (N := 14) (ci := 5) (n := 1) (As := [.ref (b + 194)]) (rest := []) (c_X5_saves l D t b 194 1785 σ4 σ9 sh_194 u8) sh_193 (by decide) rfl rfl hx hb hml hown hts hE hW hS q1256 q1258 q36 q96 q1259 hy_X5_saves ⟨rfl, rfl⟩ ⟨Nat.le_of_ble_eq_true rfl, Nat.le_of_ble_eq_true rfl⟩ rfl rfl hl.1 (Nat.le_of_ble_eq_true rfl) ⟨Nat.zero_le _, Nat.zero_le _⟩ dX5_pullDown_31 (fun H locs hW hS => ?_)
      refine lv_aload_n hx hb dX5_pullDown_34 rfl (lv_at hl 0 rfl) ?_
      refine lv_iload_n hx hb dX5_pullDown_35 rfl (lv_at hl 1 rfl) ?_
      refine lv_iconst (v := 4) hx hb dX5_pullDown_36 (by decide) ?_
      obtain ⟨y10, u11, hf⟩ := b1_e hf
      refine mV (k := 193) (q := (5, 0)) (C := RX5) (T := TX5) (N := 14) (ci := 5) (n := 2) (As := [.int p1, .int 4]) (rest := []) (c_X5_its l D t b σ9 p1 4 y10 u11) sh_193 (by decide) rfl rfl hx hb hml hown hts hE hW hS q1252 q1254 q35 q96 q1255 hy_X5_its ⟨rfl, rfl⟩ ⟨Nat.le_of_ble_eq_true rfl, Nat.le_of_ble_eq_true rfl⟩ rfl rfl hl.1 (Nat.le_of_ble_eq_true rfl) ⟨Nat.zero_le _, Nat.zero_le _⟩ dX5_pullDown_37 (fun H locs hW hS => ?_)
      refine lv_istore_n (lv' := [(2, .int y10), (0, .ref (b + 193)), (1, .int p1)]) hx hb dX5_pullDown_40 rfl hl (by decide) rfl (fun ls hl => ?_)
      refine lv_aload_n hx hb dX5_pullDown_41 rfl (lv_at hl 1 rfl) ?_
      refine getM hx hb hta hown hE.1 hW 0 (by decide) q1181 rfl dX5_pullDown_42 ?_
      refine lv_iconst (v := 0) hx hb dX5_pullDown_45 (by decide) ?_
      refine lv_dup2_11 hx hb dX5_pullDown_46 rfl rfl ?_
      refine iald hx hb hE.1 hW sh_194 (vp_lit (by decide +kernel)) dX5_pullDown_47 ?_
      refine lv_iload_n hx hb dX5_pullDown_48 rfl (lv_at hl 0 rfl) ?_
      refine lv_iadd hx hb dX5_pullDown_49 ?_
      refine iast (k := 194) (i := 0) (x := ((σ9 194 (0 : Int32).toNatClampNeg) + y10)) hx hb hE.1 hW hS sh_194 (vp_lit (by decide +kernel)) dX5_pullDown_50 (fun H locs hW hS => ?_)
      obtain ⟨σ12, e13, hf⟩ := st_e hf
      rw [e13] at hW
      refine lv_aload_n hx hb dX5_pullDown_51 rfl (lv_at hl 1 rfl) ?_
      refine getM hx hb hta hown hE.1 hW 0 (by decide) q1181 rfl dX5_pullDown_52 ?_
      refine lv_bipush (v := 8) hx hb dX5_pullDown_55 (by decide) ?_
      refine lv_dup2_11 hx hb dX5_pullDown_57 rfl rfl ?_
      refine iald hx hb hE.1 hW sh_194 (vp_lit (by decide +kernel)) dX5_pullDown_58 ?_
      refine lv_iconst (v := 1) hx hb dX5_pullDown_59 (by decide) ?_
      refine lv_isub hx hb dX5_pullDown_60 ?_
      refine iast (k := 194) (i := 8) (x := ((σ12 194 (8 : Int32).toNatClampNeg) - 1)) hx hb hE.1 hW hS sh_194 (vp_lit (by decide +kernel)) dX5_pullDown_61 (fun H locs hW hS => ?_)
      obtain ⟨σ14, e15, hf⟩ := st_e hf
      rw [e15] at hW
      refine lv_bipush (v := 24) hx hb dX5_pullDown_62 (by decide) ?_
      refine lv_bipush (v := 23) hx hb dX5_pullDown_64 (by decide) ?_
      refine lv_iload_n hx hb dX5_pullDown_66 rfl (lv_at hl 2 rfl) ?_
      refine lv_imul hx hb dX5_pullDown_67 ?_
      refine lv_iadd hx hb dX5_pullDown_68 ?_
      refine lv_istore_n (lv' := [(3, .int (24 + (23 * p1))), (2, .int y10), (0, .ref (b + 193)), (1, .int p1)]) hx hb dX5_pullDown_69 rfl hl (by decide) rfl (fun ls hl => ?_)
      have key_70 : ∀ (n : Nat) (τ : Sg) (x2 : Int32) (x3 : Int32) (H : Heap) (locs : List Loc) (ls : Array Slot), l_X5_pullDown_70 n τ x2 x3 = some (r, σr) → wd D t b τ H → va_S (geA b) s.heap H locs → lv_has ls 4 [(0, .ref (b + 193)), (2, .int x2), (3, .int x3)] → W p l e (headSpec (Cond.code yX5_pullDown cX5_pullDown 4 (some .int) :: ALL) ({ frames := 2, cells := 0, slots := 0, locals := 46 })).room s m (([.ref (b + 193), .int p1] : List Value).toArray) below meth c H locs 0 0 (MQ below (QG D t b σr (some (.int r))) (([.ref (b + 193), .int p1] : List Value).toArray) s 0 0 (geA b)) (F0 m 70 ls []) := by
        intro n
        induction n with
        | zero =>
          intro τ x2 x3 H locs ls hf
          rw [l_X5_pullDown_70.eq_1] at hf
          cases hf
        | succ n ih_70 =>
          intro τ x2 x3 H locs ls hf hW hS hl
          rw [l_X5_pullDown_70.eq_2] at hf
          refine lv_iload_n hx hb dX5_pullDown_70 rfl (lv_at hl 2 rfl) ?_
          refine lv_bipush (v := 24) hx hb dX5_pullDown_71 (by decide) ?_
          refine lv_bipush (v := 23) hx hb dX5_pullDown_73 (by decide) ?_
          refine lv_aload_n hx hb dX5_pullDown_75 rfl (lv_at hl 0 rfl) ?_
          refine getM hx hb hta hown hE.1 hW 0 (by decide) q1181 rfl dX5_pullDown_76 ?_
          refine lv_bipush (v := 8) hx hb dX5_pullDown_79 (by decide) ?_
          refine iald hx hb hE.1 hW sh_194 (vp_lit (by decide +kernel)) dX5_pullDown_81 ?_
          refine lv_imul hx hb dX5_pullDown_82 ?_
          refine lv_iadd hx hb dX5_pullDown_83 ?_
          refine lv_icmp_ge (tgt := 108) hx hb dX5_pullDown_84 (by decide) (fun h16 => ?_) (fun h16 => ?_)
          · have hf := ifp h16 hf
            refine lv_iload_n hx hb dX5_pullDown_108 rfl (lv_at hl 1 rfl) ?_
            cases hf
            exact W.iret hx hb hr (fun u hu _ => ⟨⟨rfl, by rw [hu]; exact hW⟩, hS.F hu⟩) hS.2.2 dX5_pullDown_109
          · have hf := ifn h16 hf
            refine lv_aload_n hx hb dX5_pullDown_87 rfl (lv_at hl 0 rfl) ?_
            refine getM hx hb hta hown hE.1 hW 0 (by decide) q1181 rfl dX5_pullDown_88 ?_
            refine lv_iload_n hx hb dX5_pullDown_91 rfl (lv_at hl 2 rfl) ?_
            refine lv_aload_n hx hb dX5_pullDown_92 rfl (lv_at hl 0 rfl) ?_
            refine getM hx hb hta hown hE.1 hW 0 (by decide) q1181 rfl dX5_pullDown_93 ?_
            refine lv_iload_n hx hb dX5_pullDown_96 rfl (lv_at hl 2 rfl) ?_
            refine lv_bipush (v := 23) hx hb dX5_pullDown_97 (by decide) ?_
            refine lv_iadd hx hb dX5_pullDown_99 ?_
            obtain ⟨g17, hf⟩ := gd_e hf
            refine iald hx hb hE.1 hW sh_194 g17 dX5_pullDown_100 ?_
            obtain ⟨g18, hf⟩ := gd_e hf
            refine iast (k := 194) (i := x3) (x := (τ 194 ((x3 + 23)).toNatClampNeg)) hx hb hE.1 hW hS sh_194 g18 dX5_pullDown_101 (fun H locs hW hS => ?_)
            obtain ⟨σ19, e20, hf⟩ := st_e hf
            rw [e20] at hW
            refine lv_iinc (v := (x3 + 1)) (lv' := [(3, .int (x3 + 1)), (0, .ref (b + 193)), (2, .int x2)]) hx hb dX5_pullDown_102 hl (k := 2) rfl (by rfl) (by decide) rfl (fun ls hl => ?_)
            refine lv_goto (tgt := 70) hx hb dX5_pullDown_105 (by decide) ?_
            exact ih_70 σ19 x2 (x3 + 1) _ _ _ hf hW hS (lv_sub hl [1, 2, 0] rfl)
      exact key_70 10000 σ14 y10 (24 + (23 * p1)) _ _ _ hf hW hS (lv_sub hl [2, 1, 0] rfl)
    · have hf := ifn h6 hf
      refine lv_iconst (v := 0) hx hb dX5_pullDown_24 (by decide) ?_
      cases hf
      exact W.iret hx hb hr (fun u hu _ => ⟨⟨rfl, by rw [hu]; exact hW⟩, hS.F hu⟩) hS.2.2 dX5_pullDown_25
  · have hf := ifn h3 hf
    refine lv_iconst (v := 0) hx hb dX5_pullDown_9 (by decide) ?_
    refine lv_goto (tgt := 14) hx hb dX5_pullDown_10 (by decide) ?_
    refine putX (k := 193) (q := (5, 0)) (ci := 5) (x := 0) inA5 tyX5_ok nmX5 rfl (by decide) rfl hx hb hta hown hE.1 hW hS sh_193 10 (by decide) q1191 rfl rfl rfl (Nat.le_of_ble_eq_true rfl) rfl dX5_pullDown_14 (fun H locs hW hS => ?_)
    obtain ⟨σ21, e22, hf⟩ := st_e hf
    rw [e22] at hW
    refine lv_aload_n hx hb dX5_pullDown_17 rfl (lv_at hl 0 rfl) ?_
    refine getM hx hb hta hown hE.1 hW 10 (by decide) q1191 rfl dX5_pullDown_18 ?_
    refine lv_if_le (tgt := 26) hx hb dX5_pullDown_21 (by decide) (fun h23 => ?_) (fun h23 => ?_)
    · have hf := ifp h23 hf
      refine lv_aload_n hx hb dX5_pullDown_26 rfl (lv_at hl 0 rfl) ?_
      refine lv_aload_n hx hb dX5_pullDown_27 rfl (lv_at hl 0 rfl) ?_
      refine getM hx hb hta hown hE.1 hW 0 (by decide) q1181 rfl dX5_pullDown_28 ?_
      obtain ⟨σ26, u25, hf⟩ := b1_e hf
      refine mV (k := 193) (q := (5, 0)) (C := RX5) (T := TX5) (N := 14) (ci := 5) (n := 1) (As := [.ref (b + 194)]) (rest := []) (c_X5_saves l D t b 194 1785 σ21 σ26 sh_194 u25) sh_193 (by decide) rfl rfl hx hb hml hown hts hE hW hS q1256 q1258 q36 q96 q1259 hy_X5_saves ⟨rfl, rfl⟩ ⟨Nat.le_of_ble_eq_true rfl, Nat.le_of_ble_eq_true rfl⟩ rfl rfl hl.1 (Nat.le_of_ble_eq_true rfl) ⟨Nat.zero_le _, Nat.zero_le _⟩ dX5_pullDown_31 (fun H locs hW hS => ?_)
      refine lv_aload_n hx hb dX5_pullDown_34 rfl (lv_at hl 0 rfl) ?_
      refine lv_iload_n hx hb dX5_pullDown_35 rfl (lv_at hl 1 rfl) ?_
      refine lv_iconst (v := 4) hx hb dX5_pullDown_36 (by decide) ?_
      obtain ⟨y27, u28, hf⟩ := b1_e hf
      refine mV (k := 193) (q := (5, 0)) (C := RX5) (T := TX5) (N := 14) (ci := 5) (n := 2) (As := [.int p1, .int 4]) (rest := []) (c_X5_its l D t b σ26 p1 4 y27 u28) sh_193 (by decide) rfl rfl hx hb hml hown hts hE hW hS q1252 q1254 q35 q96 q1255 hy_X5_its ⟨rfl, rfl⟩ ⟨Nat.le_of_ble_eq_true rfl, Nat.le_of_ble_eq_true rfl⟩ rfl rfl hl.1 (Nat.le_of_ble_eq_true rfl) ⟨Nat.zero_le _, Nat.zero_le _⟩ dX5_pullDown_37 (fun H locs hW hS => ?_)
      refine lv_istore_n (lv' := [(2, .int y27), (0, .ref (b + 193)), (1, .int p1)]) hx hb dX5_pullDown_40 rfl hl (by decide) rfl (fun ls hl => ?_)
      refine lv_aload_n hx hb dX5_pullDown_41 rfl (lv_at hl 1 rfl) ?_
      refine getM hx hb hta hown hE.1 hW 0 (by decide) q1181 rfl dX5_pullDown_42 ?_
      refine lv_iconst (v := 0) hx hb dX5_pullDown_45 (by decide) ?_
      refine lv_dup2_11 hx hb dX5_pullDown_46 rfl rfl ?_
      refine iald hx hb hE.1 hW sh_194 (vp_lit (by decide +kernel)) dX5_pullDown_47 ?_
      refine lv_iload_n hx hb dX5_pullDown_48 rfl (lv_at hl 0 rfl) ?_
      refine lv_iadd hx hb dX5_pullDown_49 ?_
      refine iast (k := 194) (i := 0) (x := ((σ26 194 (0 : Int32).toNatClampNeg) + y27)) hx hb hE.1 hW hS sh_194 (vp_lit (by decide +kernel)) dX5_pullDown_50 (fun H locs hW hS => ?_)
      obtain ⟨σ29, e30, hf⟩ := st_e hf
      rw [e30] at hW
      refine lv_aload_n hx hb dX5_pullDown_51 rfl (lv_at hl 1 rfl) ?_
      refine getM hx hb hta hown hE.1 hW 0 (by decide) q1181 rfl dX5_pullDown_52 ?_
      refine lv_bipush (v := 8) hx hb dX5_pullDown_55 (by decide) ?_
      refine lv_dup2_11 hx hb dX5_pullDown_57 rfl rfl ?_
      refine iald hx hb hE.1 hW sh_194 (vp_lit (by decide +kernel)) dX5_pullDown_58 ?_
      refine lv_iconst (v := 1) hx hb dX5_pullDown_59 (by decide) ?_
      refine lv_isub hx hb dX5_pullDown_60 ?_
      refine iast (k := 194) (i := 8) (x := ((σ29 194 (8 : Int32).toNatClampNeg) - 1)) hx hb hE.1 hW hS sh_194 (vp_lit (by decide +kernel)) dX5_pullDown_61 (fun H locs hW hS => ?_)
      obtain ⟨σ31, e32, hf⟩ := st_e hf
      rw [e32] at hW
      refine lv_bipush (v := 24) hx hb dX5_pullDown_62 (by decide) ?_
      refine lv_bipush (v := 23) hx hb dX5_pullDown_64 (by decide) ?_
      refine lv_iload_n hx hb dX5_pullDown_66 rfl (lv_at hl 2 rfl) ?_
      refine lv_imul hx hb dX5_pullDown_67 ?_
      refine lv_iadd hx hb dX5_pullDown_68 ?_
      refine lv_istore_n (lv' := [(3, .int (24 + (23 * p1))), (2, .int y27), (0, .ref (b + 193)), (1, .int p1)]) hx hb dX5_pullDown_69 rfl hl (by decide) rfl (fun ls hl => ?_)
      have key_70 : ∀ (n : Nat) (τ : Sg) (x2 : Int32) (x3 : Int32) (H : Heap) (locs : List Loc) (ls : Array Slot), l_X5_pullDown_70 n τ x2 x3 = some (r, σr) → wd D t b τ H → va_S (geA b) s.heap H locs → lv_has ls 4 [(0, .ref (b + 193)), (2, .int x2), (3, .int x3)] → W p l e (headSpec (Cond.code yX5_pullDown cX5_pullDown 4 (some .int) :: ALL) ({ frames := 2, cells := 0, slots := 0, locals := 46 })).room s m (([.ref (b + 193), .int p1] : List Value).toArray) below meth c H locs 0 0 (MQ below (QG D t b σr (some (.int r))) (([.ref (b + 193), .int p1] : List Value).toArray) s 0 0 (geA b)) (F0 m 70 ls []) := by
        intro n
        induction n with
        | zero =>
          intro τ x2 x3 H locs ls hf
          rw [l_X5_pullDown_70.eq_1] at hf
          cases hf
        | succ n ih_70 =>
          intro τ x2 x3 H locs ls hf hW hS hl
          rw [l_X5_pullDown_70.eq_2] at hf
          refine lv_iload_n hx hb dX5_pullDown_70 rfl (lv_at hl 2 rfl) ?_
          refine lv_bipush (v := 24) hx hb dX5_pullDown_71 (by decide) ?_
          refine lv_bipush (v := 23) hx hb dX5_pullDown_73 (by decide) ?_
          refine lv_aload_n hx hb dX5_pullDown_75 rfl (lv_at hl 0 rfl) ?_
          refine getM hx hb hta hown hE.1 hW 0 (by decide) q1181 rfl dX5_pullDown_76 ?_
          refine lv_bipush (v := 8) hx hb dX5_pullDown_79 (by decide) ?_
          refine iald hx hb hE.1 hW sh_194 (vp_lit (by decide +kernel)) dX5_pullDown_81 ?_
          refine lv_imul hx hb dX5_pullDown_82 ?_
          refine lv_iadd hx hb dX5_pullDown_83 ?_
          refine lv_icmp_ge (tgt := 108) hx hb dX5_pullDown_84 (by decide) (fun h33 => ?_) (fun h33 => ?_)
          · have hf := ifp h33 hf
            refine lv_iload_n hx hb dX5_pullDown_108 rfl (lv_at hl 1 rfl) ?_
            cases hf
            exact W.iret hx hb hr (fun u hu _ => ⟨⟨rfl, by rw [hu]; exact hW⟩, hS.F hu⟩) hS.2.2 dX5_pullDown_109
          · have hf := ifn h33 hf
            refine lv_aload_n hx hb dX5_pullDown_87 rfl (lv_at hl 0 rfl) ?_
            refine getM hx hb hta hown hE.1 hW 0 (by decide) q1181 rfl dX5_pullDown_88 ?_
            refine lv_iload_n hx hb dX5_pullDown_91 rfl (lv_at hl 2 rfl) ?_
            refine lv_aload_n hx hb dX5_pullDown_92 rfl (lv_at hl 0 rfl) ?_
            refine getM hx hb hta hown hE.1 hW 0 (by decide) q1181 rfl dX5_pullDown_93 ?_
            refine lv_iload_n hx hb dX5_pullDown_96 rfl (lv_at hl 2 rfl) ?_
            refine lv_bipush (v := 23) hx hb dX5_pullDown_97 (by decide) ?_
            refine lv_iadd hx hb dX5_pullDown_99 ?_
            obtain ⟨g34, hf⟩ := gd_e hf
            refine iald hx hb hE.1 hW sh_194 g34 dX5_pullDown_100 ?_
            obtain ⟨g35, hf⟩ := gd_e hf
            refine iast (k := 194) (i := x3) (x := (τ 194 ((x3 + 23)).toNatClampNeg)) hx hb hE.1 hW hS sh_194 g35 dX5_pullDown_101 (fun H locs hW hS => ?_)
            obtain ⟨σ36, e37, hf⟩ := st_e hf
            rw [e37] at hW
            refine lv_iinc (v := (x3 + 1)) (lv' := [(3, .int (x3 + 1)), (0, .ref (b + 193)), (2, .int x2)]) hx hb dX5_pullDown_102 hl (k := 2) rfl (by rfl) (by decide) rfl (fun ls hl => ?_)
            refine lv_goto (tgt := 70) hx hb dX5_pullDown_105 (by decide) ?_
            exact ih_70 σ36 x2 (x3 + 1) _ _ _ hf hW hS (lv_sub hl [1, 2, 0] rfl)
      exact key_70 10000 σ31 y27 (24 + (23 * p1)) _ _ _ hf hW hS (lv_sub hl [2, 1, 0] rfl)
    · have hf := ifn h23 hf
      refine lv_iconst (v := 0) hx hb dX5_pullDown_24 (by decide) ?_
      cases hf
      exact W.iret hx hb hr (fun u hu _ => ⟨⟨rfl, by rw [hu]; exact hW⟩, hS.F hu⟩) hS.2.2 dX5_pullDown_25
def f_X5_setPrice (σ : Sg) (p1 : Int32) (p2 : Int32) : Option (Int32 × Sg) := b1 (f_X5_isStall σ p1) fun y1 => if y1 = 0 then (st (u2 σ 193 10 1) fun σ4 => if (σ4 193 10) ≤ 0 then (b1 (f_X5_saves 194 1785 σ4) fun σ9 => b1 (f_X5_its σ9 p1 2) fun y10 => b1 (f_X5_sets σ9 p1 2 p2) fun σ14 => some (y10, σ14)) else (some (0, σ4))) else (b1 (f_X5_isPrice σ p2) fun y15 => if y15 = 0 then (st (u2 σ 193 10 2) fun σ18 => if (σ18 193 10) ≤ 0 then (b1 (f_X5_saves 194 1785 σ18) fun σ23 => b1 (f_X5_its σ23 p1 2) fun y24 => b1 (f_X5_sets σ23 p1 2 p2) fun σ28 => some (y24, σ28)) else (some (0, σ18))) else (st (u2 σ 193 10 0) fun σ29 => if (σ29 193 10) ≤ 0 then (b1 (f_X5_saves 194 1785 σ29) fun σ34 => b1 (f_X5_its σ34 p1 2) fun y35 => b1 (f_X5_sets σ34 p1 2 p2) fun σ39 => some (y35, σ39)) else (some (0, σ29))))
set_option maxHeartbeats 4000000 in
set_option maxRecDepth 100000 in
theorem c_X5_setPrice (l : Launch) (D : va_G) (t : Nat → ClassId) (b : Nat) (σ : Sg) (p1 : Int32) (p2 : Int32) (r : Int32) (σr : Sg) (hf : f_X5_setPrice σ p1 p2 = some (r, σr)) : Met l yX5_setPrice (Cond.code yX5_setPrice cX5_setPrice 4 (some .int) :: ALL) ({ frames := 2, cells := 0, slots := 0, locals := 46 }) (PM D t b σ [.ref (b + 193), .int p1, .int p2]) (QG D t b σr (some (.int r))) 0 0 (geA b) := by
  refine Met.ofW (cc := cX5_setPrice) (maxL := 4) (ret := (some .int)) (by decide) rfl ?_
  intro p e s m args below meth c s₁ B hml hv
  obtain ⟨rfl, hW, hE⟩ := hv
  have hx := B.exec
  have hb := B.bytes
  have hr := B.returns
  have hts := atoms_spec (ws := Cond.code yX5_setPrice cX5_setPrice 4 (some .int) :: ALL) B.pre
  have hta := fun w h => hts w (List.mem_cons_of_mem _ h)
  have hown : s.vm.findClass RX5 = some m.cls := findClass_of_methodNamed B.named
  have hlocks := B.notSynchronized
  have hS : va_S (geA b) s.heap s.heap [] := va_S.rf
  have hl := lv_entry ([.ref (b + 193), .int p1, .int p2]) (n := 4) (Nat.le_of_ble_eq_true rfl)
  rw [lg_entry_eq]
  generalize (lg_sl ([.ref (b + 193), .int p1, .int p2]) ++ List.replicate (4 - (lg_sl ([.ref (b + 193), .int p1, .int p2])).length) Slot.unset).toArray = ls at hl ⊢
  have hl : lv_has ls 4 [(0, .ref (b + 193)), (1, .int p1), (2, .int p2)] := hl
  unfold f_X5_setPrice at hf
  refine lv_aload_n hx hb dX5_setPrice_0 rfl (lv_at hl 0 rfl) ?_
  refine lv_aload_n hx hb dX5_setPrice_1 rfl (lv_at hl 0 rfl) ?_
  refine lv_iload_n hx hb dX5_setPrice_2 rfl (lv_at hl 1 rfl) ?_
  obtain ⟨y1, u2, hf⟩ := b1_e hf
  refine mV (k := 193) (q := (5, 0)) (C := RX5) (T := TX5) (N := 14) (ci := 5) (n := 1) (As := [.int p1]) (rest := [.ref (b + 193)]) (c_X5_isStall l D t b σ p1 y1 u2) sh_193 (by decide) rfl rfl hx hb hml hown hts hE hW hS q1279 q1281 q40 q96 q1282 hy_X5_isStall ⟨rfl, rfl⟩ ⟨Nat.le_of_ble_eq_true rfl, Nat.le_of_ble_eq_true rfl⟩ rfl rfl hl.1 (Nat.le_of_ble_eq_true rfl) ⟨Nat.zero_le _, Nat.zero_le _⟩ dX5_setPrice_3 (fun H locs hW hS => ?_)
  refine lv_if_ne (tgt := 13) hx hb dX5_setPrice_6 (by decide) (fun h3 => ?_) (fun h3 => ?_)
  · have hf := ifn h3 hf
    refine lv_iload_n hx hb dX5_setPrice_13 rfl (lv_at hl 2 rfl) ?_
    obtain ⟨y15, u16, hf⟩ := b1_e hf
    refine mS (n := 1) (As := [.int p2]) (rest := [.ref (b + 193)]) (c_X5_isPrice l D t b σ p2 y15 u16) hx hb hml hown hts hE hW hS q1245 q1246 q96 q1247 hs_X5_isPrice ⟨rfl, rfl⟩ ⟨Nat.le_of_ble_eq_true rfl, Nat.le_of_ble_eq_true rfl⟩ rfl rfl hl.1 (Nat.le_of_ble_eq_true rfl) ⟨Nat.zero_le _, Nat.zero_le _⟩ dX5_setPrice_14 (fun H locs hW hS => ?_)
    refine lv_if_eq (tgt := 24) hx hb dX5_setPrice_17 (by decide) (fun h17 => ?_) (fun h17 => ?_)
    · have hf := ifp h17 hf
      refine lv_iconst (v := 2) hx hb dX5_setPrice_24 (by decide) ?_
      refine putX (k := 193) (q := (5, 0)) (ci := 5) (x := 2) inA5 tyX5_ok nmX5 rfl (by decide) rfl hx hb hta hown hE.1 hW hS sh_193 10 (by decide) q1191 rfl rfl rfl (Nat.le_of_ble_eq_true rfl) rfl dX5_setPrice_25 (fun H locs hW hS => ?_)
      obtain ⟨σ18, e19, hf⟩ := st_e hf
      rw [e19] at hW
      refine lv_aload_n hx hb dX5_setPrice_28 rfl (lv_at hl 0 rfl) ?_
      refine getM hx hb hta hown hE.1 hW 10 (by decide) q1191 rfl dX5_setPrice_29 ?_
      refine lv_if_le (tgt := 37) hx hb dX5_setPrice_32 (by decide) (fun h20 => ?_) (fun h20 => ?_)
      · have hf := ifp h20 hf
        refine lv_aload_n hx hb dX5_setPrice_37 rfl (lv_at hl 0 rfl) ?_
        refine lv_aload_n hx hb dX5_setPrice_38 rfl (lv_at hl 0 rfl) ?_
        refine getM hx hb hta hown hE.1 hW 0 (by decide) q1181 rfl dX5_setPrice_39 ?_
        obtain ⟨σ23, u22, hf⟩ := b1_e hf
        refine mV (k := 193) (q := (5, 0)) (C := RX5) (T := TX5) (N := 14) (ci := 5) (n := 1) (As := [.ref (b + 194)]) (rest := []) (c_X5_saves l D t b 194 1785 σ18 σ23 sh_194 u22) sh_193 (by decide) rfl rfl hx hb hml hown hts hE hW hS q1256 q1258 q36 q96 q1259 hy_X5_saves ⟨rfl, rfl⟩ ⟨Nat.le_of_ble_eq_true rfl, Nat.le_of_ble_eq_true rfl⟩ rfl rfl hl.1 (Nat.le_of_ble_eq_true rfl) ⟨Nat.zero_le _, Nat.zero_le _⟩ dX5_setPrice_42 (fun H locs hW hS => ?_)
        refine lv_aload_n hx hb dX5_setPrice_45 rfl (lv_at hl 0 rfl) ?_
        refine lv_iload_n hx hb dX5_setPrice_46 rfl (lv_at hl 1 rfl) ?_
        refine lv_iconst (v := 2) hx hb dX5_setPrice_47 (by decide) ?_
        obtain ⟨y24, u25, hf⟩ := b1_e hf
        refine mV (k := 193) (q := (5, 0)) (C := RX5) (T := TX5) (N := 14) (ci := 5) (n := 2) (As := [.int p1, .int 2]) (rest := []) (c_X5_its l D t b σ23 p1 2 y24 u25) sh_193 (by decide) rfl rfl hx hb hml hown hts hE hW hS q1252 q1254 q35 q96 q1255 hy_X5_its ⟨rfl, rfl⟩ ⟨Nat.le_of_ble_eq_true rfl, Nat.le_of_ble_eq_true rfl⟩ rfl rfl hl.1 (Nat.le_of_ble_eq_true rfl) ⟨Nat.zero_le _, Nat.zero_le _⟩ dX5_setPrice_48 (fun H locs hW hS => ?_)
        refine lv_istore_n (lv' := [(3, .int y24), (0, .ref (b + 193)), (1, .int p1), (2, .int p2)]) hx hb dX5_setPrice_51 rfl hl (by decide) rfl (fun ls hl => ?_)
        refine lv_aload_n hx hb dX5_setPrice_52 rfl (lv_at hl 1 rfl) ?_
        refine lv_iload_n hx hb dX5_setPrice_53 rfl (lv_at hl 2 rfl) ?_
        refine lv_iconst (v := 2) hx hb dX5_setPrice_54 (by decide) ?_
        refine lv_iload_n hx hb dX5_setPrice_55 rfl (lv_at hl 3 rfl) ?_
        obtain ⟨σ28, u27, hf⟩ := b1_e hf
        refine mV (k := 193) (q := (5, 0)) (C := RX5) (T := TX5) (N := 14) (ci := 5) (n := 3) (As := [.int p1, .int 2, .int p2]) (rest := []) (c_X5_sets l D t b σ23 p1 2 p2 σ28 u27) sh_193 (by decide) rfl rfl hx hb hml hown hts hE hW hS q1271 q1273 q39 q96 q1274 hy_X5_sets ⟨rfl, rfl⟩ ⟨Nat.le_of_ble_eq_true rfl, Nat.le_of_ble_eq_true rfl⟩ rfl rfl hl.1 (Nat.le_of_ble_eq_true rfl) ⟨Nat.zero_le _, Nat.zero_le _⟩ dX5_setPrice_56 (fun H locs hW hS => ?_)
        refine lv_iload_n hx hb dX5_setPrice_59 rfl (lv_at hl 0 rfl) ?_
        cases hf
        exact W.iret hx hb hr (fun u hu _ => ⟨⟨rfl, by rw [hu]; exact hW⟩, hS.F hu⟩) hS.2.2 dX5_setPrice_60
      · have hf := ifn h20 hf
        refine lv_iconst (v := 0) hx hb dX5_setPrice_35 (by decide) ?_
        cases hf
        exact W.iret hx hb hr (fun u hu _ => ⟨⟨rfl, by rw [hu]; exact hW⟩, hS.F hu⟩) hS.2.2 dX5_setPrice_36
    · have hf := ifn h17 hf
      refine lv_iconst (v := 0) hx hb dX5_setPrice_20 (by decide) ?_
      refine lv_goto (tgt := 25) hx hb dX5_setPrice_21 (by decide) ?_
      refine putX (k := 193) (q := (5, 0)) (ci := 5) (x := 0) inA5 tyX5_ok nmX5 rfl (by decide) rfl hx hb hta hown hE.1 hW hS sh_193 10 (by decide) q1191 rfl rfl rfl (Nat.le_of_ble_eq_true rfl) rfl dX5_setPrice_25 (fun H locs hW hS => ?_)
      obtain ⟨σ29, e30, hf⟩ := st_e hf
      rw [e30] at hW
      refine lv_aload_n hx hb dX5_setPrice_28 rfl (lv_at hl 0 rfl) ?_
      refine getM hx hb hta hown hE.1 hW 10 (by decide) q1191 rfl dX5_setPrice_29 ?_
      refine lv_if_le (tgt := 37) hx hb dX5_setPrice_32 (by decide) (fun h31 => ?_) (fun h31 => ?_)
      · have hf := ifp h31 hf
        refine lv_aload_n hx hb dX5_setPrice_37 rfl (lv_at hl 0 rfl) ?_
        refine lv_aload_n hx hb dX5_setPrice_38 rfl (lv_at hl 0 rfl) ?_
        refine getM hx hb hta hown hE.1 hW 0 (by decide) q1181 rfl dX5_setPrice_39 ?_
        obtain ⟨σ34, u33, hf⟩ := b1_e hf
        refine mV (k := 193) (q := (5, 0)) (C := RX5) (T := TX5) (N := 14) (ci := 5) (n := 1) (As := [.ref (b + 194)]) (rest := []) (c_X5_saves l D t b 194 1785 σ29 σ34 sh_194 u33) sh_193 (by decide) rfl rfl hx hb hml hown hts hE hW hS q1256 q1258 q36 q96 q1259 hy_X5_saves ⟨rfl, rfl⟩ ⟨Nat.le_of_ble_eq_true rfl, Nat.le_of_ble_eq_true rfl⟩ rfl rfl hl.1 (Nat.le_of_ble_eq_true rfl) ⟨Nat.zero_le _, Nat.zero_le _⟩ dX5_setPrice_42 (fun H locs hW hS => ?_)
        refine lv_aload_n hx hb dX5_setPrice_45 rfl (lv_at hl 0 rfl) ?_
        refine lv_iload_n hx hb dX5_setPrice_46 rfl (lv_at hl 1 rfl) ?_
        refine lv_iconst (v := 2) hx hb dX5_setPrice_47 (by decide) ?_
        obtain ⟨y35, u36, hf⟩ := b1_e hf
        refine mV (k := 193) (q := (5, 0)) (C := RX5) (T := TX5) (N := 14) (ci := 5) (n := 2) (As := [.int p1, .int 2]) (rest := []) (c_X5_its l D t b σ34 p1 2 y35 u36) sh_193 (by decide) rfl rfl hx hb hml hown hts hE hW hS q1252 q1254 q35 q96 q1255 hy_X5_its ⟨rfl, rfl⟩ ⟨Nat.le_of_ble_eq_true rfl, Nat.le_of_ble_eq_true rfl⟩ rfl rfl hl.1 (Nat.le_of_ble_eq_true rfl) ⟨Nat.zero_le _, Nat.zero_le _⟩ dX5_setPrice_48 (fun H locs hW hS => ?_)
        refine lv_istore_n (lv' := [(3, .int y35), (0, .ref (b + 193)), (1, .int p1), (2, .int p2)]) hx hb dX5_setPrice_51 rfl hl (by decide) rfl (fun ls hl => ?_)
        refine lv_aload_n hx hb dX5_setPrice_52 rfl (lv_at hl 1 rfl) ?_
        refine lv_iload_n hx hb dX5_setPrice_53 rfl (lv_at hl 2 rfl) ?_
        refine lv_iconst (v := 2) hx hb dX5_setPrice_54 (by decide) ?_
        refine lv_iload_n hx hb dX5_setPrice_55 rfl (lv_at hl 3 rfl) ?_
        obtain ⟨σ39, u38, hf⟩ := b1_e hf
        refine mV (k := 193) (q := (5, 0)) (C := RX5) (T := TX5) (N := 14) (ci := 5) (n := 3) (As := [.int p1, .int 2, .int p2]) (rest := []) (c_X5_sets l D t b σ34 p1 2 p2 σ39 u38) sh_193 (by decide) rfl rfl hx hb hml hown hts hE hW hS q1271 q1273 q39 q96 q1274 hy_X5_sets ⟨rfl, rfl⟩ ⟨Nat.le_of_ble_eq_true rfl, Nat.le_of_ble_eq_true rfl⟩ rfl rfl hl.1 (Nat.le_of_ble_eq_true rfl) ⟨Nat.zero_le _, Nat.zero_le _⟩ dX5_setPrice_56 (fun H locs hW hS => ?_)
        refine lv_iload_n hx hb dX5_setPrice_59 rfl (lv_at hl 0 rfl) ?_
        cases hf
        exact W.iret hx hb hr (fun u hu _ => ⟨⟨rfl, by rw [hu]; exact hW⟩, hS.F hu⟩) hS.2.2 dX5_setPrice_60
      · have hf := ifn h31 hf
        refine lv_iconst (v := 0) hx hb dX5_setPrice_35 (by decide) ?_
        cases hf
        exact W.iret hx hb hr (fun u hu _ => ⟨⟨rfl, by rw [hu]; exact hW⟩, hS.F hu⟩) hS.2.2 dX5_setPrice_36
  · have hf := ifp h3 hf
    refine lv_iconst (v := 1) hx hb dX5_setPrice_9 (by decide) ?_
    refine lv_goto (tgt := 25) hx hb dX5_setPrice_10 (by decide) ?_
    refine putX (k := 193) (q := (5, 0)) (ci := 5) (x := 1) inA5 tyX5_ok nmX5 rfl (by decide) rfl hx hb hta hown hE.1 hW hS sh_193 10 (by decide) q1191 rfl rfl rfl (Nat.le_of_ble_eq_true rfl) rfl dX5_setPrice_25 (fun H locs hW hS => ?_)
    obtain ⟨σ4, e5, hf⟩ := st_e hf
    rw [e5] at hW
    refine lv_aload_n hx hb dX5_setPrice_28 rfl (lv_at hl 0 rfl) ?_
    refine getM hx hb hta hown hE.1 hW 10 (by decide) q1191 rfl dX5_setPrice_29 ?_
    refine lv_if_le (tgt := 37) hx hb dX5_setPrice_32 (by decide) (fun h6 => ?_) (fun h6 => ?_)
    · have hf := ifp h6 hf
      refine lv_aload_n hx hb dX5_setPrice_37 rfl (lv_at hl 0 rfl) ?_
      refine lv_aload_n hx hb dX5_setPrice_38 rfl (lv_at hl 0 rfl) ?_
      refine getM hx hb hta hown hE.1 hW 0 (by decide) q1181 rfl dX5_setPrice_39 ?_
      obtain ⟨σ9, u8, hf⟩ := b1_e hf
      refine mV (k := 193) (q := (5, 0)) (C := RX5) (T := TX5) (N := 14) (ci := 5) (n := 1) (As := [.ref (b + 194)]) (rest := []) (c_X5_saves l D t b 194 1785 σ4 σ9 sh_194 u8) sh_193 (by decide) rfl rfl hx hb hml hown hts hE hW hS q1256 q1258 q36 q96 q1259 hy_X5_saves ⟨rfl, rfl⟩ ⟨Nat.le_of_ble_eq_true rfl, Nat.le_of_ble_eq_true rfl⟩ rfl rfl hl.1 (Nat.le_of_ble_eq_true rfl) ⟨Nat.zero_le _, Nat.zero_le _⟩ dX5_setPrice_42 (fun H locs hW hS => ?_)
      refine lv_aload_n hx hb dX5_setPrice_45 rfl (lv_at hl 0 rfl) ?_
      refine lv_iload_n hx hb dX5_setPrice_46 rfl (lv_at hl 1 rfl) ?_
      refine lv_iconst (v := 2) hx hb dX5_setPrice_47 (by decide) ?_
      obtain ⟨y10, u11, hf⟩ := b1_e hf
      refine mV (k := 193) (q := (5, 0)) (C := RX5) (T := TX5) (N := 14) (ci := 5) (n := 2) (As := [.int p1, .int 2]) (rest := []) (c_X5_its l D t b σ9 p1 2 y10 u11) sh_193 (by decide) rfl rfl hx hb hml hown hts hE hW hS q1252 q1254 q35 q96 q1255 hy_X5_its ⟨rfl, rfl⟩ ⟨Nat.le_of_ble_eq_true rfl, Nat.le_of_ble_eq_true rfl⟩ rfl rfl hl.1 (Nat.le_of_ble_eq_true rfl) ⟨Nat.zero_le _, Nat.zero_le _⟩ dX5_setPrice_48 (fun H locs hW hS => ?_)
      refine lv_istore_n (lv' := [(3, .int y10), (0, .ref (b + 193)), (1, .int p1), (2, .int p2)]) hx hb dX5_setPrice_51 rfl hl (by decide) rfl (fun ls hl => ?_)
      refine lv_aload_n hx hb dX5_setPrice_52 rfl (lv_at hl 1 rfl) ?_
      refine lv_iload_n hx hb dX5_setPrice_53 rfl (lv_at hl 2 rfl) ?_
      refine lv_iconst (v := 2) hx hb dX5_setPrice_54 (by decide) ?_
      refine lv_iload_n hx hb dX5_setPrice_55 rfl (lv_at hl 3 rfl) ?_
      obtain ⟨σ14, u13, hf⟩ := b1_e hf
      refine mV (k := 193) (q := (5, 0)) (C := RX5) (T := TX5) (N := 14) (ci := 5) (n := 3) (As := [.int p1, .int 2, .int p2]) (rest := []) (c_X5_sets l D t b σ9 p1 2 p2 σ14 u13) sh_193 (by decide) rfl rfl hx hb hml hown hts hE hW hS q1271 q1273 q39 q96 q1274 hy_X5_sets ⟨rfl, rfl⟩ ⟨Nat.le_of_ble_eq_true rfl, Nat.le_of_ble_eq_true rfl⟩ rfl rfl hl.1 (Nat.le_of_ble_eq_true rfl) ⟨Nat.zero_le _, Nat.zero_le _⟩ dX5_setPrice_56 (fun H locs hW hS => ?_)
      refine lv_iload_n hx hb dX5_setPrice_59 rfl (lv_at hl 0 rfl) ?_
      cases hf
      exact W.iret hx hb hr (fun u hu _ => ⟨⟨rfl, by rw [hu]; exact hW⟩, hS.F hu⟩) hS.2.2 dX5_setPrice_60
    · have hf := ifn h6 hf
      refine lv_iconst (v := 0) hx hb dX5_setPrice_35 (by decide) ?_
      cases hf
      exact W.iret hx hb hr (fun u hu _ => ⟨⟨rfl, by rw [hu]; exact hW⟩, hS.F hu⟩) hS.2.2 dX5_setPrice_36
def f_X5_turnStall (σ : Sg) (p1 : Int32) : Option (Int32 × Sg) := b1 (f_X5_isStall σ p1) fun y1 => if y1 = 0 then (st (u2 σ 193 10 1) fun σ4 => if (σ4 193 10) ≤ 0 then (b1 (f_X5_saves 194 1785 σ4) fun σ9 => b1 (f_X5_its σ9 p1 6) fun y10 => b1 (f_X5_sets σ9 p1 6 (1 - y10)) fun σ14 => b1 (f_X5_its σ14 p1 6) fun y15 => if y15 = 1 then (some (1, σ14)) else (some (0, σ14))) else (some (0, σ4))) else (st (u2 σ 193 10 0) fun σ18 => if (σ18 193 10) ≤ 0 then (b1 (f_X5_saves 194 1785 σ18) fun σ23 => b1 (f_X5_its σ23 p1 6) fun y24 => b1 (f_X5_sets σ23 p1 6 (1 - y24)) fun σ28 => b1 (f_X5_its σ28 p1 6) fun y29 => if y29 = 1 then (some (1, σ28)) else (some (0, σ28))) else (some (0, σ18)))
set_option maxHeartbeats 4000000 in
set_option maxRecDepth 100000 in
theorem c_X5_turnStall (l : Launch) (D : va_G) (t : Nat → ClassId) (b : Nat) (σ : Sg) (p1 : Int32) (r : Int32) (σr : Sg) (hf : f_X5_turnStall σ p1 = some (r, σr)) : Met l yX5_turnStall (Cond.code yX5_turnStall cX5_turnStall 2 (some .boolean) :: ALL) ({ frames := 2, cells := 0, slots := 0, locals := 46 }) (PM D t b σ [.ref (b + 193), .int p1]) (QG D t b σr (some (.int r))) 0 0 (geA b) := by
  refine Met.ofW (cc := cX5_turnStall) (maxL := 2) (ret := (some .boolean)) (by decide) rfl ?_
  intro p e s m args below meth c s₁ B hml hv
  obtain ⟨rfl, hW, hE⟩ := hv
  have hx := B.exec
  have hb := B.bytes
  have hr := B.returns
  have hts := atoms_spec (ws := Cond.code yX5_turnStall cX5_turnStall 2 (some .boolean) :: ALL) B.pre
  have hta := fun w h => hts w (List.mem_cons_of_mem _ h)
  have hown : s.vm.findClass RX5 = some m.cls := findClass_of_methodNamed B.named
  have hlocks := B.notSynchronized
  have hS : va_S (geA b) s.heap s.heap [] := va_S.rf
  have hl := lv_entry ([.ref (b + 193), .int p1]) (n := 2) (Nat.le_of_ble_eq_true rfl)
  rw [lg_entry_eq]
  generalize (lg_sl ([.ref (b + 193), .int p1]) ++ List.replicate (2 - (lg_sl ([.ref (b + 193), .int p1])).length) Slot.unset).toArray = ls at hl ⊢
  have hl : lv_has ls 2 [(0, .ref (b + 193)), (1, .int p1)] := hl
  unfold f_X5_turnStall at hf
  refine lv_aload_n hx hb dX5_turnStall_0 rfl (lv_at hl 0 rfl) ?_
  refine lv_aload_n hx hb dX5_turnStall_1 rfl (lv_at hl 0 rfl) ?_
  refine lv_iload_n hx hb dX5_turnStall_2 rfl (lv_at hl 1 rfl) ?_
  obtain ⟨y1, u2, hf⟩ := b1_e hf
  refine mV (k := 193) (q := (5, 0)) (C := RX5) (T := TX5) (N := 14) (ci := 5) (n := 1) (As := [.int p1]) (rest := [.ref (b + 193)]) (c_X5_isStall l D t b σ p1 y1 u2) sh_193 (by decide) rfl rfl hx hb hml hown hts hE hW hS q1279 q1281 q40 q96 q1282 hy_X5_isStall ⟨rfl, rfl⟩ ⟨Nat.le_of_ble_eq_true rfl, Nat.le_of_ble_eq_true rfl⟩ rfl rfl hl.1 (Nat.le_of_ble_eq_true rfl) ⟨Nat.zero_le _, Nat.zero_le _⟩ dX5_turnStall_3 (fun H locs hW hS => ?_)
  refine lv_if_eq (tgt := 13) hx hb dX5_turnStall_6 (by decide) (fun h3 => ?_) (fun h3 => ?_)
  · have hf := ifp h3 hf
    refine lv_iconst (v := 1) hx hb dX5_turnStall_13 (by decide) ?_
    refine putX (k := 193) (q := (5, 0)) (ci := 5) (x := 1) inA5 tyX5_ok nmX5 rfl (by decide) rfl hx hb hta hown hE.1 hW hS sh_193 10 (by decide) q1191 rfl rfl rfl (Nat.le_of_ble_eq_true rfl) rfl dX5_turnStall_14 (fun H locs hW hS => ?_)
    obtain ⟨σ4, e5, hf⟩ := st_e hf
    rw [e5] at hW
    refine lv_aload_n hx hb dX5_turnStall_17 rfl (lv_at hl 0 rfl) ?_
    refine getM hx hb hta hown hE.1 hW 10 (by decide) q1191 rfl dX5_turnStall_18 ?_
    refine lv_if_le (tgt := 26) hx hb dX5_turnStall_21 (by decide) (fun h6 => ?_) (fun h6 => ?_)
    · have hf := ifp h6 hf
      refine lv_aload_n hx hb dX5_turnStall_26 rfl (lv_at hl 0 rfl) ?_
      refine lv_aload_n hx hb dX5_turnStall_27 rfl (lv_at hl 0 rfl) ?_
      refine getM hx hb hta hown hE.1 hW 0 (by decide) q1181 rfl dX5_turnStall_28 ?_
      obtain ⟨σ9, u8, hf⟩ := b1_e hf
      refine mV (k := 193) (q := (5, 0)) (C := RX5) (T := TX5) (N := 14) (ci := 5) (n := 1) (As := [.ref (b + 194)]) (rest := []) (c_X5_saves l D t b 194 1785 σ4 σ9 sh_194 u8) sh_193 (by decide) rfl rfl hx hb hml hown hts hE hW hS q1256 q1258 q36 q96 q1259 hy_X5_saves ⟨rfl, rfl⟩ ⟨Nat.le_of_ble_eq_true rfl, Nat.le_of_ble_eq_true rfl⟩ rfl rfl hl.1 (Nat.le_of_ble_eq_true rfl) ⟨Nat.zero_le _, Nat.zero_le _⟩ dX5_turnStall_31 (fun H locs hW hS => ?_)
      refine lv_aload_n hx hb dX5_turnStall_34 rfl (lv_at hl 0 rfl) ?_
      refine lv_iload_n hx hb dX5_turnStall_35 rfl (lv_at hl 1 rfl) ?_
      refine lv_bipush (v := 6) hx hb dX5_turnStall_36 (by decide) ?_
      refine lv_iconst (v := 1) hx hb dX5_turnStall_38 (by decide) ?_
      refine lv_aload_n hx hb dX5_turnStall_39 rfl (lv_at hl 0 rfl) ?_
      refine lv_iload_n hx hb dX5_turnStall_40 rfl (lv_at hl 1 rfl) ?_
      refine lv_bipush (v := 6) hx hb dX5_turnStall_41 (by decide) ?_
      obtain ⟨y10, u11, hf⟩ := b1_e hf
      refine mV (k := 193) (q := (5, 0)) (C := RX5) (T := TX5) (N := 14) (ci := 5) (n := 2) (As := [.int p1, .int 6]) (rest := [.int 1, .int 6, .int p1, .ref (b + 193)]) (c_X5_its l D t b σ9 p1 6 y10 u11) sh_193 (by decide) rfl rfl hx hb hml hown hts hE hW hS q1252 q1254 q35 q96 q1255 hy_X5_its ⟨rfl, rfl⟩ ⟨Nat.le_of_ble_eq_true rfl, Nat.le_of_ble_eq_true rfl⟩ rfl rfl hl.1 (Nat.le_of_ble_eq_true rfl) ⟨Nat.zero_le _, Nat.zero_le _⟩ dX5_turnStall_43 (fun H locs hW hS => ?_)
      refine lv_isub hx hb dX5_turnStall_46 ?_
      obtain ⟨σ14, u13, hf⟩ := b1_e hf
      refine mV (k := 193) (q := (5, 0)) (C := RX5) (T := TX5) (N := 14) (ci := 5) (n := 3) (As := [.int p1, .int 6, .int (1 - y10)]) (rest := []) (c_X5_sets l D t b σ9 p1 6 (1 - y10) σ14 u13) sh_193 (by decide) rfl rfl hx hb hml hown hts hE hW hS q1271 q1273 q39 q96 q1274 hy_X5_sets ⟨rfl, rfl⟩ ⟨Nat.le_of_ble_eq_true rfl, Nat.le_of_ble_eq_true rfl⟩ rfl rfl hl.1 (Nat.le_of_ble_eq_true rfl) ⟨Nat.zero_le _, Nat.zero_le _⟩ dX5_turnStall_47 (fun H locs hW hS => ?_)
      refine lv_aload_n hx hb dX5_turnStall_50 rfl (lv_at hl 0 rfl) ?_
      refine lv_iload_n hx hb dX5_turnStall_51 rfl (lv_at hl 1 rfl) ?_
      refine lv_bipush (v := 6) hx hb dX5_turnStall_52 (by decide) ?_
      obtain ⟨y15, u16, hf⟩ := b1_e hf
      refine mV (k := 193) (q := (5, 0)) (C := RX5) (T := TX5) (N := 14) (ci := 5) (n := 2) (As := [.int p1, .int 6]) (rest := []) (c_X5_its l D t b σ14 p1 6 y15 u16) sh_193 (by decide) rfl rfl hx hb hml hown hts hE hW hS q1252 q1254 q35 q96 q1255 hy_X5_its ⟨rfl, rfl⟩ ⟨Nat.le_of_ble_eq_true rfl, Nat.le_of_ble_eq_true rfl⟩ rfl rfl hl.1 (Nat.le_of_ble_eq_true rfl) ⟨Nat.zero_le _, Nat.zero_le _⟩ dX5_turnStall_54 (fun H locs hW hS => ?_)
      refine lv_iconst (v := 1) hx hb dX5_turnStall_57 (by decide) ?_
      refine lv_icmp_ne (tgt := 65) hx hb dX5_turnStall_58 (by decide) (fun h17 => ?_) (fun h17 => ?_)
      · have hf := ifn h17 hf
        refine lv_iconst (v := 0) hx hb dX5_turnStall_65 (by decide) ?_
        cases hf
        exact W.zret (ty := .boolean) hx hb hr (by decide) (fun u hu _ => ⟨⟨rfl, by rw [hu]; exact hW⟩, hS.F hu⟩) hS.2.2 dX5_turnStall_66
      · have hf := ifp h17 hf
        refine lv_iconst (v := 1) hx hb dX5_turnStall_61 (by decide) ?_
        refine lv_goto (tgt := 66) hx hb dX5_turnStall_62 (by decide) ?_
        cases hf
        exact W.zret (ty := .boolean) hx hb hr (by decide) (fun u hu _ => ⟨⟨rfl, by rw [hu]; exact hW⟩, hS.F hu⟩) hS.2.2 dX5_turnStall_66
    · have hf := ifn h6 hf
      refine lv_iconst (v := 0) hx hb dX5_turnStall_24 (by decide) ?_
      cases hf
      exact W.zret (ty := .boolean) hx hb hr (by decide) (fun u hu _ => ⟨⟨rfl, by rw [hu]; exact hW⟩, hS.F hu⟩) hS.2.2 dX5_turnStall_25
  · have hf := ifn h3 hf
    refine lv_iconst (v := 0) hx hb dX5_turnStall_9 (by decide) ?_
    refine lv_goto (tgt := 14) hx hb dX5_turnStall_10 (by decide) ?_
    refine putX (k := 193) (q := (5, 0)) (ci := 5) (x := 0) inA5 tyX5_ok nmX5 rfl (by decide) rfl hx hb hta hown hE.1 hW hS sh_193 10 (by decide) q1191 rfl rfl rfl (Nat.le_of_ble_eq_true rfl) rfl dX5_turnStall_14 (fun H locs hW hS => ?_)
    obtain ⟨σ18, e19, hf⟩ := st_e hf
    rw [e19] at hW
    refine lv_aload_n hx hb dX5_turnStall_17 rfl (lv_at hl 0 rfl) ?_
    refine getM hx hb hta hown hE.1 hW 10 (by decide) q1191 rfl dX5_turnStall_18 ?_
    refine lv_if_le (tgt := 26) hx hb dX5_turnStall_21 (by decide) (fun h20 => ?_) (fun h20 => ?_)
    · have hf := ifp h20 hf
      refine lv_aload_n hx hb dX5_turnStall_26 rfl (lv_at hl 0 rfl) ?_
      refine lv_aload_n hx hb dX5_turnStall_27 rfl (lv_at hl 0 rfl) ?_
      refine getM hx hb hta hown hE.1 hW 0 (by decide) q1181 rfl dX5_turnStall_28 ?_
      obtain ⟨σ23, u22, hf⟩ := b1_e hf
      refine mV (k := 193) (q := (5, 0)) (C := RX5) (T := TX5) (N := 14) (ci := 5) (n := 1) (As := [.ref (b + 194)]) (rest := []) (c_X5_saves l D t b 194 1785 σ18 σ23 sh_194 u22) sh_193 (by decide) rfl rfl hx hb hml hown hts hE hW hS q1256 q1258 q36 q96 q1259 hy_X5_saves ⟨rfl, rfl⟩ ⟨Nat.le_of_ble_eq_true rfl, Nat.le_of_ble_eq_true rfl⟩ rfl rfl hl.1 (Nat.le_of_ble_eq_true rfl) ⟨Nat.zero_le _, Nat.zero_le _⟩ dX5_turnStall_31 (fun H locs hW hS => ?_)
      refine lv_aload_n hx hb dX5_turnStall_34 rfl (lv_at hl 0 rfl) ?_
      refine lv_iload_n hx hb dX5_turnStall_35 rfl (lv_at hl 1 rfl) ?_
      refine lv_bipush (v := 6) hx hb dX5_turnStall_36 (by decide) ?_
      refine lv_iconst (v := 1) hx hb dX5_turnStall_38 (by decide) ?_
      refine lv_aload_n hx hb dX5_turnStall_39 rfl (lv_at hl 0 rfl) ?_
      refine lv_iload_n hx hb dX5_turnStall_40 rfl (lv_at hl 1 rfl) ?_
      refine lv_bipush (v := 6) hx hb dX5_turnStall_41 (by decide) ?_
      obtain ⟨y24, u25, hf⟩ := b1_e hf
      refine mV (k := 193) (q := (5, 0)) (C := RX5) (T := TX5) (N := 14) (ci := 5) (n := 2) (As := [.int p1, .int 6]) (rest := [.int 1, .int 6, .int p1, .ref (b + 193)]) (c_X5_its l D t b σ23 p1 6 y24 u25) sh_193 (by decide) rfl rfl hx hb hml hown hts hE hW hS q1252 q1254 q35 q96 q1255 hy_X5_its ⟨rfl, rfl⟩ ⟨Nat.le_of_ble_eq_true rfl, Nat.le_of_ble_eq_true rfl⟩ rfl rfl hl.1 (Nat.le_of_ble_eq_true rfl) ⟨Nat.zero_le _, Nat.zero_le _⟩ dX5_turnStall_43 (fun H locs hW hS => ?_)
      refine lv_isub hx hb dX5_turnStall_46 ?_
      obtain ⟨σ28, u27, hf⟩ := b1_e hf
      refine mV (k := 193) (q := (5, 0)) (C := RX5) (T := TX5) (N := 14) (ci := 5) (n := 3) (As := [.int p1, .int 6, .int (1 - y24)]) (rest := []) (c_X5_sets l D t b σ23 p1 6 (1 - y24) σ28 u27) sh_193 (by decide) rfl rfl hx hb hml hown hts hE hW hS q1271 q1273 q39 q96 q1274 hy_X5_sets ⟨rfl, rfl⟩ ⟨Nat.le_of_ble_eq_true rfl, Nat.le_of_ble_eq_true rfl⟩ rfl rfl hl.1 (Nat.le_of_ble_eq_true rfl) ⟨Nat.zero_le _, Nat.zero_le _⟩ dX5_turnStall_47 (fun H locs hW hS => ?_)
      refine lv_aload_n hx hb dX5_turnStall_50 rfl (lv_at hl 0 rfl) ?_
      refine lv_iload_n hx hb dX5_turnStall_51 rfl (lv_at hl 1 rfl) ?_
      refine lv_bipush (v := 6) hx hb dX5_turnStall_52 (by decide) ?_
      obtain ⟨y29, u30, hf⟩ := b1_e hf
      refine mV (k := 193) (q := (5, 0)) (C := RX5) (T := TX5) (N := 14) (ci := 5) (n := 2) (As := [.int p1, .int 6]) (rest := []) (c_X5_its l D t b σ28 p1 6 y29 u30) sh_193 (by decide) rfl rfl hx hb hml hown hts hE hW hS q1252 q1254 q35 q96 q1255 hy_X5_its ⟨rfl, rfl⟩ ⟨Nat.le_of_ble_eq_true rfl, Nat.le_of_ble_eq_true rfl⟩ rfl rfl hl.1 (Nat.le_of_ble_eq_true rfl) ⟨Nat.zero_le _, Nat.zero_le _⟩ dX5_turnStall_54 (fun H locs hW hS => ?_)
      refine lv_iconst (v := 1) hx hb dX5_turnStall_57 (by decide) ?_
      refine lv_icmp_ne (tgt := 65) hx hb dX5_turnStall_58 (by decide) (fun h31 => ?_) (fun h31 => ?_)
      · have hf := ifn h31 hf
        refine lv_iconst (v := 0) hx hb dX5_turnStall_65 (by decide) ?_
        cases hf
        exact W.zret (ty := .boolean) hx hb hr (by decide) (fun u hu _ => ⟨⟨rfl, by rw [hu]; exact hW⟩, hS.F hu⟩) hS.2.2 dX5_turnStall_66
      · have hf := ifp h31 hf
        refine lv_iconst (v := 1) hx hb dX5_turnStall_61 (by decide) ?_
        refine lv_goto (tgt := 66) hx hb dX5_turnStall_62 (by decide) ?_
        cases hf
        exact W.zret (ty := .boolean) hx hb hr (by decide) (fun u hu _ => ⟨⟨rfl, by rw [hu]; exact hW⟩, hS.F hu⟩) hS.2.2 dX5_turnStall_66
    · have hf := ifn h20 hf
      refine lv_iconst (v := 0) hx hb dX5_turnStall_24 (by decide) ?_
      cases hf
      exact W.zret (ty := .boolean) hx hb hr (by decide) (fun u hu _ => ⟨⟨rfl, by rw [hu]; exact hW⟩, hS.F hu⟩) hS.2.2 dX5_turnStall_25
def f_X5_restock (σ : Sg) (p1 : Int32) (p2 : Int32) (p3 : Int32) (p4 : Int32) : Option (Int32 × Sg) := b1 (f_X5_whyNotStocked σ p1 p2 p3 p4) fun y1 => st (u2 σ 193 10 y1) fun σ3 => if (σ3 193 10) ≤ 0 then (b1 (f_X5_saves 194 1785 σ3) fun σ8 => b2 (f_X5_stocks σ8 p1 p2 p3 p4) fun y9 σ11 => some (y9, σ11)) else (some (0, σ3))
set_option maxHeartbeats 4000000 in
set_option maxRecDepth 100000 in
theorem c_X5_restock (l : Launch) (D : va_G) (t : Nat → ClassId) (b : Nat) (σ : Sg) (p1 : Int32) (p2 : Int32) (p3 : Int32) (p4 : Int32) (r : Int32) (σr : Sg) (hf : f_X5_restock σ p1 p2 p3 p4 = some (r, σr)) : Met l yX5_restock (Cond.code yX5_restock cX5_restock 5 (some .int) :: ALL) ({ frames := 3, cells := 0, slots := 0, locals := 70 }) (PM D t b σ [.ref (b + 193), .int p1, .int p2, .int p3, .int p4]) (QG D t b σr (some (.int r))) 0 0 (geA b) := by
  refine Met.ofW (cc := cX5_restock) (maxL := 5) (ret := (some .int)) (by decide) rfl ?_
  intro p e s m args below meth c s₁ B hml hv
  obtain ⟨rfl, hW, hE⟩ := hv
  have hx := B.exec
  have hb := B.bytes
  have hr := B.returns
  have hts := atoms_spec (ws := Cond.code yX5_restock cX5_restock 5 (some .int) :: ALL) B.pre
  have hta := fun w h => hts w (List.mem_cons_of_mem _ h)
  have hown : s.vm.findClass RX5 = some m.cls := findClass_of_methodNamed B.named
  have hlocks := B.notSynchronized
  have hS : va_S (geA b) s.heap s.heap [] := va_S.rf
  have hl := lv_entry ([.ref (b + 193), .int p1, .int p2, .int p3, .int p4]) (n := 5) (Nat.le_of_ble_eq_true rfl)
  rw [lg_entry_eq]
  generalize (lg_sl ([.ref (b + 193), .int p1, .int p2, .int p3, .int p4]) ++ List.replicate (5 - (lg_sl ([.ref (b + 193), .int p1, .int p2, .int p3, .int p4])).length) Slot.unset).toArray = ls at hl ⊢
  have hl : lv_has ls 5 [(0, .ref (b + 193)), (1, .int p1), (2, .int p2), (3, .int p3), (4, .int p4)] := hl
  unfold f_X5_restock at hf
  refine lv_aload_n hx hb dX5_restock_0 rfl (lv_at hl 0 rfl) ?_
  refine lv_aload_n hx hb dX5_restock_1 rfl (lv_at hl 0 rfl) ?_
  refine lv_iload_n hx hb dX5_restock_2 rfl (lv_at hl 1 rfl) ?_
  refine lv_iload_n hx hb dX5_restock_3 rfl (lv_at hl 2 rfl) ?_
  refine lv_iload_n hx hb dX5_restock_4 rfl (lv_at hl 3 rfl) ?_
  refine lv_iload hx hb dX5_restock_5 (lv_at hl 4 rfl) ?_
  obtain ⟨y1, u2, hf⟩ := b1_e hf
  refine mV (k := 193) (q := (5, 0)) (C := RX5) (T := TX5) (N := 14) (ci := 5) (n := 4) (As := [.int p1, .int p2, .int p3, .int p4]) (rest := [.ref (b + 193)]) (c_X5_whyNotStocked l D t b σ p1 p2 p3 p4 y1 u2) sh_193 (by decide) rfl rfl hx hb hml hown hts hE hW hS q1295 q1297 q41 q96 q1298 hy_X5_whyNotStocked ⟨rfl, rfl⟩ ⟨Nat.le_of_ble_eq_true rfl, Nat.le_of_ble_eq_true rfl⟩ rfl rfl hl.1 (Nat.le_of_ble_eq_true rfl) ⟨Nat.zero_le _, Nat.zero_le _⟩ dX5_restock_7 (fun H locs hW hS => ?_)
  refine putX (k := 193) (q := (5, 0)) (ci := 5) (x := y1) inA5 tyX5_ok nmX5 rfl (by decide) rfl hx hb hta hown hE.1 hW hS sh_193 10 (by decide) q1191 rfl rfl rfl (Nat.le_of_ble_eq_true rfl) rfl dX5_restock_10 (fun H locs hW hS => ?_)
  obtain ⟨σ3, e4, hf⟩ := st_e hf
  rw [e4] at hW
  refine lv_aload_n hx hb dX5_restock_13 rfl (lv_at hl 0 rfl) ?_
  refine getM hx hb hta hown hE.1 hW 10 (by decide) q1191 rfl dX5_restock_14 ?_
  refine lv_if_le (tgt := 22) hx hb dX5_restock_17 (by decide) (fun h5 => ?_) (fun h5 => ?_)
  · have hf := ifp h5 hf
    refine lv_aload_n hx hb dX5_restock_22 rfl (lv_at hl 0 rfl) ?_
    refine lv_aload_n hx hb dX5_restock_23 rfl (lv_at hl 0 rfl) ?_
    refine getM hx hb hta hown hE.1 hW 0 (by decide) q1181 rfl dX5_restock_24 ?_
    obtain ⟨σ8, u7, hf⟩ := b1_e hf
    refine mV (k := 193) (q := (5, 0)) (C := RX5) (T := TX5) (N := 14) (ci := 5) (n := 1) (As := [.ref (b + 194)]) (rest := []) (c_X5_saves l D t b 194 1785 σ3 σ8 sh_194 u7) sh_193 (by decide) rfl rfl hx hb hml hown hts hE hW hS q1256 q1258 q36 q96 q1259 hy_X5_saves ⟨rfl, rfl⟩ ⟨Nat.le_of_ble_eq_true rfl, Nat.le_of_ble_eq_true rfl⟩ rfl rfl hl.1 (Nat.le_of_ble_eq_true rfl) ⟨Nat.zero_le _, Nat.zero_le _⟩ dX5_restock_27 (fun H locs hW hS => ?_)
    refine lv_aload_n hx hb dX5_restock_30 rfl (lv_at hl 0 rfl) ?_
    refine lv_iload_n hx hb dX5_restock_31 rfl (lv_at hl 1 rfl) ?_
    refine lv_iload_n hx hb dX5_restock_32 rfl (lv_at hl 2 rfl) ?_
    refine lv_iload_n hx hb dX5_restock_33 rfl (lv_at hl 3 rfl) ?_
    refine lv_iload hx hb dX5_restock_34 (lv_at hl 4 rfl) ?_
    obtain ⟨y9, σ11, u10, hf⟩ := b2_e hf
    refine mV (k := 193) (q := (5, 0)) (C := RX5) (T := TX5) (N := 14) (ci := 5) (n := 4) (As := [.int p1, .int p2, .int p3, .int p4]) (rest := []) (c_X5_stocks l D t b σ8 p1 p2 p3 p4 y9 σ11 u10) sh_193 (by decide) rfl rfl hx hb hml hown hts hE hW hS q1309 q1311 q43 q96 q1312 hy_X5_stocks ⟨rfl, rfl⟩ ⟨Nat.le_of_ble_eq_true rfl, Nat.le_of_ble_eq_true rfl⟩ rfl rfl hl.1 (Nat.le_of_ble_eq_true rfl) ⟨Nat.zero_le _, Nat.zero_le _⟩ dX5_restock_36 (fun H locs hW hS => ?_)
    cases hf
    exact W.iret hx hb hr (fun u hu _ => ⟨⟨rfl, by rw [hu]; exact hW⟩, hS.F hu⟩) hS.2.2 dX5_restock_39
  · have hf := ifn h5 hf
    refine lv_iconst (v := 0) hx hb dX5_restock_20 (by decide) ?_
    cases hf
    exact W.iret hx hb hr (fun u hu _ => ⟨⟨rfl, by rw [hu]; exact hW⟩, hS.F hu⟩) hS.2.2 dX5_restock_21
def f_X5_fund (σ : Sg) (p1 : Int32) (p2 : Int32) : Option (Int32 × Sg) := b1 (f_X5_whyNotFunded σ p1 p2) fun y1 => st (u2 σ 193 10 y1) fun σ3 => if (σ3 193 10) ≤ 0 then (b1 (f_X5_saves 194 1785 σ3) fun σ8 => b2 (f_X5_funds σ8 p1 p2) fun y9 σ11 => some (y9, σ11)) else (some (0, σ3))
set_option maxHeartbeats 4000000 in
set_option maxRecDepth 100000 in
theorem c_X5_fund (l : Launch) (D : va_G) (t : Nat → ClassId) (b : Nat) (σ : Sg) (p1 : Int32) (p2 : Int32) (r : Int32) (σr : Sg) (hf : f_X5_fund σ p1 p2 = some (r, σr)) : Met l yX5_fund (Cond.code yX5_fund cX5_fund 3 (some .int) :: ALL) ({ frames := 3, cells := 0, slots := 0, locals := 65 }) (PM D t b σ [.ref (b + 193), .int p1, .int p2]) (QG D t b σr (some (.int r))) 0 0 (geA b) := by
  refine Met.ofW (cc := cX5_fund) (maxL := 3) (ret := (some .int)) (by decide) rfl ?_
  intro p e s m args below meth c s₁ B hml hv
  obtain ⟨rfl, hW, hE⟩ := hv
  have hx := B.exec
  have hb := B.bytes
  have hr := B.returns
  have hts := atoms_spec (ws := Cond.code yX5_fund cX5_fund 3 (some .int) :: ALL) B.pre
  have hta := fun w h => hts w (List.mem_cons_of_mem _ h)
  have hown : s.vm.findClass RX5 = some m.cls := findClass_of_methodNamed B.named
  have hlocks := B.notSynchronized
  have hS : va_S (geA b) s.heap s.heap [] := va_S.rf
  have hl := lv_entry ([.ref (b + 193), .int p1, .int p2]) (n := 3) (Nat.le_of_ble_eq_true rfl)
  rw [lg_entry_eq]
  generalize (lg_sl ([.ref (b + 193), .int p1, .int p2]) ++ List.replicate (3 - (lg_sl ([.ref (b + 193), .int p1, .int p2])).length) Slot.unset).toArray = ls at hl ⊢
  have hl : lv_has ls 3 [(0, .ref (b + 193)), (1, .int p1), (2, .int p2)] := hl
  unfold f_X5_fund at hf
  refine lv_aload_n hx hb dX5_fund_0 rfl (lv_at hl 0 rfl) ?_
  refine lv_aload_n hx hb dX5_fund_1 rfl (lv_at hl 0 rfl) ?_
  refine lv_iload_n hx hb dX5_fund_2 rfl (lv_at hl 1 rfl) ?_
  refine lv_iload_n hx hb dX5_fund_3 rfl (lv_at hl 2 rfl) ?_
  obtain ⟨y1, u2, hf⟩ := b1_e hf
  refine mV (k := 193) (q := (5, 0)) (C := RX5) (T := TX5) (N := 14) (ci := 5) (n := 2) (As := [.int p1, .int p2]) (rest := [.ref (b + 193)]) (c_X5_whyNotFunded l D t b σ p1 p2 y1 u2) sh_193 (by decide) rfl rfl hx hb hml hown hts hE hW hS q1321 q1323 q45 q96 q1324 hy_X5_whyNotFunded ⟨rfl, rfl⟩ ⟨Nat.le_of_ble_eq_true rfl, Nat.le_of_ble_eq_true rfl⟩ rfl rfl hl.1 (Nat.le_of_ble_eq_true rfl) ⟨Nat.zero_le _, Nat.zero_le _⟩ dX5_fund_4 (fun H locs hW hS => ?_)
  refine putX (k := 193) (q := (5, 0)) (ci := 5) (x := y1) inA5 tyX5_ok nmX5 rfl (by decide) rfl hx hb hta hown hE.1 hW hS sh_193 10 (by decide) q1191 rfl rfl rfl (Nat.le_of_ble_eq_true rfl) rfl dX5_fund_7 (fun H locs hW hS => ?_)
  obtain ⟨σ3, e4, hf⟩ := st_e hf
  rw [e4] at hW
  refine lv_aload_n hx hb dX5_fund_10 rfl (lv_at hl 0 rfl) ?_
  refine getM hx hb hta hown hE.1 hW 10 (by decide) q1191 rfl dX5_fund_11 ?_
  refine lv_if_le (tgt := 19) hx hb dX5_fund_14 (by decide) (fun h5 => ?_) (fun h5 => ?_)
  · have hf := ifp h5 hf
    refine lv_aload_n hx hb dX5_fund_19 rfl (lv_at hl 0 rfl) ?_
    refine lv_aload_n hx hb dX5_fund_20 rfl (lv_at hl 0 rfl) ?_
    refine getM hx hb hta hown hE.1 hW 0 (by decide) q1181 rfl dX5_fund_21 ?_
    obtain ⟨σ8, u7, hf⟩ := b1_e hf
    refine mV (k := 193) (q := (5, 0)) (C := RX5) (T := TX5) (N := 14) (ci := 5) (n := 1) (As := [.ref (b + 194)]) (rest := []) (c_X5_saves l D t b 194 1785 σ3 σ8 sh_194 u7) sh_193 (by decide) rfl rfl hx hb hml hown hts hE hW hS q1256 q1258 q36 q96 q1259 hy_X5_saves ⟨rfl, rfl⟩ ⟨Nat.le_of_ble_eq_true rfl, Nat.le_of_ble_eq_true rfl⟩ rfl rfl hl.1 (Nat.le_of_ble_eq_true rfl) ⟨Nat.zero_le _, Nat.zero_le _⟩ dX5_fund_24 (fun H locs hW hS => ?_)
    refine lv_aload_n hx hb dX5_fund_27 rfl (lv_at hl 0 rfl) ?_
    refine lv_iload_n hx hb dX5_fund_28 rfl (lv_at hl 1 rfl) ?_
    refine lv_iload_n hx hb dX5_fund_29 rfl (lv_at hl 2 rfl) ?_
    obtain ⟨y9, σ11, u10, hf⟩ := b2_e hf
    refine mV (k := 193) (q := (5, 0)) (C := RX5) (T := TX5) (N := 14) (ci := 5) (n := 2) (As := [.int p1, .int p2]) (rest := []) (c_X5_funds l D t b σ8 p1 p2 y9 σ11 u10) sh_193 (by decide) rfl rfl hx hb hml hown hts hE hW hS q1325 q1327 q46 q96 q1328 hy_X5_funds ⟨rfl, rfl⟩ ⟨Nat.le_of_ble_eq_true rfl, Nat.le_of_ble_eq_true rfl⟩ rfl rfl hl.1 (Nat.le_of_ble_eq_true rfl) ⟨Nat.zero_le _, Nat.zero_le _⟩ dX5_fund_30 (fun H locs hW hS => ?_)
    cases hf
    exact W.iret hx hb hr (fun u hu _ => ⟨⟨rfl, by rw [hu]; exact hW⟩, hS.F hu⟩) hS.2.2 dX5_fund_33
  · have hf := ifn h5 hf
    refine lv_iconst (v := 0) hx hb dX5_fund_17 (by decide) ?_
    cases hf
    exact W.iret hx hb hr (fun u hu _ => ⟨⟨rfl, by rw [hu]; exact hW⟩, hS.F hu⟩) hS.2.2 dX5_fund_18
def f_X5_collect (σ : Sg) (p1 : Int32) : Option (Int32 × Sg) := b1 (f_X5_isStall σ p1) fun y1 => if y1 = 0 then (st (u2 σ 193 10 1) fun σ4 => if (σ4 193 10) ≤ 0 then (b1 (f_X5_saves 194 1785 σ4) fun σ9 => b1 (f_X5_its σ9 p1 4) fun y10 => st (u2 σ9 194 (0 : Int32).toNatClampNeg ((σ9 194 (0 : Int32).toNatClampNeg) + y10)) fun σ12 => b1 (f_X5_sets σ12 p1 4 0) fun σ16 => some (y10, σ16)) else (some (0, σ4))) else (st (u2 σ 193 10 0) fun σ17 => if (σ17 193 10) ≤ 0 then (b1 (f_X5_saves 194 1785 σ17) fun σ22 => b1 (f_X5_its σ22 p1 4) fun y23 => st (u2 σ22 194 (0 : Int32).toNatClampNeg ((σ22 194 (0 : Int32).toNatClampNeg) + y23)) fun σ25 => b1 (f_X5_sets σ25 p1 4 0) fun σ29 => some (y23, σ29)) else (some (0, σ17)))
set_option maxHeartbeats 4000000 in
set_option maxRecDepth 100000 in
theorem c_X5_collect (l : Launch) (D : va_G) (t : Nat → ClassId) (b : Nat) (σ : Sg) (p1 : Int32) (r : Int32) (σr : Sg) (hf : f_X5_collect σ p1 = some (r, σr)) : Met l yX5_collect (Cond.code yX5_collect cX5_collect 3 (some .int) :: ALL) ({ frames := 2, cells := 0, slots := 0, locals := 46 }) (PM D t b σ [.ref (b + 193), .int p1]) (QG D t b σr (some (.int r))) 0 0 (geA b) := by
  refine Met.ofW (cc := cX5_collect) (maxL := 3) (ret := (some .int)) (by decide) rfl ?_
  intro p e s m args below meth c s₁ B hml hv
  obtain ⟨rfl, hW, hE⟩ := hv
  have hx := B.exec
  have hb := B.bytes
  have hr := B.returns
  have hts := atoms_spec (ws := Cond.code yX5_collect cX5_collect 3 (some .int) :: ALL) B.pre
  have hta := fun w h => hts w (List.mem_cons_of_mem _ h)
  have hown : s.vm.findClass RX5 = some m.cls := findClass_of_methodNamed B.named
  have hlocks := B.notSynchronized
  have hS : va_S (geA b) s.heap s.heap [] := va_S.rf
  have hl := lv_entry ([.ref (b + 193), .int p1]) (n := 3) (Nat.le_of_ble_eq_true rfl)
  rw [lg_entry_eq]
  generalize (lg_sl ([.ref (b + 193), .int p1]) ++ List.replicate (3 - (lg_sl ([.ref (b + 193), .int p1])).length) Slot.unset).toArray = ls at hl ⊢
  have hl : lv_has ls 3 [(0, .ref (b + 193)), (1, .int p1)] := hl
  unfold f_X5_collect at hf
  refine lv_aload_n hx hb dX5_collect_0 rfl (lv_at hl 0 rfl) ?_
  refine lv_aload_n hx hb dX5_collect_1 rfl (lv_at hl 0 rfl) ?_
  refine lv_iload_n hx hb dX5_collect_2 rfl (lv_at hl 1 rfl) ?_
  obtain ⟨y1, u2, hf⟩ := b1_e hf
  refine mV (k := 193) (q := (5, 0)) (C := RX5) (T := TX5) (N := 14) (ci := 5) (n := 1) (As := [.int p1]) (rest := [.ref (b + 193)]) (c_X5_isStall l D t b σ p1 y1 u2) sh_193 (by decide) rfl rfl hx hb hml hown hts hE hW hS q1279 q1281 q40 q96 q1282 hy_X5_isStall ⟨rfl, rfl⟩ ⟨Nat.le_of_ble_eq_true rfl, Nat.le_of_ble_eq_true rfl⟩ rfl rfl hl.1 (Nat.le_of_ble_eq_true rfl) ⟨Nat.zero_le _, Nat.zero_le _⟩ dX5_collect_3 (fun H locs hW hS => ?_)
  refine lv_if_eq (tgt := 13) hx hb dX5_collect_6 (by decide) (fun h3 => ?_) (fun h3 => ?_)
  · have hf := ifp h3 hf
    refine lv_iconst (v := 1) hx hb dX5_collect_13 (by decide) ?_
    refine putX (k := 193) (q := (5, 0)) (ci := 5) (x := 1) inA5 tyX5_ok nmX5 rfl (by decide) rfl hx hb hta hown hE.1 hW hS sh_193 10 (by decide) q1191 rfl rfl rfl (Nat.le_of_ble_eq_true rfl) rfl dX5_collect_14 (fun H locs hW hS => ?_)
    obtain ⟨σ4, e5, hf⟩ := st_e hf
    rw [e5] at hW
    refine lv_aload_n hx hb dX5_collect_17 rfl (lv_at hl 0 rfl) ?_
    refine getM hx hb hta hown hE.1 hW 10 (by decide) q1191 rfl dX5_collect_18 ?_
    refine lv_if_le (tgt := 26) hx hb dX5_collect_21 (by decide) (fun h6 => ?_) (fun h6 => ?_)
    · have hf := ifp h6 hf
      refine lv_aload_n hx hb dX5_collect_26 rfl (lv_at hl 0 rfl) ?_
      refine lv_aload_n hx hb dX5_collect_27 rfl (lv_at hl 0 rfl) ?_
      refine getM hx hb hta hown hE.1 hW 0 (by decide) q1181 rfl dX5_collect_28 ?_
      obtain ⟨σ9, u8, hf⟩ := b1_e hf
      refine mV (k := 193) (q := (5, 0)) (C := RX5) (T := TX5) (N := 14) (ci := 5) (n := 1) (As := [.ref (b + 194)]) (rest := []) (c_X5_saves l D t b 194 1785 σ4 σ9 sh_194 u8) sh_193 (by decide) rfl rfl hx hb hml hown hts hE hW hS q1256 q1258 q36 q96 q1259 hy_X5_saves ⟨rfl, rfl⟩ ⟨Nat.le_of_ble_eq_true rfl, Nat.le_of_ble_eq_true rfl⟩ rfl rfl hl.1 (Nat.le_of_ble_eq_true rfl) ⟨Nat.zero_le _, Nat.zero_le _⟩ dX5_collect_31 (fun H locs hW hS => ?_)
      refine lv_aload_n hx hb dX5_collect_34 rfl (lv_at hl 0 rfl) ?_
      refine lv_iload_n hx hb dX5_collect_35 rfl (lv_at hl 1 rfl) ?_
      refine lv_iconst (v := 4) hx hb dX5_collect_36 (by decide) ?_
      obtain ⟨y10, u11, hf⟩ := b1_e hf
      refine mV (k := 193) (q := (5, 0)) (C := RX5) (T := TX5) (N := 14) (ci := 5) (n := 2) (As := [.int p1, .int 4]) (rest := []) (c_X5_its l D t b σ9 p1 4 y10 u11) sh_193 (by decide) rfl rfl hx hb hml hown hts hE hW hS q1252 q1254 q35 q96 q1255 hy_X5_its ⟨rfl, rfl⟩ ⟨Nat.le_of_ble_eq_true rfl, Nat.le_of_ble_eq_true rfl⟩ rfl rfl hl.1 (Nat.le_of_ble_eq_true rfl) ⟨Nat.zero_le _, Nat.zero_le _⟩ dX5_collect_37 (fun H locs hW hS => ?_)
      refine lv_istore_n (lv' := [(2, .int y10), (0, .ref (b + 193)), (1, .int p1)]) hx hb dX5_collect_40 rfl hl (by decide) rfl (fun ls hl => ?_)
      refine lv_aload_n hx hb dX5_collect_41 rfl (lv_at hl 1 rfl) ?_
      refine getM hx hb hta hown hE.1 hW 0 (by decide) q1181 rfl dX5_collect_42 ?_
      refine lv_iconst (v := 0) hx hb dX5_collect_45 (by decide) ?_
      refine lv_dup2_11 hx hb dX5_collect_46 rfl rfl ?_
      refine iald hx hb hE.1 hW sh_194 (vp_lit (by decide +kernel)) dX5_collect_47 ?_
      refine lv_iload_n hx hb dX5_collect_48 rfl (lv_at hl 0 rfl) ?_
      refine lv_iadd hx hb dX5_collect_49 ?_
      refine iast (k := 194) (i := 0) (x := ((σ9 194 (0 : Int32).toNatClampNeg) + y10)) hx hb hE.1 hW hS sh_194 (vp_lit (by decide +kernel)) dX5_collect_50 (fun H locs hW hS => ?_)
      obtain ⟨σ12, e13, hf⟩ := st_e hf
      rw [e13] at hW
      refine lv_aload_n hx hb dX5_collect_51 rfl (lv_at hl 1 rfl) ?_
      refine lv_iload_n hx hb dX5_collect_52 rfl (lv_at hl 2 rfl) ?_
      refine lv_iconst (v := 4) hx hb dX5_collect_53 (by decide) ?_
      refine lv_iconst (v := 0) hx hb dX5_collect_54 (by decide) ?_
      obtain ⟨σ16, u15, hf⟩ := b1_e hf
      refine mV (k := 193) (q := (5, 0)) (C := RX5) (T := TX5) (N := 14) (ci := 5) (n := 3) (As := [.int p1, .int 4, .int 0]) (rest := []) (c_X5_sets l D t b σ12 p1 4 0 σ16 u15) sh_193 (by decide) rfl rfl hx hb hml hown hts hE hW hS q1271 q1273 q39 q96 q1274 hy_X5_sets ⟨rfl, rfl⟩ ⟨Nat.le_of_ble_eq_true rfl, Nat.le_of_ble_eq_true rfl⟩ rfl rfl hl.1 (Nat.le_of_ble_eq_true rfl) ⟨Nat.zero_le _, Nat.zero_le _⟩ dX5_collect_55 (fun H locs hW hS => ?_)
      refine lv_iload_n hx hb dX5_collect_58 rfl (lv_at hl 0 rfl) ?_
      cases hf
      exact W.iret hx hb hr (fun u hu _ => ⟨⟨rfl, by rw [hu]; exact hW⟩, hS.F hu⟩) hS.2.2 dX5_collect_59
    · have hf := ifn h6 hf
      refine lv_iconst (v := 0) hx hb dX5_collect_24 (by decide) ?_
      cases hf
      exact W.iret hx hb hr (fun u hu _ => ⟨⟨rfl, by rw [hu]; exact hW⟩, hS.F hu⟩) hS.2.2 dX5_collect_25
  · have hf := ifn h3 hf
    refine lv_iconst (v := 0) hx hb dX5_collect_9 (by decide) ?_
    refine lv_goto (tgt := 14) hx hb dX5_collect_10 (by decide) ?_
    refine putX (k := 193) (q := (5, 0)) (ci := 5) (x := 0) inA5 tyX5_ok nmX5 rfl (by decide) rfl hx hb hta hown hE.1 hW hS sh_193 10 (by decide) q1191 rfl rfl rfl (Nat.le_of_ble_eq_true rfl) rfl dX5_collect_14 (fun H locs hW hS => ?_)
    obtain ⟨σ17, e18, hf⟩ := st_e hf
    rw [e18] at hW
    refine lv_aload_n hx hb dX5_collect_17 rfl (lv_at hl 0 rfl) ?_
    refine getM hx hb hta hown hE.1 hW 10 (by decide) q1191 rfl dX5_collect_18 ?_
    refine lv_if_le (tgt := 26) hx hb dX5_collect_21 (by decide) (fun h19 => ?_) (fun h19 => ?_)
    · have hf := ifp h19 hf
      refine lv_aload_n hx hb dX5_collect_26 rfl (lv_at hl 0 rfl) ?_
      refine lv_aload_n hx hb dX5_collect_27 rfl (lv_at hl 0 rfl) ?_
      refine getM hx hb hta hown hE.1 hW 0 (by decide) q1181 rfl dX5_collect_28 ?_
      obtain ⟨σ22, u21, hf⟩ := b1_e hf
      refine mV (k := 193) (q := (5, 0)) (C := RX5) (T := TX5) (N := 14) (ci := 5) (n := 1) (As := [.ref (b + 194)]) (rest := []) (c_X5_saves l D t b 194 1785 σ17 σ22 sh_194 u21) sh_193 (by decide) rfl rfl hx hb hml hown hts hE hW hS q1256 q1258 q36 q96 q1259 hy_X5_saves ⟨rfl, rfl⟩ ⟨Nat.le_of_ble_eq_true rfl, Nat.le_of_ble_eq_true rfl⟩ rfl rfl hl.1 (Nat.le_of_ble_eq_true rfl) ⟨Nat.zero_le _, Nat.zero_le _⟩ dX5_collect_31 (fun H locs hW hS => ?_)
      refine lv_aload_n hx hb dX5_collect_34 rfl (lv_at hl 0 rfl) ?_
      refine lv_iload_n hx hb dX5_collect_35 rfl (lv_at hl 1 rfl) ?_
      refine lv_iconst (v := 4) hx hb dX5_collect_36 (by decide) ?_
      obtain ⟨y23, u24, hf⟩ := b1_e hf
      refine mV (k := 193) (q := (5, 0)) (C := RX5) (T := TX5) (N := 14) (ci := 5) (n := 2) (As := [.int p1, .int 4]) (rest := []) (c_X5_its l D t b σ22 p1 4 y23 u24) sh_193 (by decide) rfl rfl hx hb hml hown hts hE hW hS q1252 q1254 q35 q96 q1255 hy_X5_its ⟨rfl, rfl⟩ ⟨Nat.le_of_ble_eq_true rfl, Nat.le_of_ble_eq_true rfl⟩ rfl rfl hl.1 (Nat.le_of_ble_eq_true rfl) ⟨Nat.zero_le _, Nat.zero_le _⟩ dX5_collect_37 (fun H locs hW hS => ?_)
      refine lv_istore_n (lv' := [(2, .int y23), (0, .ref (b + 193)), (1, .int p1)]) hx hb dX5_collect_40 rfl hl (by decide) rfl (fun ls hl => ?_)
      refine lv_aload_n hx hb dX5_collect_41 rfl (lv_at hl 1 rfl) ?_
      refine getM hx hb hta hown hE.1 hW 0 (by decide) q1181 rfl dX5_collect_42 ?_
      refine lv_iconst (v := 0) hx hb dX5_collect_45 (by decide) ?_
      refine lv_dup2_11 hx hb dX5_collect_46 rfl rfl ?_
      refine iald hx hb hE.1 hW sh_194 (vp_lit (by decide +kernel)) dX5_collect_47 ?_
      refine lv_iload_n hx hb dX5_collect_48 rfl (lv_at hl 0 rfl) ?_
      refine lv_iadd hx hb dX5_collect_49 ?_
      refine iast (k := 194) (i := 0) (x := ((σ22 194 (0 : Int32).toNatClampNeg) + y23)) hx hb hE.1 hW hS sh_194 (vp_lit (by decide +kernel)) dX5_collect_50 (fun H locs hW hS => ?_)
      obtain ⟨σ25, e26, hf⟩ := st_e hf
      rw [e26] at hW
      refine lv_aload_n hx hb dX5_collect_51 rfl (lv_at hl 1 rfl) ?_
      refine lv_iload_n hx hb dX5_collect_52 rfl (lv_at hl 2 rfl) ?_
      refine lv_iconst (v := 4) hx hb dX5_collect_53 (by decide) ?_
      refine lv_iconst (v := 0) hx hb dX5_collect_54 (by decide) ?_
      obtain ⟨σ29, u28, hf⟩ := b1_e hf
      refine mV (k := 193) (q := (5, 0)) (C := RX5) (T := TX5) (N := 14) (ci := 5) (n := 3) (As := [.int p1, .int 4, .int 0]) (rest := []) (c_X5_sets l D t b σ25 p1 4 0 σ29 u28) sh_193 (by decide) rfl rfl hx hb hml hown hts hE hW hS q1271 q1273 q39 q96 q1274 hy_X5_sets ⟨rfl, rfl⟩ ⟨Nat.le_of_ble_eq_true rfl, Nat.le_of_ble_eq_true rfl⟩ rfl rfl hl.1 (Nat.le_of_ble_eq_true rfl) ⟨Nat.zero_le _, Nat.zero_le _⟩ dX5_collect_55 (fun H locs hW hS => ?_)
      refine lv_iload_n hx hb dX5_collect_58 rfl (lv_at hl 0 rfl) ?_
      cases hf
      exact W.iret hx hb hr (fun u hu _ => ⟨⟨rfl, by rw [hu]; exact hW⟩, hS.F hu⟩) hS.2.2 dX5_collect_59
    · have hf := ifn h19 hf
      refine lv_iconst (v := 0) hx hb dX5_collect_24 (by decide) ?_
      cases hf
      exact W.iret hx hb hr (fun u hu _ => ⟨⟨rfl, by rw [hu]; exact hW⟩, hS.F hu⟩) hS.2.2 dX5_collect_25
def f_X5_come (σ : Sg) (p1 : Int32) (p2 : Int32) (p3 : Int32) : Option (Int32 × Sg) := b1 (f_X5_whyNotCome σ p1 p2 p3) fun y1 => st (u2 σ 193 10 y1) fun σ3 => if (σ3 193 10) ≤ 0 then (b1 (f_X5_saves 194 1785 σ3) fun σ8 => b2 (f_X5_comes σ8 p1 p2 p3) fun y9 σ11 => some (y9, σ11)) else (some (0, σ3))
set_option maxHeartbeats 4000000 in
set_option maxRecDepth 100000 in
theorem c_X5_come (l : Launch) (D : va_G) (t : Nat → ClassId) (b : Nat) (σ : Sg) (p1 : Int32) (p2 : Int32) (p3 : Int32) (r : Int32) (σr : Sg) (hf : f_X5_come σ p1 p2 p3 = some (r, σr)) : Met l yX5_come (Cond.code yX5_come cX5_come 4 (some .int) :: ALL) ({ frames := 5, cells := 0, slots := 0, locals := 108 }) (PM D t b σ [.ref (b + 193), .int p1, .int p2, .int p3]) (QG D t b σr (some (.int r))) 0 0 (geA b) := by
  refine Met.ofW (cc := cX5_come) (maxL := 4) (ret := (some .int)) (by decide) rfl ?_
  intro p e s m args below meth c s₁ B hml hv
  obtain ⟨rfl, hW, hE⟩ := hv
  have hx := B.exec
  have hb := B.bytes
  have hr := B.returns
  have hts := atoms_spec (ws := Cond.code yX5_come cX5_come 4 (some .int) :: ALL) B.pre
  have hta := fun w h => hts w (List.mem_cons_of_mem _ h)
  have hown : s.vm.findClass RX5 = some m.cls := findClass_of_methodNamed B.named
  have hlocks := B.notSynchronized
  have hS : va_S (geA b) s.heap s.heap [] := va_S.rf
  have hl := lv_entry ([.ref (b + 193), .int p1, .int p2, .int p3]) (n := 4) (Nat.le_of_ble_eq_true rfl)
  rw [lg_entry_eq]
  generalize (lg_sl ([.ref (b + 193), .int p1, .int p2, .int p3]) ++ List.replicate (4 - (lg_sl ([.ref (b + 193), .int p1, .int p2, .int p3])).length) Slot.unset).toArray = ls at hl ⊢
  have hl : lv_has ls 4 [(0, .ref (b + 193)), (1, .int p1), (2, .int p2), (3, .int p3)] := hl
  unfold f_X5_come at hf
  refine lv_aload_n hx hb dX5_come_0 rfl (lv_at hl 0 rfl) ?_
  refine lv_aload_n hx hb dX5_come_1 rfl (lv_at hl 0 rfl) ?_
  refine lv_iload_n hx hb dX5_come_2 rfl (lv_at hl 1 rfl) ?_
  refine lv_iload_n hx hb dX5_come_3 rfl (lv_at hl 2 rfl) ?_
  refine lv_iload_n hx hb dX5_come_4 rfl (lv_at hl 3 rfl) ?_
  obtain ⟨y1, u2, hf⟩ := b1_e hf
  refine mV (k := 193) (q := (5, 0)) (C := RX5) (T := TX5) (N := 14) (ci := 5) (n := 3) (As := [.int p1, .int p2, .int p3]) (rest := [.ref (b + 193)]) (c_X5_whyNotCome l D t b σ p1 p2 p3 y1 u2) sh_193 (by decide) rfl rfl hx hb hml hown hts hE hW hS q1337 q1339 q47 q96 q1340 hy_X5_whyNotCome ⟨rfl, rfl⟩ ⟨Nat.le_of_ble_eq_true rfl, Nat.le_of_ble_eq_true rfl⟩ rfl rfl hl.1 (Nat.le_of_ble_eq_true rfl) ⟨Nat.zero_le _, Nat.zero_le _⟩ dX5_come_5 (fun H locs hW hS => ?_)
  refine putX (k := 193) (q := (5, 0)) (ci := 5) (x := y1) inA5 tyX5_ok nmX5 rfl (by decide) rfl hx hb hta hown hE.1 hW hS sh_193 10 (by decide) q1191 rfl rfl rfl (Nat.le_of_ble_eq_true rfl) rfl dX5_come_8 (fun H locs hW hS => ?_)
  obtain ⟨σ3, e4, hf⟩ := st_e hf
  rw [e4] at hW
  refine lv_aload_n hx hb dX5_come_11 rfl (lv_at hl 0 rfl) ?_
  refine getM hx hb hta hown hE.1 hW 10 (by decide) q1191 rfl dX5_come_12 ?_
  refine lv_if_le (tgt := 20) hx hb dX5_come_15 (by decide) (fun h5 => ?_) (fun h5 => ?_)
  · have hf := ifp h5 hf
    refine lv_aload_n hx hb dX5_come_20 rfl (lv_at hl 0 rfl) ?_
    refine lv_aload_n hx hb dX5_come_21 rfl (lv_at hl 0 rfl) ?_
    refine getM hx hb hta hown hE.1 hW 0 (by decide) q1181 rfl dX5_come_22 ?_
    obtain ⟨σ8, u7, hf⟩ := b1_e hf
    refine mV (k := 193) (q := (5, 0)) (C := RX5) (T := TX5) (N := 14) (ci := 5) (n := 1) (As := [.ref (b + 194)]) (rest := []) (c_X5_saves l D t b 194 1785 σ3 σ8 sh_194 u7) sh_193 (by decide) rfl rfl hx hb hml hown hts hE hW hS q1256 q1258 q36 q96 q1259 hy_X5_saves ⟨rfl, rfl⟩ ⟨Nat.le_of_ble_eq_true rfl, Nat.le_of_ble_eq_true rfl⟩ rfl rfl hl.1 (Nat.le_of_ble_eq_true rfl) ⟨Nat.zero_le _, Nat.zero_le _⟩ dX5_come_25 (fun H locs hW hS => ?_)
    refine lv_aload_n hx hb dX5_come_28 rfl (lv_at hl 0 rfl) ?_
    refine lv_iload_n hx hb dX5_come_29 rfl (lv_at hl 1 rfl) ?_
    refine lv_iload_n hx hb dX5_come_30 rfl (lv_at hl 2 rfl) ?_
    refine lv_iload_n hx hb dX5_come_31 rfl (lv_at hl 3 rfl) ?_
    obtain ⟨y9, σ11, u10, hf⟩ := b2_e hf
    refine mV (k := 193) (q := (5, 0)) (C := RX5) (T := TX5) (N := 14) (ci := 5) (n := 3) (As := [.int p1, .int p2, .int p3]) (rest := []) (c_X5_comes l D t b σ8 p1 p2 p3 y9 σ11 u10) sh_193 (by decide) rfl rfl hx hb hml hown hts hE hW hS q1357 q1359 q52 q96 q1360 hy_X5_comes ⟨rfl, rfl⟩ ⟨Nat.le_of_ble_eq_true rfl, Nat.le_of_ble_eq_true rfl⟩ rfl rfl hl.1 (Nat.le_of_ble_eq_true rfl) ⟨Nat.zero_le _, Nat.zero_le _⟩ dX5_come_32 (fun H locs hW hS => ?_)
    cases hf
    exact W.iret hx hb hr (fun u hu _ => ⟨⟨rfl, by rw [hu]; exact hW⟩, hS.F hu⟩) hS.2.2 dX5_come_35
  · have hf := ifn h5 hf
    refine lv_iconst (v := 0) hx hb dX5_come_18 (by decide) ?_
    cases hf
    exact W.iret hx hb hr (fun u hu _ => ⟨⟨rfl, by rw [hu]; exact hW⟩, hS.F hu⟩) hS.2.2 dX5_come_19
def f_X5_isHour (σ : Sg) (p0 : Int32) : Option Int32 := b1 (f_X5_in σ p0 0 9) fun y1 => gd y1 2 (some y1)
set_option maxHeartbeats 4000000 in
set_option maxRecDepth 100000 in
theorem c_X5_isHour (l : Launch) (D : va_G) (t : Nat → ClassId) (b : Nat) (σ : Sg) (p0 : Int32) (r : Int32) (hf : f_X5_isHour σ p0 = some r) : Met l yX5_isHour (Cond.code yX5_isHour cX5_isHour 1 (some .boolean) :: ALL) ({ frames := 1, cells := 0, slots := 0, locals := 22 }) (PM D t b σ [.int p0]) (QG D t b σ (some (.int r))) 0 0 (geA b) := by
  refine Met.ofW (cc := cX5_isHour) (maxL := 1) (ret := (some .boolean)) (by decide) rfl ?_
  intro p e s m args below meth c s₁ B hml hv
  obtain ⟨rfl, hW, hE⟩ := hv
  have hx := B.exec
  have hb := B.bytes
  have hr := B.returns
  have hts := atoms_spec (ws := Cond.code yX5_isHour cX5_isHour 1 (some .boolean) :: ALL) B.pre
  have hta := fun w h => hts w (List.mem_cons_of_mem _ h)
  have hown : s.vm.findClass RX5 = some m.cls := findClass_of_methodNamed B.named
  have hlocks := B.notSynchronized
  have hS : va_S (geA b) s.heap s.heap [] := va_S.rf
  have hl := lv_entry ([.int p0]) (n := 1) (Nat.le_of_ble_eq_true rfl)
  rw [lg_entry_eq]
  generalize (lg_sl ([.int p0]) ++ List.replicate (1 - (lg_sl ([.int p0])).length) Slot.unset).toArray = ls at hl ⊢
  have hl : lv_has ls 1 [(0, .int p0)] := hl
  unfold f_X5_isHour at hf
  refine lv_iload_n hx hb dX5_isHour_0 rfl (lv_at hl 0 rfl) ?_
  refine lv_iconst (v := 0) hx hb dX5_isHour_1 (by decide) ?_
  refine lv_bipush (v := 9) hx hb dX5_isHour_2 (by decide) ?_
  obtain ⟨y1, u2, hf⟩ := b1_e hf
  refine mS (n := 3) (As := [.int p0, .int 0, .int 9]) (rest := []) (c_X5_in l D t b σ p0 0 9 y1 u2) hx hb hml hown hts hE hW hS q1239 q1240 q96 q1241 hs_X5_in ⟨rfl, rfl⟩ ⟨Nat.le_of_ble_eq_true rfl, Nat.le_of_ble_eq_true rfl⟩ rfl rfl hl.1 (Nat.le_of_ble_eq_true rfl) ⟨Nat.zero_le _, Nat.zero_le _⟩ dX5_isHour_4 (fun H locs hW hS => ?_)
  obtain ⟨g3, hf⟩ := gd_e hf
  cases hf
  exact W.zret (ty := .boolean) hx hb hr (nar_bool g3).1 (fun u hu _ => ⟨⟨rfl, by rw [hu]; exact hW⟩, hS.F hu⟩) hS.2.2 dX5_isHour_7
def f_X5_rains (σ : Sg) (p1 : Int32) (p2 : Int32) : Option (Int32 × Sg) := gd (14 + p1) 1785 (st (u2 σ 194 ((14 + p1)).toNatClampNeg p2) fun σ2 => some ((σ 194 ((14 + p1)).toNatClampNeg), σ2))
set_option maxHeartbeats 4000000 in
set_option maxRecDepth 100000 in
theorem c_X5_rains (l : Launch) (D : va_G) (t : Nat → ClassId) (b : Nat) (σ : Sg) (p1 : Int32) (p2 : Int32) (r : Int32) (σr : Sg) (hf : f_X5_rains σ p1 p2 = some (r, σr)) : Met l yX5_rains (Cond.code yX5_rains cX5_rains 4 (some .int) :: ALL) ({ frames := 0, cells := 0, slots := 0, locals := 0 }) (PM D t b σ [.ref (b + 193), .int p1, .int p2]) (QG D t b σr (some (.int r))) 0 0 (geA b) := by
  refine Met.ofW (cc := cX5_rains) (maxL := 4) (ret := (some .int)) (by decide) rfl ?_
  intro p e s m args below meth c s₁ B hml hv
  obtain ⟨rfl, hW, hE⟩ := hv
  have hx := B.exec
  have hb := B.bytes
  have hr := B.returns
  have hts := atoms_spec (ws := Cond.code yX5_rains cX5_rains 4 (some .int) :: ALL) B.pre
  have hta := fun w h => hts w (List.mem_cons_of_mem _ h)
  have hown : s.vm.findClass RX5 = some m.cls := findClass_of_methodNamed B.named
  have hlocks := B.notSynchronized
  have hS : va_S (geA b) s.heap s.heap [] := va_S.rf
  have hl := lv_entry ([.ref (b + 193), .int p1, .int p2]) (n := 4) (Nat.le_of_ble_eq_true rfl)
  rw [lg_entry_eq]
  generalize (lg_sl ([.ref (b + 193), .int p1, .int p2]) ++ List.replicate (4 - (lg_sl ([.ref (b + 193), .int p1, .int p2])).length) Slot.unset).toArray = ls at hl ⊢
  have hl : lv_has ls 4 [(0, .ref (b + 193)), (1, .int p1), (2, .int p2)] := hl
  unfold f_X5_rains at hf
  refine lv_aload_n hx hb dX5_rains_0 rfl (lv_at hl 0 rfl) ?_
  refine getM hx hb hta hown hE.1 hW 0 (by decide) q1181 rfl dX5_rains_1 ?_
  refine lv_bipush (v := 14) hx hb dX5_rains_4 (by decide) ?_
  refine lv_iload_n hx hb dX5_rains_6 rfl (lv_at hl 1 rfl) ?_
  refine lv_iadd hx hb dX5_rains_7 ?_
  obtain ⟨g1, hf⟩ := gd_e hf
  refine iald hx hb hE.1 hW sh_194 g1 dX5_rains_8 ?_
  refine lv_istore_n (lv' := [(3, .int (σ 194 ((14 + p1)).toNatClampNeg)), (0, .ref (b + 193)), (1, .int p1), (2, .int p2)]) hx hb dX5_rains_9 rfl hl (by decide) rfl (fun ls hl => ?_)
  refine lv_aload_n hx hb dX5_rains_10 rfl (lv_at hl 1 rfl) ?_
  refine getM hx hb hta hown hE.1 hW 0 (by decide) q1181 rfl dX5_rains_11 ?_
  refine lv_bipush (v := 14) hx hb dX5_rains_14 (by decide) ?_
  refine lv_iload_n hx hb dX5_rains_16 rfl (lv_at hl 2 rfl) ?_
  refine lv_iadd hx hb dX5_rains_17 ?_
  refine lv_iload_n hx hb dX5_rains_18 rfl (lv_at hl 3 rfl) ?_
  refine iast (k := 194) (i := (14 + p1)) (x := p2) hx hb hE.1 hW hS sh_194 g1 dX5_rains_19 (fun H locs hW hS => ?_)
  obtain ⟨σ2, e3, hf⟩ := st_e hf
  rw [e3] at hW
  refine lv_iload_n hx hb dX5_rains_20 rfl (lv_at hl 0 rfl) ?_
  cases hf
  exact W.iret hx hb hr (fun u hu _ => ⟨⟨rfl, by rw [hu]; exact hW⟩, hS.F hu⟩) hS.2.2 dX5_rains_21
def f_X5_setRain (σ : Sg) (p1 : Int32) (p2 : Int32) : Option (Int32 × Sg) := b1 (f_X5_isHour σ p1) fun y1 => if y1 = 0 then (st (u2 σ 193 10 1) fun σ4 => if (σ4 193 10) ≤ 0 then (b1 (f_X5_saves 194 1785 σ4) fun σ9 => b2 (f_X5_rains σ9 p1 p2) fun y10 σ12 => some (y10, σ12)) else (some (0, σ4))) else (b1 (f_X5_in σ p2 0 9) fun y13 => if y13 = 0 then (st (u2 σ 193 10 2) fun σ16 => if (σ16 193 10) ≤ 0 then (b1 (f_X5_saves 194 1785 σ16) fun σ21 => b2 (f_X5_rains σ21 p1 p2) fun y22 σ24 => some (y22, σ24)) else (some (0, σ16))) else (st (u2 σ 193 10 0) fun σ25 => if (σ25 193 10) ≤ 0 then (b1 (f_X5_saves 194 1785 σ25) fun σ30 => b2 (f_X5_rains σ30 p1 p2) fun y31 σ33 => some (y31, σ33)) else (some (0, σ25))))
set_option maxHeartbeats 4000000 in
set_option maxRecDepth 100000 in
theorem c_X5_setRain (l : Launch) (D : va_G) (t : Nat → ClassId) (b : Nat) (σ : Sg) (p1 : Int32) (p2 : Int32) (r : Int32) (σr : Sg) (hf : f_X5_setRain σ p1 p2 = some (r, σr)) : Met l yX5_setRain (Cond.code yX5_setRain cX5_setRain 3 (some .int) :: ALL) ({ frames := 2, cells := 0, slots := 0, locals := 46 }) (PM D t b σ [.ref (b + 193), .int p1, .int p2]) (QG D t b σr (some (.int r))) 0 0 (geA b) := by
  refine Met.ofW (cc := cX5_setRain) (maxL := 3) (ret := (some .int)) (by decide) rfl ?_
  intro p e s m args below meth c s₁ B hml hv
  obtain ⟨rfl, hW, hE⟩ := hv
  have hx := B.exec
  have hb := B.bytes
  have hr := B.returns
  have hts := atoms_spec (ws := Cond.code yX5_setRain cX5_setRain 3 (some .int) :: ALL) B.pre
  have hta := fun w h => hts w (List.mem_cons_of_mem _ h)
  have hown : s.vm.findClass RX5 = some m.cls := findClass_of_methodNamed B.named
  have hlocks := B.notSynchronized
  have hS : va_S (geA b) s.heap s.heap [] := va_S.rf
  have hl := lv_entry ([.ref (b + 193), .int p1, .int p2]) (n := 3) (Nat.le_of_ble_eq_true rfl)
  rw [lg_entry_eq]
  generalize (lg_sl ([.ref (b + 193), .int p1, .int p2]) ++ List.replicate (3 - (lg_sl ([.ref (b + 193), .int p1, .int p2])).length) Slot.unset).toArray = ls at hl ⊢
  have hl : lv_has ls 3 [(0, .ref (b + 193)), (1, .int p1), (2, .int p2)] := hl
  unfold f_X5_setRain at hf
  refine lv_aload_n hx hb dX5_setRain_0 rfl (lv_at hl 0 rfl) ?_
  refine lv_iload_n hx hb dX5_setRain_1 rfl (lv_at hl 1 rfl) ?_
  obtain ⟨y1, u2, hf⟩ := b1_e hf
  refine mS (n := 1) (As := [.int p1]) (rest := [.ref (b + 193)]) (c_X5_isHour l D t b σ p1 y1 u2) hx hb hml hown hts hE hW hS q1369 q1370 q96 q1371 hs_X5_isHour ⟨rfl, rfl⟩ ⟨Nat.le_of_ble_eq_true rfl, Nat.le_of_ble_eq_true rfl⟩ rfl rfl hl.1 (Nat.le_of_ble_eq_true rfl) ⟨Nat.zero_le _, Nat.zero_le _⟩ dX5_setRain_2 (fun H locs hW hS => ?_)
  refine lv_if_ne (tgt := 12) hx hb dX5_setRain_5 (by decide) (fun h3 => ?_) (fun h3 => ?_)
  · have hf := ifn h3 hf
    refine lv_iload_n hx hb dX5_setRain_12 rfl (lv_at hl 2 rfl) ?_
    refine lv_iconst (v := 0) hx hb dX5_setRain_13 (by decide) ?_
    refine lv_bipush (v := 9) hx hb dX5_setRain_14 (by decide) ?_
    obtain ⟨y13, u14, hf⟩ := b1_e hf
    refine mS (n := 3) (As := [.int p2, .int 0, .int 9]) (rest := [.ref (b + 193)]) (c_X5_in l D t b σ p2 0 9 y13 u14) hx hb hml hown hts hE hW hS q1239 q1240 q96 q1241 hs_X5_in ⟨rfl, rfl⟩ ⟨Nat.le_of_ble_eq_true rfl, Nat.le_of_ble_eq_true rfl⟩ rfl rfl hl.1 (Nat.le_of_ble_eq_true rfl) ⟨Nat.zero_le _, Nat.zero_le _⟩ dX5_setRain_16 (fun H locs hW hS => ?_)
    refine lv_if_eq (tgt := 26) hx hb dX5_setRain_19 (by decide) (fun h15 => ?_) (fun h15 => ?_)
    · have hf := ifp h15 hf
      refine lv_iconst (v := 2) hx hb dX5_setRain_26 (by decide) ?_
      refine putX (k := 193) (q := (5, 0)) (ci := 5) (x := 2) inA5 tyX5_ok nmX5 rfl (by decide) rfl hx hb hta hown hE.1 hW hS sh_193 10 (by decide) q1191 rfl rfl rfl (Nat.le_of_ble_eq_true rfl) rfl dX5_setRain_27 (fun H locs hW hS => ?_)
      obtain ⟨σ16, e17, hf⟩ := st_e hf
      rw [e17] at hW
      refine lv_aload_n hx hb dX5_setRain_30 rfl (lv_at hl 0 rfl) ?_
      refine getM hx hb hta hown hE.1 hW 10 (by decide) q1191 rfl dX5_setRain_31 ?_
      refine lv_if_le (tgt := 39) hx hb dX5_setRain_34 (by decide) (fun h18 => ?_) (fun h18 => ?_)
      · have hf := ifp h18 hf
        refine lv_aload_n hx hb dX5_setRain_39 rfl (lv_at hl 0 rfl) ?_
        refine lv_aload_n hx hb dX5_setRain_40 rfl (lv_at hl 0 rfl) ?_
        refine getM hx hb hta hown hE.1 hW 0 (by decide) q1181 rfl dX5_setRain_41 ?_
        obtain ⟨σ21, u20, hf⟩ := b1_e hf
        refine mV (k := 193) (q := (5, 0)) (C := RX5) (T := TX5) (N := 14) (ci := 5) (n := 1) (As := [.ref (b + 194)]) (rest := []) (c_X5_saves l D t b 194 1785 σ16 σ21 sh_194 u20) sh_193 (by decide) rfl rfl hx hb hml hown hts hE hW hS q1256 q1258 q36 q96 q1259 hy_X5_saves ⟨rfl, rfl⟩ ⟨Nat.le_of_ble_eq_true rfl, Nat.le_of_ble_eq_true rfl⟩ rfl rfl hl.1 (Nat.le_of_ble_eq_true rfl) ⟨Nat.zero_le _, Nat.zero_le _⟩ dX5_setRain_44 (fun H locs hW hS => ?_)
        refine lv_aload_n hx hb dX5_setRain_47 rfl (lv_at hl 0 rfl) ?_
        refine lv_iload_n hx hb dX5_setRain_48 rfl (lv_at hl 1 rfl) ?_
        refine lv_iload_n hx hb dX5_setRain_49 rfl (lv_at hl 2 rfl) ?_
        obtain ⟨y22, σ24, u23, hf⟩ := b2_e hf
        refine mV (k := 193) (q := (5, 0)) (C := RX5) (T := TX5) (N := 14) (ci := 5) (n := 2) (As := [.int p1, .int p2]) (rest := []) (c_X5_rains l D t b σ21 p1 p2 y22 σ24 u23) sh_193 (by decide) rfl rfl hx hb hml hown hts hE hW hS q1372 q1374 q54 q96 q1375 hy_X5_rains ⟨rfl, rfl⟩ ⟨Nat.le_of_ble_eq_true rfl, Nat.le_of_ble_eq_true rfl⟩ rfl rfl hl.1 (Nat.le_of_ble_eq_true rfl) ⟨Nat.zero_le _, Nat.zero_le _⟩ dX5_setRain_50 (fun H locs hW hS => ?_)
        cases hf
        exact W.iret hx hb hr (fun u hu _ => ⟨⟨rfl, by rw [hu]; exact hW⟩, hS.F hu⟩) hS.2.2 dX5_setRain_53
      · have hf := ifn h18 hf
        refine lv_iconst (v := 0) hx hb dX5_setRain_37 (by decide) ?_
        cases hf
        exact W.iret hx hb hr (fun u hu _ => ⟨⟨rfl, by rw [hu]; exact hW⟩, hS.F hu⟩) hS.2.2 dX5_setRain_38
    · have hf := ifn h15 hf
      refine lv_iconst (v := 0) hx hb dX5_setRain_22 (by decide) ?_
      refine lv_goto (tgt := 27) hx hb dX5_setRain_23 (by decide) ?_
      refine putX (k := 193) (q := (5, 0)) (ci := 5) (x := 0) inA5 tyX5_ok nmX5 rfl (by decide) rfl hx hb hta hown hE.1 hW hS sh_193 10 (by decide) q1191 rfl rfl rfl (Nat.le_of_ble_eq_true rfl) rfl dX5_setRain_27 (fun H locs hW hS => ?_)
      obtain ⟨σ25, e26, hf⟩ := st_e hf
      rw [e26] at hW
      refine lv_aload_n hx hb dX5_setRain_30 rfl (lv_at hl 0 rfl) ?_
      refine getM hx hb hta hown hE.1 hW 10 (by decide) q1191 rfl dX5_setRain_31 ?_
      refine lv_if_le (tgt := 39) hx hb dX5_setRain_34 (by decide) (fun h27 => ?_) (fun h27 => ?_)
      · have hf := ifp h27 hf
        refine lv_aload_n hx hb dX5_setRain_39 rfl (lv_at hl 0 rfl) ?_
        refine lv_aload_n hx hb dX5_setRain_40 rfl (lv_at hl 0 rfl) ?_
        refine getM hx hb hta hown hE.1 hW 0 (by decide) q1181 rfl dX5_setRain_41 ?_
        obtain ⟨σ30, u29, hf⟩ := b1_e hf
        refine mV (k := 193) (q := (5, 0)) (C := RX5) (T := TX5) (N := 14) (ci := 5) (n := 1) (As := [.ref (b + 194)]) (rest := []) (c_X5_saves l D t b 194 1785 σ25 σ30 sh_194 u29) sh_193 (by decide) rfl rfl hx hb hml hown hts hE hW hS q1256 q1258 q36 q96 q1259 hy_X5_saves ⟨rfl, rfl⟩ ⟨Nat.le_of_ble_eq_true rfl, Nat.le_of_ble_eq_true rfl⟩ rfl rfl hl.1 (Nat.le_of_ble_eq_true rfl) ⟨Nat.zero_le _, Nat.zero_le _⟩ dX5_setRain_44 (fun H locs hW hS => ?_)
        refine lv_aload_n hx hb dX5_setRain_47 rfl (lv_at hl 0 rfl) ?_
        refine lv_iload_n hx hb dX5_setRain_48 rfl (lv_at hl 1 rfl) ?_
        refine lv_iload_n hx hb dX5_setRain_49 rfl (lv_at hl 2 rfl) ?_
        obtain ⟨y31, σ33, u32, hf⟩ := b2_e hf
        refine mV (k := 193) (q := (5, 0)) (C := RX5) (T := TX5) (N := 14) (ci := 5) (n := 2) (As := [.int p1, .int p2]) (rest := []) (c_X5_rains l D t b σ30 p1 p2 y31 σ33 u32) sh_193 (by decide) rfl rfl hx hb hml hown hts hE hW hS q1372 q1374 q54 q96 q1375 hy_X5_rains ⟨rfl, rfl⟩ ⟨Nat.le_of_ble_eq_true rfl, Nat.le_of_ble_eq_true rfl⟩ rfl rfl hl.1 (Nat.le_of_ble_eq_true rfl) ⟨Nat.zero_le _, Nat.zero_le _⟩ dX5_setRain_50 (fun H locs hW hS => ?_)
        cases hf
        exact W.iret hx hb hr (fun u hu _ => ⟨⟨rfl, by rw [hu]; exact hW⟩, hS.F hu⟩) hS.2.2 dX5_setRain_53
      · have hf := ifn h27 hf
        refine lv_iconst (v := 0) hx hb dX5_setRain_37 (by decide) ?_
        cases hf
        exact W.iret hx hb hr (fun u hu _ => ⟨⟨rfl, by rw [hu]; exact hW⟩, hS.F hu⟩) hS.2.2 dX5_setRain_38
  · have hf := ifp h3 hf
    refine lv_iconst (v := 1) hx hb dX5_setRain_8 (by decide) ?_
    refine lv_goto (tgt := 27) hx hb dX5_setRain_9 (by decide) ?_
    refine putX (k := 193) (q := (5, 0)) (ci := 5) (x := 1) inA5 tyX5_ok nmX5 rfl (by decide) rfl hx hb hta hown hE.1 hW hS sh_193 10 (by decide) q1191 rfl rfl rfl (Nat.le_of_ble_eq_true rfl) rfl dX5_setRain_27 (fun H locs hW hS => ?_)
    obtain ⟨σ4, e5, hf⟩ := st_e hf
    rw [e5] at hW
    refine lv_aload_n hx hb dX5_setRain_30 rfl (lv_at hl 0 rfl) ?_
    refine getM hx hb hta hown hE.1 hW 10 (by decide) q1191 rfl dX5_setRain_31 ?_
    refine lv_if_le (tgt := 39) hx hb dX5_setRain_34 (by decide) (fun h6 => ?_) (fun h6 => ?_)
    · have hf := ifp h6 hf
      refine lv_aload_n hx hb dX5_setRain_39 rfl (lv_at hl 0 rfl) ?_
      refine lv_aload_n hx hb dX5_setRain_40 rfl (lv_at hl 0 rfl) ?_
      refine getM hx hb hta hown hE.1 hW 0 (by decide) q1181 rfl dX5_setRain_41 ?_
      obtain ⟨σ9, u8, hf⟩ := b1_e hf
      refine mV (k := 193) (q := (5, 0)) (C := RX5) (T := TX5) (N := 14) (ci := 5) (n := 1) (As := [.ref (b + 194)]) (rest := []) (c_X5_saves l D t b 194 1785 σ4 σ9 sh_194 u8) sh_193 (by decide) rfl rfl hx hb hml hown hts hE hW hS q1256 q1258 q36 q96 q1259 hy_X5_saves ⟨rfl, rfl⟩ ⟨Nat.le_of_ble_eq_true rfl, Nat.le_of_ble_eq_true rfl⟩ rfl rfl hl.1 (Nat.le_of_ble_eq_true rfl) ⟨Nat.zero_le _, Nat.zero_le _⟩ dX5_setRain_44 (fun H locs hW hS => ?_)
      refine lv_aload_n hx hb dX5_setRain_47 rfl (lv_at hl 0 rfl) ?_
      refine lv_iload_n hx hb dX5_setRain_48 rfl (lv_at hl 1 rfl) ?_
      refine lv_iload_n hx hb dX5_setRain_49 rfl (lv_at hl 2 rfl) ?_
      obtain ⟨y10, σ12, u11, hf⟩ := b2_e hf
      refine mV (k := 193) (q := (5, 0)) (C := RX5) (T := TX5) (N := 14) (ci := 5) (n := 2) (As := [.int p1, .int p2]) (rest := []) (c_X5_rains l D t b σ9 p1 p2 y10 σ12 u11) sh_193 (by decide) rfl rfl hx hb hml hown hts hE hW hS q1372 q1374 q54 q96 q1375 hy_X5_rains ⟨rfl, rfl⟩ ⟨Nat.le_of_ble_eq_true rfl, Nat.le_of_ble_eq_true rfl⟩ rfl rfl hl.1 (Nat.le_of_ble_eq_true rfl) ⟨Nat.zero_le _, Nat.zero_le _⟩ dX5_setRain_50 (fun H locs hW hS => ?_)
      cases hf
      exact W.iret hx hb hr (fun u hu _ => ⟨⟨rfl, by rw [hu]; exact hW⟩, hS.F hu⟩) hS.2.2 dX5_setRain_53
    · have hf := ifn h6 hf
      refine lv_iconst (v := 0) hx hb dX5_setRain_37 (by decide) ?_
      cases hf
      exact W.iret hx hb hr (fun u hu _ => ⟨⟨rfl, by rw [hu]; exact hW⟩, hS.F hu⟩) hS.2.2 dX5_setRain_38
def f_X5_pass (σ : Sg) (p1 : Int32) : Option (Int32 × Sg) := b1 (f_X5_in σ p1 1 40) fun y1 => if y1 = 0 then (st (u2 σ 193 10 1) fun σ4 => if (σ4 193 10) ≤ 0 then (b1 (f_X5_saves 194 1785 σ4) fun σ9 => b2 (f_X5_passes σ9 p1) fun y10 σ12 => some (y10, σ12)) else (some (0, σ4))) else (b1 (f_X5_canPass σ p1) fun y13 => if y13 = 0 then (st (u2 σ 193 10 2) fun σ16 => if (σ16 193 10) ≤ 0 then (b1 (f_X5_saves 194 1785 σ16) fun σ21 => b2 (f_X5_passes σ21 p1) fun y22 σ24 => some (y22, σ24)) else (some (0, σ16))) else (st (u2 σ 193 10 0) fun σ25 => if (σ25 193 10) ≤ 0 then (b1 (f_X5_saves 194 1785 σ25) fun σ30 => b2 (f_X5_passes σ30 p1) fun y31 σ33 => some (y31, σ33)) else (some (0, σ25))))
set_option maxHeartbeats 4000000 in
set_option maxRecDepth 100000 in
theorem c_X5_pass (l : Launch) (D : va_G) (t : Nat → ClassId) (b : Nat) (σ : Sg) (p1 : Int32) (r : Int32) (σr : Sg) (hf : f_X5_pass σ p1 = some (r, σr)) : Met l yX5_pass (Cond.code yX5_pass cX5_pass 2 (some .int) :: ALL) ({ frames := 8, cells := 0, slots := 0, locals := 181 }) (PM D t b σ [.ref (b + 193), .int p1]) (QG D t b σr (some (.int r))) 0 0 (geA b) := by
  refine Met.ofW (cc := cX5_pass) (maxL := 2) (ret := (some .int)) (by decide) rfl ?_
  intro p e s m args below meth c s₁ B hml hv
  obtain ⟨rfl, hW, hE⟩ := hv
  have hx := B.exec
  have hb := B.bytes
  have hr := B.returns
  have hts := atoms_spec (ws := Cond.code yX5_pass cX5_pass 2 (some .int) :: ALL) B.pre
  have hta := fun w h => hts w (List.mem_cons_of_mem _ h)
  have hown : s.vm.findClass RX5 = some m.cls := findClass_of_methodNamed B.named
  have hlocks := B.notSynchronized
  have hS : va_S (geA b) s.heap s.heap [] := va_S.rf
  have hl := lv_entry ([.ref (b + 193), .int p1]) (n := 2) (Nat.le_of_ble_eq_true rfl)
  rw [lg_entry_eq]
  generalize (lg_sl ([.ref (b + 193), .int p1]) ++ List.replicate (2 - (lg_sl ([.ref (b + 193), .int p1])).length) Slot.unset).toArray = ls at hl ⊢
  have hl : lv_has ls 2 [(0, .ref (b + 193)), (1, .int p1)] := hl
  unfold f_X5_pass at hf
  refine lv_aload_n hx hb dX5_pass_0 rfl (lv_at hl 0 rfl) ?_
  refine lv_iload_n hx hb dX5_pass_1 rfl (lv_at hl 1 rfl) ?_
  refine lv_iconst (v := 1) hx hb dX5_pass_2 (by decide) ?_
  refine lv_bipush (v := 40) hx hb dX5_pass_3 (by decide) ?_
  obtain ⟨y1, u2, hf⟩ := b1_e hf
  refine mS (n := 3) (As := [.int p1, .int 1, .int 40]) (rest := [.ref (b + 193)]) (c_X5_in l D t b σ p1 1 40 y1 u2) hx hb hml hown hts hE hW hS q1239 q1240 q96 q1241 hs_X5_in ⟨rfl, rfl⟩ ⟨Nat.le_of_ble_eq_true rfl, Nat.le_of_ble_eq_true rfl⟩ rfl rfl hl.1 (Nat.le_of_ble_eq_true rfl) ⟨Nat.zero_le _, Nat.zero_le _⟩ dX5_pass_5 (fun H locs hW hS => ?_)
  refine lv_if_ne (tgt := 15) hx hb dX5_pass_8 (by decide) (fun h3 => ?_) (fun h3 => ?_)
  · have hf := ifn h3 hf
    refine lv_aload_n hx hb dX5_pass_15 rfl (lv_at hl 0 rfl) ?_
    refine lv_iload_n hx hb dX5_pass_16 rfl (lv_at hl 1 rfl) ?_
    obtain ⟨y13, u14, hf⟩ := b1_e hf
    refine mV (k := 193) (q := (5, 0)) (C := RX5) (T := TX5) (N := 14) (ci := 5) (n := 1) (As := [.int p1]) (rest := [.ref (b + 193)]) (c_X5_canPass l D t b σ p1 y13 u14) sh_193 (by decide) rfl rfl hx hb hml hown hts hE hW hS q1380 q1382 q55 q96 q1383 hy_X5_canPass ⟨rfl, rfl⟩ ⟨Nat.le_of_ble_eq_true rfl, Nat.le_of_ble_eq_true rfl⟩ rfl rfl hl.1 (Nat.le_of_ble_eq_true rfl) ⟨Nat.zero_le _, Nat.zero_le _⟩ dX5_pass_17 (fun H locs hW hS => ?_)
    refine lv_if_eq (tgt := 27) hx hb dX5_pass_20 (by decide) (fun h15 => ?_) (fun h15 => ?_)
    · have hf := ifp h15 hf
      refine lv_iconst (v := 2) hx hb dX5_pass_27 (by decide) ?_
      refine putX (k := 193) (q := (5, 0)) (ci := 5) (x := 2) inA5 tyX5_ok nmX5 rfl (by decide) rfl hx hb hta hown hE.1 hW hS sh_193 10 (by decide) q1191 rfl rfl rfl (Nat.le_of_ble_eq_true rfl) rfl dX5_pass_28 (fun H locs hW hS => ?_)
      obtain ⟨σ16, e17, hf⟩ := st_e hf
      rw [e17] at hW
      refine lv_aload_n hx hb dX5_pass_31 rfl (lv_at hl 0 rfl) ?_
      refine getM hx hb hta hown hE.1 hW 10 (by decide) q1191 rfl dX5_pass_32 ?_
      refine lv_if_le (tgt := 40) hx hb dX5_pass_35 (by decide) (fun h18 => ?_) (fun h18 => ?_)
      · have hf := ifp h18 hf
        refine lv_aload_n hx hb dX5_pass_40 rfl (lv_at hl 0 rfl) ?_
        refine lv_aload_n hx hb dX5_pass_41 rfl (lv_at hl 0 rfl) ?_
        refine getM hx hb hta hown hE.1 hW 0 (by decide) q1181 rfl dX5_pass_42 ?_
        obtain ⟨σ21, u20, hf⟩ := b1_e hf
        refine mV (k := 193) (q := (5, 0)) (C := RX5) (T := TX5) (N := 14) (ci := 5) (n := 1) (As := [.ref (b + 194)]) (rest := []) (c_X5_saves l D t b 194 1785 σ16 σ21 sh_194 u20) sh_193 (by decide) rfl rfl hx hb hml hown hts hE hW hS q1256 q1258 q36 q96 q1259 hy_X5_saves ⟨rfl, rfl⟩ ⟨Nat.le_of_ble_eq_true rfl, Nat.le_of_ble_eq_true rfl⟩ rfl rfl hl.1 (Nat.le_of_ble_eq_true rfl) ⟨Nat.zero_le _, Nat.zero_le _⟩ dX5_pass_45 (fun H locs hW hS => ?_)
        refine lv_aload_n hx hb dX5_pass_48 rfl (lv_at hl 0 rfl) ?_
        refine lv_iload_n hx hb dX5_pass_49 rfl (lv_at hl 1 rfl) ?_
        obtain ⟨y22, σ24, u23, hf⟩ := b2_e hf
        refine mV (k := 193) (q := (5, 0)) (C := RX5) (T := TX5) (N := 14) (ci := 5) (n := 1) (As := [.int p1]) (rest := []) (c_X5_passes l D t b σ21 p1 y22 σ24 u23) sh_193 (by decide) rfl rfl hx hb hml hown hts hE hW hS q1384 q1386 q56 q96 q1387 hy_X5_passes ⟨rfl, rfl⟩ ⟨Nat.le_of_ble_eq_true rfl, Nat.le_of_ble_eq_true rfl⟩ rfl rfl hl.1 (Nat.le_of_ble_eq_true rfl) ⟨Nat.zero_le _, Nat.zero_le _⟩ dX5_pass_50 (fun H locs hW hS => ?_)
        cases hf
        exact W.iret hx hb hr (fun u hu _ => ⟨⟨rfl, by rw [hu]; exact hW⟩, hS.F hu⟩) hS.2.2 dX5_pass_53
      · have hf := ifn h18 hf
        refine lv_iconst (v := 0) hx hb dX5_pass_38 (by decide) ?_
        cases hf
        exact W.iret hx hb hr (fun u hu _ => ⟨⟨rfl, by rw [hu]; exact hW⟩, hS.F hu⟩) hS.2.2 dX5_pass_39
    · have hf := ifn h15 hf
      refine lv_iconst (v := 0) hx hb dX5_pass_23 (by decide) ?_
      refine lv_goto (tgt := 28) hx hb dX5_pass_24 (by decide) ?_
      refine putX (k := 193) (q := (5, 0)) (ci := 5) (x := 0) inA5 tyX5_ok nmX5 rfl (by decide) rfl hx hb hta hown hE.1 hW hS sh_193 10 (by decide) q1191 rfl rfl rfl (Nat.le_of_ble_eq_true rfl) rfl dX5_pass_28 (fun H locs hW hS => ?_)
      obtain ⟨σ25, e26, hf⟩ := st_e hf
      rw [e26] at hW
      refine lv_aload_n hx hb dX5_pass_31 rfl (lv_at hl 0 rfl) ?_
      refine getM hx hb hta hown hE.1 hW 10 (by decide) q1191 rfl dX5_pass_32 ?_
      refine lv_if_le (tgt := 40) hx hb dX5_pass_35 (by decide) (fun h27 => ?_) (fun h27 => ?_)
      · have hf := ifp h27 hf
        refine lv_aload_n hx hb dX5_pass_40 rfl (lv_at hl 0 rfl) ?_
        refine lv_aload_n hx hb dX5_pass_41 rfl (lv_at hl 0 rfl) ?_
        refine getM hx hb hta hown hE.1 hW 0 (by decide) q1181 rfl dX5_pass_42 ?_
        obtain ⟨σ30, u29, hf⟩ := b1_e hf
        refine mV (k := 193) (q := (5, 0)) (C := RX5) (T := TX5) (N := 14) (ci := 5) (n := 1) (As := [.ref (b + 194)]) (rest := []) (c_X5_saves l D t b 194 1785 σ25 σ30 sh_194 u29) sh_193 (by decide) rfl rfl hx hb hml hown hts hE hW hS q1256 q1258 q36 q96 q1259 hy_X5_saves ⟨rfl, rfl⟩ ⟨Nat.le_of_ble_eq_true rfl, Nat.le_of_ble_eq_true rfl⟩ rfl rfl hl.1 (Nat.le_of_ble_eq_true rfl) ⟨Nat.zero_le _, Nat.zero_le _⟩ dX5_pass_45 (fun H locs hW hS => ?_)
        refine lv_aload_n hx hb dX5_pass_48 rfl (lv_at hl 0 rfl) ?_
        refine lv_iload_n hx hb dX5_pass_49 rfl (lv_at hl 1 rfl) ?_
        obtain ⟨y31, σ33, u32, hf⟩ := b2_e hf
        refine mV (k := 193) (q := (5, 0)) (C := RX5) (T := TX5) (N := 14) (ci := 5) (n := 1) (As := [.int p1]) (rest := []) (c_X5_passes l D t b σ30 p1 y31 σ33 u32) sh_193 (by decide) rfl rfl hx hb hml hown hts hE hW hS q1384 q1386 q56 q96 q1387 hy_X5_passes ⟨rfl, rfl⟩ ⟨Nat.le_of_ble_eq_true rfl, Nat.le_of_ble_eq_true rfl⟩ rfl rfl hl.1 (Nat.le_of_ble_eq_true rfl) ⟨Nat.zero_le _, Nat.zero_le _⟩ dX5_pass_50 (fun H locs hW hS => ?_)
        cases hf
        exact W.iret hx hb hr (fun u hu _ => ⟨⟨rfl, by rw [hu]; exact hW⟩, hS.F hu⟩) hS.2.2 dX5_pass_53
      · have hf := ifn h27 hf
        refine lv_iconst (v := 0) hx hb dX5_pass_38 (by decide) ?_
        cases hf
        exact W.iret hx hb hr (fun u hu _ => ⟨⟨rfl, by rw [hu]; exact hW⟩, hS.F hu⟩) hS.2.2 dX5_pass_39
  · have hf := ifp h3 hf
    refine lv_iconst (v := 1) hx hb dX5_pass_11 (by decide) ?_
    refine lv_goto (tgt := 28) hx hb dX5_pass_12 (by decide) ?_
    refine putX (k := 193) (q := (5, 0)) (ci := 5) (x := 1) inA5 tyX5_ok nmX5 rfl (by decide) rfl hx hb hta hown hE.1 hW hS sh_193 10 (by decide) q1191 rfl rfl rfl (Nat.le_of_ble_eq_true rfl) rfl dX5_pass_28 (fun H locs hW hS => ?_)
    obtain ⟨σ4, e5, hf⟩ := st_e hf
    rw [e5] at hW
    refine lv_aload_n hx hb dX5_pass_31 rfl (lv_at hl 0 rfl) ?_
    refine getM hx hb hta hown hE.1 hW 10 (by decide) q1191 rfl dX5_pass_32 ?_
    refine lv_if_le (tgt := 40) hx hb dX5_pass_35 (by decide) (fun h6 => ?_) (fun h6 => ?_)
    · have hf := ifp h6 hf
      refine lv_aload_n hx hb dX5_pass_40 rfl (lv_at hl 0 rfl) ?_
      refine lv_aload_n hx hb dX5_pass_41 rfl (lv_at hl 0 rfl) ?_
      refine getM hx hb hta hown hE.1 hW 0 (by decide) q1181 rfl dX5_pass_42 ?_
      obtain ⟨σ9, u8, hf⟩ := b1_e hf
      refine mV (k := 193) (q := (5, 0)) (C := RX5) (T := TX5) (N := 14) (ci := 5) (n := 1) (As := [.ref (b + 194)]) (rest := []) (c_X5_saves l D t b 194 1785 σ4 σ9 sh_194 u8) sh_193 (by decide) rfl rfl hx hb hml hown hts hE hW hS q1256 q1258 q36 q96 q1259 hy_X5_saves ⟨rfl, rfl⟩ ⟨Nat.le_of_ble_eq_true rfl, Nat.le_of_ble_eq_true rfl⟩ rfl rfl hl.1 (Nat.le_of_ble_eq_true rfl) ⟨Nat.zero_le _, Nat.zero_le _⟩ dX5_pass_45 (fun H locs hW hS => ?_)
      refine lv_aload_n hx hb dX5_pass_48 rfl (lv_at hl 0 rfl) ?_
      refine lv_iload_n hx hb dX5_pass_49 rfl (lv_at hl 1 rfl) ?_
      obtain ⟨y10, σ12, u11, hf⟩ := b2_e hf
      refine mV (k := 193) (q := (5, 0)) (C := RX5) (T := TX5) (N := 14) (ci := 5) (n := 1) (As := [.int p1]) (rest := []) (c_X5_passes l D t b σ9 p1 y10 σ12 u11) sh_193 (by decide) rfl rfl hx hb hml hown hts hE hW hS q1384 q1386 q56 q96 q1387 hy_X5_passes ⟨rfl, rfl⟩ ⟨Nat.le_of_ble_eq_true rfl, Nat.le_of_ble_eq_true rfl⟩ rfl rfl hl.1 (Nat.le_of_ble_eq_true rfl) ⟨Nat.zero_le _, Nat.zero_le _⟩ dX5_pass_50 (fun H locs hW hS => ?_)
      cases hf
      exact W.iret hx hb hr (fun u hu _ => ⟨⟨rfl, by rw [hu]; exact hW⟩, hS.F hu⟩) hS.2.2 dX5_pass_53
    · have hf := ifn h6 hf
      refine lv_iconst (v := 0) hx hb dX5_pass_38 (by decide) ?_
      cases hf
      exact W.iret hx hb hr (fun u hu _ => ⟨⟨rfl, by rw [hu]; exact hW⟩, hS.F hu⟩) hS.2.2 dX5_pass_39
def f_X5_type (σ : Sg) (p1 : Int32) : Option (Int32 × Sg) := if (σ 193 9) = 80 then (st (u2 σ 193 10 1) fun σ2 => if (σ2 193 10) ≤ 0 then (gd (σ2 193 9) 80 (st (u2 σ2 200 ((σ2 193 9)).toNatClampNeg p1) fun σ6 => st (u2 σ6 193 9 ((σ6 193 9) + 1)) fun σ8 => some ((σ8 193 9), σ8))) else (some (0, σ2))) else (st (u2 σ 193 10 0) fun σ10 => if (σ10 193 10) ≤ 0 then (gd (σ10 193 9) 80 (st (u2 σ10 200 ((σ10 193 9)).toNatClampNeg p1) fun σ14 => st (u2 σ14 193 9 ((σ14 193 9) + 1)) fun σ16 => some ((σ16 193 9), σ16))) else (some (0, σ10)))
set_option maxHeartbeats 4000000 in
set_option maxRecDepth 100000 in
theorem c_X5_type (l : Launch) (D : va_G) (t : Nat → ClassId) (b : Nat) (σ : Sg) (p1 : Int32) (r : Int32) (σr : Sg) (hf : f_X5_type σ p1 = some (r, σr)) : Met l yX5_type (Cond.code yX5_type cX5_type 2 (some .int) :: ALL) ({ frames := 0, cells := 0, slots := 0, locals := 0 }) (PM D t b σ [.ref (b + 193), .int p1]) (QG D t b σr (some (.int r))) 0 0 (geA b) := by
  refine Met.ofW (cc := cX5_type) (maxL := 2) (ret := (some .int)) (by decide) rfl ?_
  intro p e s m args below meth c s₁ B hml hv
  obtain ⟨rfl, hW, hE⟩ := hv
  have hx := B.exec
  have hb := B.bytes
  have hr := B.returns
  have hts := atoms_spec (ws := Cond.code yX5_type cX5_type 2 (some .int) :: ALL) B.pre
  have hta := fun w h => hts w (List.mem_cons_of_mem _ h)
  have hown : s.vm.findClass RX5 = some m.cls := findClass_of_methodNamed B.named
  have hlocks := B.notSynchronized
  have hS : va_S (geA b) s.heap s.heap [] := va_S.rf
  have hl := lv_entry ([.ref (b + 193), .int p1]) (n := 2) (Nat.le_of_ble_eq_true rfl)
  rw [lg_entry_eq]
  generalize (lg_sl ([.ref (b + 193), .int p1]) ++ List.replicate (2 - (lg_sl ([.ref (b + 193), .int p1])).length) Slot.unset).toArray = ls at hl ⊢
  have hl : lv_has ls 2 [(0, .ref (b + 193)), (1, .int p1)] := hl
  unfold f_X5_type at hf
  refine lv_aload_n hx hb dX5_type_0 rfl (lv_at hl 0 rfl) ?_
  refine lv_aload_n hx hb dX5_type_1 rfl (lv_at hl 0 rfl) ?_
  refine getM hx hb hta hown hE.1 hW 9 (by decide) q1190 rfl dX5_type_2 ?_
  refine lv_bipush (v := 80) hx hb dX5_type_5 (by decide) ?_
  refine lv_icmp_ne (tgt := 14) hx hb dX5_type_7 (by decide) (fun h1 => ?_) (fun h1 => ?_)
  · have hf := ifn h1 hf
    refine lv_iconst (v := 0) hx hb dX5_type_14 (by decide) ?_
    refine putX (k := 193) (q := (5, 0)) (ci := 5) (x := 0) inA5 tyX5_ok nmX5 rfl (by decide) rfl hx hb hta hown hE.1 hW hS sh_193 10 (by decide) q1191 rfl rfl rfl (Nat.le_of_ble_eq_true rfl) rfl dX5_type_15 (fun H locs hW hS => ?_)
    obtain ⟨σ10, e11, hf⟩ := st_e hf
    rw [e11] at hW
    refine lv_aload_n hx hb dX5_type_18 rfl (lv_at hl 0 rfl) ?_
    refine getM hx hb hta hown hE.1 hW 10 (by decide) q1191 rfl dX5_type_19 ?_
    refine lv_if_le (tgt := 27) hx hb dX5_type_22 (by decide) (fun h12 => ?_) (fun h12 => ?_)
    · have hf := ifp h12 hf
      refine lv_aload_n hx hb dX5_type_27 rfl (lv_at hl 0 rfl) ?_
      refine getM hx hb hta hown hE.1 hW 8 (by decide) q1189 rfl dX5_type_28 ?_
      refine lv_aload_n hx hb dX5_type_31 rfl (lv_at hl 0 rfl) ?_
      refine getM hx hb hta hown hE.1 hW 9 (by decide) q1190 rfl dX5_type_32 ?_
      refine lv_iload_n hx hb dX5_type_35 rfl (lv_at hl 1 rfl) ?_
      obtain ⟨g13, hf⟩ := gd_e hf
      refine iast (k := 200) (i := (σ10 193 9)) (x := p1) hx hb hE.1 hW hS sh_200 g13 dX5_type_36 (fun H locs hW hS => ?_)
      obtain ⟨σ14, e15, hf⟩ := st_e hf
      rw [e15] at hW
      refine lv_aload_n hx hb dX5_type_37 rfl (lv_at hl 0 rfl) ?_
      refine lv_dup hx hb dX5_type_38 rfl ?_
      refine getM hx hb hta hown hE.1 hW 9 (by decide) q1190 rfl dX5_type_39 ?_
      refine lv_iconst (v := 1) hx hb dX5_type_42 (by decide) ?_
      refine lv_iadd hx hb dX5_type_43 ?_
      refine putX (k := 193) (q := (5, 0)) (ci := 5) (x := ((σ14 193 9) + 1)) inA5 tyX5_ok nmX5 rfl (by decide) rfl hx hb hta hown hE.1 hW hS sh_193 9 (by decide) q1190 rfl rfl rfl (Nat.le_of_ble_eq_true rfl) rfl dX5_type_44 (fun H locs hW hS => ?_)
      obtain ⟨σ16, e17, hf⟩ := st_e hf
      rw [e17] at hW
      refine lv_aload_n hx hb dX5_type_47 rfl (lv_at hl 0 rfl) ?_
      refine getM hx hb hta hown hE.1 hW 9 (by decide) q1190 rfl dX5_type_48 ?_
      cases hf
      exact W.iret hx hb hr (fun u hu _ => ⟨⟨rfl, by rw [hu]; exact hW⟩, hS.F hu⟩) hS.2.2 dX5_type_51
    · have hf := ifn h12 hf
      refine lv_iconst (v := 0) hx hb dX5_type_25 (by decide) ?_
      cases hf
      exact W.iret hx hb hr (fun u hu _ => ⟨⟨rfl, by rw [hu]; exact hW⟩, hS.F hu⟩) hS.2.2 dX5_type_26
  · have hf := ifp h1 hf
    refine lv_iconst (v := 1) hx hb dX5_type_10 (by decide) ?_
    refine lv_goto (tgt := 15) hx hb dX5_type_11 (by decide) ?_
    refine putX (k := 193) (q := (5, 0)) (ci := 5) (x := 1) inA5 tyX5_ok nmX5 rfl (by decide) rfl hx hb hta hown hE.1 hW hS sh_193 10 (by decide) q1191 rfl rfl rfl (Nat.le_of_ble_eq_true rfl) rfl dX5_type_15 (fun H locs hW hS => ?_)
    obtain ⟨σ2, e3, hf⟩ := st_e hf
    rw [e3] at hW
    refine lv_aload_n hx hb dX5_type_18 rfl (lv_at hl 0 rfl) ?_
    refine getM hx hb hta hown hE.1 hW 10 (by decide) q1191 rfl dX5_type_19 ?_
    refine lv_if_le (tgt := 27) hx hb dX5_type_22 (by decide) (fun h4 => ?_) (fun h4 => ?_)
    · have hf := ifp h4 hf
      refine lv_aload_n hx hb dX5_type_27 rfl (lv_at hl 0 rfl) ?_
      refine getM hx hb hta hown hE.1 hW 8 (by decide) q1189 rfl dX5_type_28 ?_
      refine lv_aload_n hx hb dX5_type_31 rfl (lv_at hl 0 rfl) ?_
      refine getM hx hb hta hown hE.1 hW 9 (by decide) q1190 rfl dX5_type_32 ?_
      refine lv_iload_n hx hb dX5_type_35 rfl (lv_at hl 1 rfl) ?_
      obtain ⟨g5, hf⟩ := gd_e hf
      refine iast (k := 200) (i := (σ2 193 9)) (x := p1) hx hb hE.1 hW hS sh_200 g5 dX5_type_36 (fun H locs hW hS => ?_)
      obtain ⟨σ6, e7, hf⟩ := st_e hf
      rw [e7] at hW
      refine lv_aload_n hx hb dX5_type_37 rfl (lv_at hl 0 rfl) ?_
      refine lv_dup hx hb dX5_type_38 rfl ?_
      refine getM hx hb hta hown hE.1 hW 9 (by decide) q1190 rfl dX5_type_39 ?_
      refine lv_iconst (v := 1) hx hb dX5_type_42 (by decide) ?_
      refine lv_iadd hx hb dX5_type_43 ?_
      refine putX (k := 193) (q := (5, 0)) (ci := 5) (x := ((σ6 193 9) + 1)) inA5 tyX5_ok nmX5 rfl (by decide) rfl hx hb hta hown hE.1 hW hS sh_193 9 (by decide) q1190 rfl rfl rfl (Nat.le_of_ble_eq_true rfl) rfl dX5_type_44 (fun H locs hW hS => ?_)
      obtain ⟨σ8, e9, hf⟩ := st_e hf
      rw [e9] at hW
      refine lv_aload_n hx hb dX5_type_47 rfl (lv_at hl 0 rfl) ?_
      refine getM hx hb hta hown hE.1 hW 9 (by decide) q1190 rfl dX5_type_48 ?_
      cases hf
      exact W.iret hx hb hr (fun u hu _ => ⟨⟨rfl, by rw [hu]; exact hW⟩, hS.F hu⟩) hS.2.2 dX5_type_51
    · have hf := ifn h4 hf
      refine lv_iconst (v := 0) hx hb dX5_type_25 (by decide) ?_
      cases hf
      exact W.iret hx hb hr (fun u hu _ => ⟨⟨rfl, by rw [hu]; exact hW⟩, hS.F hu⟩) hS.2.2 dX5_type_26
def f_X5_clearText (σ : Sg) : Option (Int32 × Sg) := st (u2 σ 193 10 0) fun σ1 => st (u2 σ1 193 9 0) fun σ3 => some ((σ1 193 9), σ3)
set_option maxHeartbeats 4000000 in
set_option maxRecDepth 100000 in
theorem c_X5_clearText (l : Launch) (D : va_G) (t : Nat → ClassId) (b : Nat) (σ : Sg) (r : Int32) (σr : Sg) (hf : f_X5_clearText σ = some (r, σr)) : Met l yX5_clearText (Cond.code yX5_clearText cX5_clearText 2 (some .int) :: ALL) ({ frames := 0, cells := 0, slots := 0, locals := 0 }) (PM D t b σ [.ref (b + 193)]) (QG D t b σr (some (.int r))) 0 0 (geA b) := by
  refine Met.ofW (cc := cX5_clearText) (maxL := 2) (ret := (some .int)) (by decide) rfl ?_
  intro p e s m args below meth c s₁ B hml hv
  obtain ⟨rfl, hW, hE⟩ := hv
  have hx := B.exec
  have hb := B.bytes
  have hr := B.returns
  have hts := atoms_spec (ws := Cond.code yX5_clearText cX5_clearText 2 (some .int) :: ALL) B.pre
  have hta := fun w h => hts w (List.mem_cons_of_mem _ h)
  have hown : s.vm.findClass RX5 = some m.cls := findClass_of_methodNamed B.named
  have hlocks := B.notSynchronized
  have hS : va_S (geA b) s.heap s.heap [] := va_S.rf
  have hl := lv_entry ([.ref (b + 193)]) (n := 2) (Nat.le_of_ble_eq_true rfl)
  rw [lg_entry_eq]
  generalize (lg_sl ([.ref (b + 193)]) ++ List.replicate (2 - (lg_sl ([.ref (b + 193)])).length) Slot.unset).toArray = ls at hl ⊢
  have hl : lv_has ls 2 [(0, .ref (b + 193))] := hl
  unfold f_X5_clearText at hf
  refine lv_aload_n hx hb dX5_clearText_0 rfl (lv_at hl 0 rfl) ?_
  refine lv_iconst (v := 0) hx hb dX5_clearText_1 (by decide) ?_
  refine putX (k := 193) (q := (5, 0)) (ci := 5) (x := 0) inA5 tyX5_ok nmX5 rfl (by decide) rfl hx hb hta hown hE.1 hW hS sh_193 10 (by decide) q1191 rfl rfl rfl (Nat.le_of_ble_eq_true rfl) rfl dX5_clearText_2 (fun H locs hW hS => ?_)
  obtain ⟨σ1, e2, hf⟩ := st_e hf
  rw [e2] at hW
  refine lv_aload_n hx hb dX5_clearText_5 rfl (lv_at hl 0 rfl) ?_
  refine getM hx hb hta hown hE.1 hW 9 (by decide) q1190 rfl dX5_clearText_6 ?_
  refine lv_istore_n (lv' := [(1, .int (σ1 193 9)), (0, .ref (b + 193))]) hx hb dX5_clearText_9 rfl hl (by decide) rfl (fun ls hl => ?_)
  refine lv_aload_n hx hb dX5_clearText_10 rfl (lv_at hl 1 rfl) ?_
  refine lv_iconst (v := 0) hx hb dX5_clearText_11 (by decide) ?_
  refine putX (k := 193) (q := (5, 0)) (ci := 5) (x := 0) inA5 tyX5_ok nmX5 rfl (by decide) rfl hx hb hta hown hE.1 hW hS sh_193 9 (by decide) q1190 rfl rfl rfl (Nat.le_of_ble_eq_true rfl) rfl dX5_clearText_12 (fun H locs hW hS => ?_)
  obtain ⟨σ3, e4, hf⟩ := st_e hf
  rw [e4] at hW
  refine lv_iload_n hx hb dX5_clearText_15 rfl (lv_at hl 0 rfl) ?_
  cases hf
  exact W.iret hx hb hr (fun u hu _ => ⟨⟨rfl, by rw [hu]; exact hW⟩, hS.F hu⟩) hS.2.2 dX5_clearText_16
def f_X5_takes (σ : Sg) (p1 : Int32) : Option (Int32 × Sg) := if (σ 193 9) ≤ (σ 193 11) then (st (u2 σ 193 11 ((σ 193 11) + 0)) fun σ3 => some (0, σ3)) else (gd (σ 193 11) 80 (if (σ 200 ((σ 193 11)).toNatClampNeg) = p1 then (st (u2 σ 193 11 ((σ 193 11) + 1)) fun σ8 => some (1, σ8)) else (st (u2 σ 193 11 ((σ 193 11) + 0)) fun σ11 => some (0, σ11))))
set_option maxHeartbeats 4000000 in
set_option maxRecDepth 100000 in
theorem c_X5_takes (l : Launch) (D : va_G) (t : Nat → ClassId) (b : Nat) (σ : Sg) (p1 : Int32) (r : Int32) (σr : Sg) (hf : f_X5_takes σ p1 = some (r, σr)) : Met l yX5_takes (Cond.code yX5_takes cX5_takes 3 (some .boolean) :: ALL) ({ frames := 0, cells := 0, slots := 0, locals := 0 }) (PM D t b σ [.ref (b + 193), .int p1]) (QG D t b σr (some (.int r))) 0 0 (geA b) := by
  refine Met.ofW (cc := cX5_takes) (maxL := 3) (ret := (some .boolean)) (by decide) rfl ?_
  intro p e s m args below meth c s₁ B hml hv
  obtain ⟨rfl, hW, hE⟩ := hv
  have hx := B.exec
  have hb := B.bytes
  have hr := B.returns
  have hts := atoms_spec (ws := Cond.code yX5_takes cX5_takes 3 (some .boolean) :: ALL) B.pre
  have hta := fun w h => hts w (List.mem_cons_of_mem _ h)
  have hown : s.vm.findClass RX5 = some m.cls := findClass_of_methodNamed B.named
  have hlocks := B.notSynchronized
  have hS : va_S (geA b) s.heap s.heap [] := va_S.rf
  have hl := lv_entry ([.ref (b + 193), .int p1]) (n := 3) (Nat.le_of_ble_eq_true rfl)
  rw [lg_entry_eq]
  generalize (lg_sl ([.ref (b + 193), .int p1]) ++ List.replicate (3 - (lg_sl ([.ref (b + 193), .int p1])).length) Slot.unset).toArray = ls at hl ⊢
  have hl : lv_has ls 3 [(0, .ref (b + 193)), (1, .int p1)] := hl
  unfold f_X5_takes at hf
  refine lv_aload_n hx hb dX5_takes_0 rfl (lv_at hl 0 rfl) ?_
  refine getM hx hb hta hown hE.1 hW 11 (by decide) q1192 rfl dX5_takes_1 ?_
  refine lv_aload_n hx hb dX5_takes_4 rfl (lv_at hl 0 rfl) ?_
  refine getM hx hb hta hown hE.1 hW 9 (by decide) q1190 rfl dX5_takes_5 ?_
  refine lv_icmp_ge (tgt := 28) hx hb dX5_takes_8 (by decide) (fun h1 => ?_) (fun h1 => ?_)
  · have hf := ifp h1 hf
    refine lv_iconst (v := 0) hx hb dX5_takes_28 (by decide) ?_
    refine lv_istore_n (lv' := [(2, .int 0), (0, .ref (b + 193)), (1, .int p1)]) hx hb dX5_takes_29 rfl hl (by decide) rfl (fun ls hl => ?_)
    refine lv_aload_n hx hb dX5_takes_30 rfl (lv_at hl 1 rfl) ?_
    refine lv_dup hx hb dX5_takes_31 rfl ?_
    refine getM hx hb hta hown hE.1 hW 11 (by decide) q1192 rfl dX5_takes_32 ?_
    refine lv_iload_n hx hb dX5_takes_35 rfl (lv_at hl 0 rfl) ?_
    refine lv_if_eq (tgt := 43) hx hb dX5_takes_36 (by decide) (fun h2 => ?_) (fun h2 => absurd h2 (by decide))
    refine lv_iconst (v := 0) hx hb dX5_takes_43 (by decide) ?_
    refine lv_iadd hx hb dX5_takes_44 ?_
    refine putX (k := 193) (q := (5, 0)) (ci := 5) (x := ((σ 193 11) + 0)) inA5 tyX5_ok nmX5 rfl (by decide) rfl hx hb hta hown hE.1 hW hS sh_193 11 (by decide) q1192 rfl rfl rfl (Nat.le_of_ble_eq_true rfl) rfl dX5_takes_45 (fun H locs hW hS => ?_)
    obtain ⟨σ3, e4, hf⟩ := st_e hf
    rw [e4] at hW
    refine lv_iload_n hx hb dX5_takes_48 rfl (lv_at hl 0 rfl) ?_
    cases hf
    exact W.zret (ty := .boolean) hx hb hr (by decide) (fun u hu _ => ⟨⟨rfl, by rw [hu]; exact hW⟩, hS.F hu⟩) hS.2.2 dX5_takes_49
  · have hf := ifn h1 hf
    refine lv_aload_n hx hb dX5_takes_11 rfl (lv_at hl 0 rfl) ?_
    refine getM hx hb hta hown hE.1 hW 8 (by decide) q1189 rfl dX5_takes_12 ?_
    refine lv_aload_n hx hb dX5_takes_15 rfl (lv_at hl 0 rfl) ?_
    refine getM hx hb hta hown hE.1 hW 11 (by decide) q1192 rfl dX5_takes_16 ?_
    obtain ⟨g5, hf⟩ := gd_e hf
    refine iald hx hb hE.1 hW sh_200 g5 dX5_takes_19 ?_
    refine lv_iload_n hx hb dX5_takes_20 rfl (lv_at hl 1 rfl) ?_
    refine lv_icmp_ne (tgt := 28) hx hb dX5_takes_21 (by decide) (fun h6 => ?_) (fun h6 => ?_)
    · have hf := ifn h6 hf
      refine lv_iconst (v := 0) hx hb dX5_takes_28 (by decide) ?_
      refine lv_istore_n (lv' := [(2, .int 0), (0, .ref (b + 193)), (1, .int p1)]) hx hb dX5_takes_29 rfl hl (by decide) rfl (fun ls hl => ?_)
      refine lv_aload_n hx hb dX5_takes_30 rfl (lv_at hl 1 rfl) ?_
      refine lv_dup hx hb dX5_takes_31 rfl ?_
      refine getM hx hb hta hown hE.1 hW 11 (by decide) q1192 rfl dX5_takes_32 ?_
      refine lv_iload_n hx hb dX5_takes_35 rfl (lv_at hl 0 rfl) ?_
      refine lv_if_eq (tgt := 43) hx hb dX5_takes_36 (by decide) (fun h10 => ?_) (fun h10 => absurd h10 (by decide))
      refine lv_iconst (v := 0) hx hb dX5_takes_43 (by decide) ?_
      refine lv_iadd hx hb dX5_takes_44 ?_
      refine putX (k := 193) (q := (5, 0)) (ci := 5) (x := ((σ 193 11) + 0)) inA5 tyX5_ok nmX5 rfl (by decide) rfl hx hb hta hown hE.1 hW hS sh_193 11 (by decide) q1192 rfl rfl rfl (Nat.le_of_ble_eq_true rfl) rfl dX5_takes_45 (fun H locs hW hS => ?_)
      obtain ⟨σ11, e12, hf⟩ := st_e hf
      rw [e12] at hW
      refine lv_iload_n hx hb dX5_takes_48 rfl (lv_at hl 0 rfl) ?_
      cases hf
      exact W.zret (ty := .boolean) hx hb hr (by decide) (fun u hu _ => ⟨⟨rfl, by rw [hu]; exact hW⟩, hS.F hu⟩) hS.2.2 dX5_takes_49
    · have hf := ifp h6 hf
      refine lv_iconst (v := 1) hx hb dX5_takes_24 (by decide) ?_
      refine lv_goto (tgt := 29) hx hb dX5_takes_25 (by decide) ?_
      refine lv_istore_n (lv' := [(2, .int 1), (0, .ref (b + 193)), (1, .int p1)]) hx hb dX5_takes_29 rfl hl (by decide) rfl (fun ls hl => ?_)
      refine lv_aload_n hx hb dX5_takes_30 rfl (lv_at hl 1 rfl) ?_
      refine lv_dup hx hb dX5_takes_31 rfl ?_
      refine getM hx hb hta hown hE.1 hW 11 (by decide) q1192 rfl dX5_takes_32 ?_
      refine lv_iload_n hx hb dX5_takes_35 rfl (lv_at hl 0 rfl) ?_
      refine lv_if_eq (tgt := 43) hx hb dX5_takes_36 (by decide) (fun h7 => absurd h7 (by decide)) (fun h7 => ?_)
      refine lv_iconst (v := 1) hx hb dX5_takes_39 (by decide) ?_
      refine lv_goto (tgt := 44) hx hb dX5_takes_40 (by decide) ?_
      refine lv_iadd hx hb dX5_takes_44 ?_
      refine putX (k := 193) (q := (5, 0)) (ci := 5) (x := ((σ 193 11) + 1)) inA5 tyX5_ok nmX5 rfl (by decide) rfl hx hb hta hown hE.1 hW hS sh_193 11 (by decide) q1192 rfl rfl rfl (Nat.le_of_ble_eq_true rfl) rfl dX5_takes_45 (fun H locs hW hS => ?_)
      obtain ⟨σ8, e9, hf⟩ := st_e hf
      rw [e9] at hW
      refine lv_iload_n hx hb dX5_takes_48 rfl (lv_at hl 0 rfl) ?_
      cases hf
      exact W.zret (ty := .boolean) hx hb hr (by decide) (fun u hu _ => ⟨⟨rfl, by rw [hu]; exact hW⟩, hS.F hu⟩) hS.2.2 dX5_takes_49
def f_X5_figure (σ : Sg) : Option Int32 := if (σ 193 9) ≤ (σ 193 11) then (some (-1)) else (gd (σ 193 11) 80 (b1 (f_X5_in σ (σ 200 ((σ 193 11)).toNatClampNeg) 48 57) fun y3 => if y3 = 0 then (some (-1)) else (some ((σ 200 ((σ 193 11)).toNatClampNeg) - 48))))
set_option maxHeartbeats 4000000 in
set_option maxRecDepth 100000 in
theorem c_X5_figure (l : Launch) (D : va_G) (t : Nat → ClassId) (b : Nat) (σ : Sg) (r : Int32) (hf : f_X5_figure σ = some r) : Met l yX5_figure (Cond.code yX5_figure cX5_figure 1 (some .int) :: ALL) ({ frames := 1, cells := 0, slots := 0, locals := 22 }) (PM D t b σ [.ref (b + 193)]) (QG D t b σ (some (.int r))) 0 0 (geA b) := by
  refine Met.ofW (cc := cX5_figure) (maxL := 1) (ret := (some .int)) (by decide) rfl ?_
  intro p e s m args below meth c s₁ B hml hv
  obtain ⟨rfl, hW, hE⟩ := hv
  have hx := B.exec
  have hb := B.bytes
  have hr := B.returns
  have hts := atoms_spec (ws := Cond.code yX5_figure cX5_figure 1 (some .int) :: ALL) B.pre
  have hta := fun w h => hts w (List.mem_cons_of_mem _ h)
  have hown : s.vm.findClass RX5 = some m.cls := findClass_of_methodNamed B.named
  have hlocks := B.notSynchronized
  have hS : va_S (geA b) s.heap s.heap [] := va_S.rf
  have hl := lv_entry ([.ref (b + 193)]) (n := 1) (Nat.le_of_ble_eq_true rfl)
  rw [lg_entry_eq]
  generalize (lg_sl ([.ref (b + 193)]) ++ List.replicate (1 - (lg_sl ([.ref (b + 193)])).length) Slot.unset).toArray = ls at hl ⊢
  have hl : lv_has ls 1 [(0, .ref (b + 193))] := hl
  unfold f_X5_figure at hf
  refine lv_aload_n hx hb dX5_figure_0 rfl (lv_at hl 0 rfl) ?_
  refine getM hx hb hta hown hE.1 hW 11 (by decide) q1192 rfl dX5_figure_1 ?_
  refine lv_aload_n hx hb dX5_figure_4 rfl (lv_at hl 0 rfl) ?_
  refine getM hx hb hta hown hE.1 hW 9 (by decide) q1190 rfl dX5_figure_5 ?_
  refine lv_icmp_ge (tgt := 45) hx hb dX5_figure_8 (by decide) (fun h1 => ?_) (fun h1 => ?_)
  · have hf := ifp h1 hf
    refine lv_iconst (v := (-1)) hx hb dX5_figure_45 (by decide) ?_
    cases hf
    exact W.iret hx hb hr (fun u hu _ => ⟨⟨rfl, by rw [hu]; exact hW⟩, hS.F hu⟩) hS.2.2 dX5_figure_46
  · have hf := ifn h1 hf
    refine lv_aload_n hx hb dX5_figure_11 rfl (lv_at hl 0 rfl) ?_
    refine getM hx hb hta hown hE.1 hW 8 (by decide) q1189 rfl dX5_figure_12 ?_
    refine lv_aload_n hx hb dX5_figure_15 rfl (lv_at hl 0 rfl) ?_
    refine getM hx hb hta hown hE.1 hW 11 (by decide) q1192 rfl dX5_figure_16 ?_
    obtain ⟨g2, hf⟩ := gd_e hf
    refine iald hx hb hE.1 hW sh_200 g2 dX5_figure_19 ?_
    refine lv_bipush (v := 48) hx hb dX5_figure_20 (by decide) ?_
    refine lv_bipush (v := 57) hx hb dX5_figure_22 (by decide) ?_
    obtain ⟨y3, u4, hf⟩ := b1_e hf
    refine mS (n := 3) (As := [.int (σ 200 ((σ 193 11)).toNatClampNeg), .int 48, .int 57]) (rest := []) (c_X5_in l D t b σ (σ 200 ((σ 193 11)).toNatClampNeg) 48 57 y3 u4) hx hb hml hown hts hE hW hS q1239 q1240 q96 q1241 hs_X5_in ⟨rfl, rfl⟩ ⟨Nat.le_of_ble_eq_true rfl, Nat.le_of_ble_eq_true rfl⟩ rfl rfl hl.1 (Nat.le_of_ble_eq_true rfl) ⟨Nat.zero_le _, Nat.zero_le _⟩ dX5_figure_24 (fun H locs hW hS => ?_)
    refine lv_if_eq (tgt := 45) hx hb dX5_figure_27 (by decide) (fun h5 => ?_) (fun h5 => ?_)
    · have hf := ifp h5 hf
      refine lv_iconst (v := (-1)) hx hb dX5_figure_45 (by decide) ?_
      cases hf
      exact W.iret hx hb hr (fun u hu _ => ⟨⟨rfl, by rw [hu]; exact hW⟩, hS.F hu⟩) hS.2.2 dX5_figure_46
    · have hf := ifn h5 hf
      refine lv_aload_n hx hb dX5_figure_30 rfl (lv_at hl 0 rfl) ?_
      refine getM hx hb hta hown hE.1 hW 8 (by decide) q1189 rfl dX5_figure_31 ?_
      refine lv_aload_n hx hb dX5_figure_34 rfl (lv_at hl 0 rfl) ?_
      refine getM hx hb hta hown hE.1 hW 11 (by decide) q1192 rfl dX5_figure_35 ?_
      refine iald hx hb hE.1 hW sh_200 g2 dX5_figure_38 ?_
      refine lv_bipush (v := 48) hx hb dX5_figure_39 (by decide) ?_
      refine lv_isub hx hb dX5_figure_41 ?_
      refine lv_goto (tgt := 46) hx hb dX5_figure_42 (by decide) ?_
      cases hf
      exact W.iret hx hb hr (fun u hu _ => ⟨⟨rfl, by rw [hu]; exact hW⟩, hS.F hu⟩) hS.2.2 dX5_figure_46
def f_X5_isTold (σ : Sg) (p1 : Int32) (p2 : Int32) : Option (Int32 × Sg) := gd ((5 * (σ 193 13)) + p1) 205 (st (u2 σ 201 (((5 * (σ 193 13)) + p1)).toNatClampNeg p2) fun σ2 => some (1, σ2))
set_option maxHeartbeats 4000000 in
set_option maxRecDepth 100000 in
theorem c_X5_isTold (l : Launch) (D : va_G) (t : Nat → ClassId) (b : Nat) (σ : Sg) (p1 : Int32) (p2 : Int32) (r : Int32) (σr : Sg) (hf : f_X5_isTold σ p1 p2 = some (r, σr)) : Met l yX5_isTold (Cond.code yX5_isTold cX5_isTold 3 (some .boolean) :: ALL) ({ frames := 0, cells := 0, slots := 0, locals := 0 }) (PM D t b σ [.ref (b + 193), .int p1, .int p2]) (QG D t b σr (some (.int r))) 0 0 (geA b) := by
  refine Met.ofW (cc := cX5_isTold) (maxL := 3) (ret := (some .boolean)) (by decide) rfl ?_
  intro p e s m args below meth c s₁ B hml hv
  obtain ⟨rfl, hW, hE⟩ := hv
  have hx := B.exec
  have hb := B.bytes
  have hr := B.returns
  have hts := atoms_spec (ws := Cond.code yX5_isTold cX5_isTold 3 (some .boolean) :: ALL) B.pre
  have hta := fun w h => hts w (List.mem_cons_of_mem _ h)
  have hown : s.vm.findClass RX5 = some m.cls := findClass_of_methodNamed B.named
  have hlocks := B.notSynchronized
  have hS : va_S (geA b) s.heap s.heap [] := va_S.rf
  have hl := lv_entry ([.ref (b + 193), .int p1, .int p2]) (n := 3) (Nat.le_of_ble_eq_true rfl)
  rw [lg_entry_eq]
  generalize (lg_sl ([.ref (b + 193), .int p1, .int p2]) ++ List.replicate (3 - (lg_sl ([.ref (b + 193), .int p1, .int p2])).length) Slot.unset).toArray = ls at hl ⊢
  have hl : lv_has ls 3 [(0, .ref (b + 193)), (1, .int p1), (2, .int p2)] := hl
  unfold f_X5_isTold at hf
  refine lv_aload_n hx hb dX5_isTold_0 rfl (lv_at hl 0 rfl) ?_
  refine getM hx hb hta hown hE.1 hW 12 (by decide) q1193 rfl dX5_isTold_1 ?_
  refine lv_iconst (v := 5) hx hb dX5_isTold_4 (by decide) ?_
  refine lv_aload_n hx hb dX5_isTold_5 rfl (lv_at hl 0 rfl) ?_
  refine getM hx hb hta hown hE.1 hW 13 (by decide) q1194 rfl dX5_isTold_6 ?_
  refine lv_imul hx hb dX5_isTold_9 ?_
  refine lv_iload_n hx hb dX5_isTold_10 rfl (lv_at hl 1 rfl) ?_
  refine lv_iadd hx hb dX5_isTold_11 ?_
  refine lv_iload_n hx hb dX5_isTold_12 rfl (lv_at hl 2 rfl) ?_
  obtain ⟨g1, hf⟩ := gd_e hf
  refine iast (k := 201) (i := ((5 * (σ 193 13)) + p1)) (x := p2) hx hb hE.1 hW hS sh_201 g1 dX5_isTold_13 (fun H locs hW hS => ?_)
  obtain ⟨σ2, e3, hf⟩ := st_e hf
  rw [e3] at hW
  refine lv_iconst (v := 1) hx hb dX5_isTold_14 (by decide) ?_
  cases hf
  exact W.zret (ty := .boolean) hx hb hr (by decide) (fun u hu _ => ⟨⟨rfl, by rw [hu]; exact hW⟩, hS.F hu⟩) hS.2.2 dX5_isTold_15
def l_X5_isNumber_30 : Nat → Sg → Int32 → Int32 → Int32 → Option (Int32 × Sg)
  | 0, _, _, _, _ => none
  | n + 1, τ, x1, x3, x4 => if x4 ≤ 0 then (b2 (f_X5_isTold τ x1 x4) fun y8 σ10 => gd y8 2 (some (y8, σ10))) else (b1 (f_X5_figure τ) fun y12 => if y12 = (-1) then (b2 (f_X5_isTold τ x1 x4) fun y15 σ17 => gd y15 2 (some (y15, σ17))) else (b1 (f_X5_figure τ) fun y19 => if x3 < ((10 * x4) + y19) then (b2 (f_X5_isTold τ x1 x4) fun y22 σ24 => gd y22 2 (some (y22, σ24))) else (b1 (f_X5_figure τ) fun y26 => st (u2 τ 193 11 ((τ 193 11) + 1)) fun σ28 => l_X5_isNumber_30 n σ28 x1 x3 ((10 * x4) + y26))))
def f_X5_isNumber (σ : Sg) (p1 : Int32) (p2 : Int32) (p3 : Int32) : Option (Int32 × Sg) := b1 (f_X5_figure σ) fun y1 => if y1 < p2 then (some (0, σ)) else (if y1 ≤ p3 then (st (u2 σ 193 11 ((σ 193 11) + 1)) fun σ5 => l_X5_isNumber_30 10000 σ5 p1 p3 y1) else (some (0, σ)))
set_option maxHeartbeats 4000000 in
set_option maxRecDepth 100000 in
theorem c_X5_isNumber (l : Launch) (D : va_G) (t : Nat → ClassId) (b : Nat) (σ : Sg) (p1 : Int32) (p2 : Int32) (p3 : Int32) (r : Int32) (σr : Sg) (hf : f_X5_isNumber σ p1 p2 p3 = some (r, σr)) : Met l yX5_isNumber (Cond.code yX5_isNumber cX5_isNumber 5 (some .boolean) :: ALL) ({ frames := 2, cells := 0, slots := 0, locals := 42 }) (PM D t b σ [.ref (b + 193), .int p1, .int p2, .int p3]) (QG D t b σr (some (.int r))) 0 0 (geA b) := by
  refine Met.ofW (cc := cX5_isNumber) (maxL := 5) (ret := (some .boolean)) (by decide) rfl ?_
  intro p e s m args below meth c s₁ B hml hv
  obtain ⟨rfl, hW, hE⟩ := hv
  have hx := B.exec
  have hb := B.bytes
  have hr := B.returns
  have hts := atoms_spec (ws := Cond.code yX5_isNumber cX5_isNumber 5 (some .boolean) :: ALL) B.pre
  have hta := fun w h => hts w (List.mem_cons_of_mem _ h)
  have hown : s.vm.findClass RX5 = some m.cls := findClass_of_methodNamed B.named
  have hlocks := B.notSynchronized
  have hS : va_S (geA b) s.heap s.heap [] := va_S.rf
  have hl := lv_entry ([.ref (b + 193), .int p1, .int p2, .int p3]) (n := 5) (Nat.le_of_ble_eq_true rfl)
  rw [lg_entry_eq]
  generalize (lg_sl ([.ref (b + 193), .int p1, .int p2, .int p3]) ++ List.replicate (5 - (lg_sl ([.ref (b + 193), .int p1, .int p2, .int p3])).length) Slot.unset).toArray = ls at hl ⊢
  have hl : lv_has ls 5 [(0, .ref (b + 193)), (1, .int p1), (2, .int p2), (3, .int p3)] := hl
  unfold f_X5_isNumber at hf
  refine lv_aload_n hx hb dX5_isNumber_0 rfl (lv_at hl 0 rfl) ?_
  obtain ⟨y1, u2, hf⟩ := b1_e hf
  refine mV (k := 193) (q := (5, 0)) (C := RX5) (T := TX5) (N := 14) (ci := 5) (n := 0) (As := []) (rest := []) (c_X5_figure l D t b σ y1 u2) sh_193 (by decide) rfl rfl hx hb hml hown hts hE hW hS q1484 q1486 q75 q96 q1487 hy_X5_figure ⟨rfl, rfl⟩ ⟨Nat.le_of_ble_eq_true rfl, Nat.le_of_ble_eq_true rfl⟩ rfl rfl hl.1 (Nat.le_of_ble_eq_true rfl) ⟨Nat.zero_le _, Nat.zero_le _⟩ dX5_isNumber_1 (fun H locs hW hS => ?_)
  refine lv_istore (lv' := [(4, .int y1), (0, .ref (b + 193)), (1, .int p1), (2, .int p2), (3, .int p3)]) hx hb dX5_isNumber_4 hl (by decide) rfl (fun ls hl => ?_)
  refine lv_iload hx hb dX5_isNumber_6 (lv_at hl 0 rfl) ?_
  refine lv_iload_n hx hb dX5_isNumber_8 rfl (lv_at hl 3 rfl) ?_
  refine lv_icmp_lt (tgt := 18) hx hb dX5_isNumber_9 (by decide) (fun h3 => ?_) (fun h3 => ?_)
  · have hf := ifp h3 hf
    refine lv_iconst (v := 0) hx hb dX5_isNumber_18 (by decide) ?_
    cases hf
    exact W.zret (ty := .boolean) hx hb hr (by decide) (fun u hu _ => ⟨⟨rfl, by rw [hu]; exact hW⟩, hS.F hu⟩) hS.2.2 dX5_isNumber_19
  · have hf := ifn h3 hf
    refine lv_iload hx hb dX5_isNumber_12 (lv_at hl 0 rfl) ?_
    refine lv_iload_n hx hb dX5_isNumber_14 rfl (lv_at hl 4 rfl) ?_
    refine lv_icmp_le (tgt := 20) hx hb dX5_isNumber_15 (by decide) (fun h4 => ?_) (fun h4 => ?_)
    · have hf := ifp h4 hf
      refine lv_aload_n hx hb dX5_isNumber_20 rfl (lv_at hl 1 rfl) ?_
      refine lv_dup hx hb dX5_isNumber_21 rfl ?_
      refine getM hx hb hta hown hE.1 hW 11 (by decide) q1192 rfl dX5_isNumber_22 ?_
      refine lv_iconst (v := 1) hx hb dX5_isNumber_25 (by decide) ?_
      refine lv_iadd hx hb dX5_isNumber_26 ?_
      refine putX (k := 193) (q := (5, 0)) (ci := 5) (x := ((σ 193 11) + 1)) inA5 tyX5_ok nmX5 rfl (by decide) rfl hx hb hta hown hE.1 hW hS sh_193 11 (by decide) q1192 rfl rfl rfl (Nat.le_of_ble_eq_true rfl) rfl dX5_isNumber_27 (fun H locs hW hS => ?_)
      obtain ⟨σ5, e6, hf⟩ := st_e hf
      rw [e6] at hW
      have key_30 : ∀ (n : Nat) (τ : Sg) (x1 : Int32) (x3 : Int32) (x4 : Int32) (H : Heap) (locs : List Loc) (ls : Array Slot), l_X5_isNumber_30 n τ x1 x3 x4 = some (r, σr) → wd D t b τ H → va_S (geA b) s.heap H locs → lv_has ls 5 [(0, .ref (b + 193)), (1, .int x1), (3, .int x3), (4, .int x4)] → W p l e (headSpec (Cond.code yX5_isNumber cX5_isNumber 5 (some .boolean) :: ALL) ({ frames := 2, cells := 0, slots := 0, locals := 42 })).room s m (([.ref (b + 193), .int p1, .int p2, .int p3] : List Value).toArray) below meth c H locs 0 0 (MQ below (QG D t b σr (some (.int r))) (([.ref (b + 193), .int p1, .int p2, .int p3] : List Value).toArray) s 0 0 (geA b)) (F0 m 30 ls []) := by
        intro n
        induction n with
        | zero =>
          intro τ x1 x3 x4 H locs ls hf
          rw [l_X5_isNumber_30.eq_1] at hf
          cases hf
        | succ n ih_30 =>
          intro τ x1 x3 x4 H locs ls hf hW hS hl
          rw [l_X5_isNumber_30.eq_2] at hf
          refine lv_iload hx hb dX5_isNumber_30 (lv_at hl 3 rfl) ?_
          refine lv_if_le (tgt := 82) hx hb dX5_isNumber_32 (by decide) (fun h7 => ?_) (fun h7 => ?_)
          · have hf := ifp h7 hf
            refine lv_aload_n hx hb dX5_isNumber_82 rfl (lv_at hl 0 rfl) ?_
            refine lv_iload_n hx hb dX5_isNumber_83 rfl (lv_at hl 1 rfl) ?_
            refine lv_iload hx hb dX5_isNumber_84 (lv_at hl 3 rfl) ?_
            obtain ⟨y8, σ10, u9, hf⟩ := b2_e hf
            refine mV (k := 193) (q := (5, 0)) (C := RX5) (T := TX5) (N := 14) (ci := 5) (n := 2) (As := [.int x1, .int x4]) (rest := []) (c_X5_isTold l D t b τ x1 x4 y8 σ10 u9) sh_193 (by decide) rfl rfl hx hb hml hown hts hE hW hS q1488 q1490 q76 q96 q1491 hy_X5_isTold ⟨rfl, rfl⟩ ⟨Nat.le_of_ble_eq_true rfl, Nat.le_of_ble_eq_true rfl⟩ rfl rfl hl.1 (Nat.le_of_ble_eq_true rfl) ⟨Nat.zero_le _, Nat.zero_le _⟩ dX5_isNumber_86 (fun H locs hW hS => ?_)
            obtain ⟨g11, hf⟩ := gd_e hf
            cases hf
            exact W.zret (ty := .boolean) hx hb hr (nar_bool g11).1 (fun u hu _ => ⟨⟨rfl, by rw [hu]; exact hW⟩, hS.F hu⟩) hS.2.2 dX5_isNumber_89
          · have hf := ifn h7 hf
            refine lv_aload_n hx hb dX5_isNumber_35 rfl (lv_at hl 0 rfl) ?_
            obtain ⟨y12, u13, hf⟩ := b1_e hf
            refine mV (k := 193) (q := (5, 0)) (C := RX5) (T := TX5) (N := 14) (ci := 5) (n := 0) (As := []) (rest := []) (c_X5_figure l D t b τ y12 u13) sh_193 (by decide) rfl rfl hx hb hml hown hts hE hW hS q1484 q1486 q75 q96 q1487 hy_X5_figure ⟨rfl, rfl⟩ ⟨Nat.le_of_ble_eq_true rfl, Nat.le_of_ble_eq_true rfl⟩ rfl rfl hl.1 (Nat.le_of_ble_eq_true rfl) ⟨Nat.zero_le _, Nat.zero_le _⟩ dX5_isNumber_36 (fun H locs hW hS => ?_)
            refine lv_iconst (v := (-1)) hx hb dX5_isNumber_39 (by decide) ?_
            refine lv_icmp_eq (tgt := 82) hx hb dX5_isNumber_40 (by decide) (fun h14 => ?_) (fun h14 => ?_)
            · have hf := ifp h14 hf
              refine lv_aload_n hx hb dX5_isNumber_82 rfl (lv_at hl 0 rfl) ?_
              refine lv_iload_n hx hb dX5_isNumber_83 rfl (lv_at hl 1 rfl) ?_
              refine lv_iload hx hb dX5_isNumber_84 (lv_at hl 3 rfl) ?_
              obtain ⟨y15, σ17, u16, hf⟩ := b2_e hf
              refine mV (k := 193) (q := (5, 0)) (C := RX5) (T := TX5) (N := 14) (ci := 5) (n := 2) (As := [.int x1, .int x4]) (rest := []) (c_X5_isTold l D t b τ x1 x4 y15 σ17 u16) sh_193 (by decide) rfl rfl hx hb hml hown hts hE hW hS q1488 q1490 q76 q96 q1491 hy_X5_isTold ⟨rfl, rfl⟩ ⟨Nat.le_of_ble_eq_true rfl, Nat.le_of_ble_eq_true rfl⟩ rfl rfl hl.1 (Nat.le_of_ble_eq_true rfl) ⟨Nat.zero_le _, Nat.zero_le _⟩ dX5_isNumber_86 (fun H locs hW hS => ?_)
              obtain ⟨g18, hf⟩ := gd_e hf
              cases hf
              exact W.zret (ty := .boolean) hx hb hr (nar_bool g18).1 (fun u hu _ => ⟨⟨rfl, by rw [hu]; exact hW⟩, hS.F hu⟩) hS.2.2 dX5_isNumber_89
            · have hf := ifn h14 hf
              refine lv_bipush (v := 10) hx hb dX5_isNumber_43 (by decide) ?_
              refine lv_iload hx hb dX5_isNumber_45 (lv_at hl 3 rfl) ?_
              refine lv_imul hx hb dX5_isNumber_47 ?_
              refine lv_aload_n hx hb dX5_isNumber_48 rfl (lv_at hl 0 rfl) ?_
              obtain ⟨y19, u20, hf⟩ := b1_e hf
              refine mV (k := 193) (q := (5, 0)) (C := RX5) (T := TX5) (N := 14) (ci := 5) (n := 0) (As := []) (rest := [.int (10 * x4)]) (c_X5_figure l D t b τ y19 u20) sh_193 (by decide) rfl rfl hx hb hml hown hts hE hW hS q1484 q1486 q75 q96 q1487 hy_X5_figure ⟨rfl, rfl⟩ ⟨Nat.le_of_ble_eq_true rfl, Nat.le_of_ble_eq_true rfl⟩ rfl rfl hl.1 (Nat.le_of_ble_eq_true rfl) ⟨Nat.zero_le _, Nat.zero_le _⟩ dX5_isNumber_49 (fun H locs hW hS => ?_)
              refine lv_iadd hx hb dX5_isNumber_52 ?_
              refine lv_iload_n hx hb dX5_isNumber_53 rfl (lv_at hl 2 rfl) ?_
              refine lv_icmp_gt (tgt := 82) hx hb dX5_isNumber_54 (by decide) (fun h21 => ?_) (fun h21 => ?_)
              · have hf := ifp h21 hf
                refine lv_aload_n hx hb dX5_isNumber_82 rfl (lv_at hl 0 rfl) ?_
                refine lv_iload_n hx hb dX5_isNumber_83 rfl (lv_at hl 1 rfl) ?_
                refine lv_iload hx hb dX5_isNumber_84 (lv_at hl 3 rfl) ?_
                obtain ⟨y22, σ24, u23, hf⟩ := b2_e hf
                refine mV (k := 193) (q := (5, 0)) (C := RX5) (T := TX5) (N := 14) (ci := 5) (n := 2) (As := [.int x1, .int x4]) (rest := []) (c_X5_isTold l D t b τ x1 x4 y22 σ24 u23) sh_193 (by decide) rfl rfl hx hb hml hown hts hE hW hS q1488 q1490 q76 q96 q1491 hy_X5_isTold ⟨rfl, rfl⟩ ⟨Nat.le_of_ble_eq_true rfl, Nat.le_of_ble_eq_true rfl⟩ rfl rfl hl.1 (Nat.le_of_ble_eq_true rfl) ⟨Nat.zero_le _, Nat.zero_le _⟩ dX5_isNumber_86 (fun H locs hW hS => ?_)
                obtain ⟨g25, hf⟩ := gd_e hf
                cases hf
                exact W.zret (ty := .boolean) hx hb hr (nar_bool g25).1 (fun u hu _ => ⟨⟨rfl, by rw [hu]; exact hW⟩, hS.F hu⟩) hS.2.2 dX5_isNumber_89
              · have hf := ifn h21 hf
                refine lv_bipush (v := 10) hx hb dX5_isNumber_57 (by decide) ?_
                refine lv_iload hx hb dX5_isNumber_59 (lv_at hl 3 rfl) ?_
                refine lv_imul hx hb dX5_isNumber_61 ?_
                refine lv_aload_n hx hb dX5_isNumber_62 rfl (lv_at hl 0 rfl) ?_
                obtain ⟨y26, u27, hf⟩ := b1_e hf
                refine mV (k := 193) (q := (5, 0)) (C := RX5) (T := TX5) (N := 14) (ci := 5) (n := 0) (As := []) (rest := [.int (10 * x4)]) (c_X5_figure l D t b τ y26 u27) sh_193 (by decide) rfl rfl hx hb hml hown hts hE hW hS q1484 q1486 q75 q96 q1487 hy_X5_figure ⟨rfl, rfl⟩ ⟨Nat.le_of_ble_eq_true rfl, Nat.le_of_ble_eq_true rfl⟩ rfl rfl hl.1 (Nat.le_of_ble_eq_true rfl) ⟨Nat.zero_le _, Nat.zero_le _⟩ dX5_isNumber_63 (fun H locs hW hS => ?_)
                refine lv_iadd hx hb dX5_isNumber_66 ?_
                refine lv_istore (lv' := [(4, .int ((10 * x4) + y26)), (0, .ref (b + 193)), (1, .int x1), (3, .int x3)]) hx hb dX5_isNumber_67 hl (by decide) rfl (fun ls hl => ?_)
                refine lv_aload_n hx hb dX5_isNumber_69 rfl (lv_at hl 1 rfl) ?_
                refine lv_dup hx hb dX5_isNumber_70 rfl ?_
                refine getM hx hb hta hown hE.1 hW 11 (by decide) q1192 rfl dX5_isNumber_71 ?_
                refine lv_iconst (v := 1) hx hb dX5_isNumber_74 (by decide) ?_
                refine lv_iadd hx hb dX5_isNumber_75 ?_
                refine putX (k := 193) (q := (5, 0)) (ci := 5) (x := ((τ 193 11) + 1)) inA5 tyX5_ok nmX5 rfl (by decide) rfl hx hb hta hown hE.1 hW hS sh_193 11 (by decide) q1192 rfl rfl rfl (Nat.le_of_ble_eq_true rfl) rfl dX5_isNumber_76 (fun H locs hW hS => ?_)
                obtain ⟨σ28, e29, hf⟩ := st_e hf
                rw [e29] at hW
                refine lv_goto (tgt := 30) hx hb dX5_isNumber_79 (by decide) ?_
                exact ih_30 σ28 x1 x3 ((10 * x4) + y26) _ _ _ hf hW hS (lv_sub hl [1, 2, 3, 0] rfl)
      exact key_30 10000 σ5 p1 p3 y1 _ _ _ hf hW hS (lv_sub hl [1, 2, 4, 0] rfl)
    · have hf := ifn h4 hf
      refine lv_iconst (v := 0) hx hb dX5_isNumber_18 (by decide) ?_
      cases hf
      exact W.zret (ty := .boolean) hx hb hr (by decide) (fun u hu _ => ⟨⟨rfl, by rw [hu]; exact hW⟩, hS.F hu⟩) hS.2.2 dX5_isNumber_19
def f_X5_isLetter (σ : Sg) (p1 : Int32) : Option (Int32 × Sg) := if (σ 193 9) ≤ (σ 193 11) then (st (u2 σ 193 11 ((σ 193 11) + 0)) fun σ8 => some (0, σ8)) else (gd (σ 193 11) 80 (if (σ 200 ((σ 193 11)).toNatClampNeg) = 104 then (st (u2 σ 193 11 ((σ 193 11) + 1)) fun σ14 => b2 (f_X5_isTold σ14 p1 0) fun y17 σ19 => if y17 = 0 then (some (0, σ19)) else (some (1, σ19))) else (if (σ 200 ((σ 193 11)).toNatClampNeg) = 100 then (st (u2 σ 193 11 ((σ 193 11) + 1)) fun σ23 => b2 (f_X5_isTold σ23 p1 1) fun y26 σ28 => if y26 = 0 then (some (0, σ28)) else (some (1, σ28))) else (if (σ 200 ((σ 193 11)).toNatClampNeg) = 99 then (st (u2 σ 193 11 ((σ 193 11) + 1)) fun σ32 => b2 (f_X5_isTold σ32 p1 2) fun y35 σ37 => if y35 = 0 then (some (0, σ37)) else (some (1, σ37))) else (if (σ 200 ((σ 193 11)).toNatClampNeg) = 108 then (st (u2 σ 193 11 ((σ 193 11) + 1)) fun σ41 => b2 (f_X5_isTold σ41 p1 3) fun y44 σ46 => if y44 = 0 then (some (0, σ46)) else (some (1, σ46))) else (if (σ 200 ((σ 193 11)).toNatClampNeg) = 116 then (st (u2 σ 193 11 ((σ 193 11) + 1)) fun σ50 => b2 (f_X5_isTold σ50 p1 4) fun y53 σ55 => if y53 = 0 then (some (0, σ55)) else (some (1, σ55))) else (st (u2 σ 193 11 ((σ 193 11) + 0)) fun σ58 => some (0, σ58))))))))
set_option maxHeartbeats 4000000 in
set_option maxRecDepth 100000 in
theorem c_X5_isLetter (l : Launch) (D : va_G) (t : Nat → ClassId) (b : Nat) (σ : Sg) (p1 : Int32) (r : Int32) (σr : Sg) (hf : f_X5_isLetter σ p1 = some (r, σr)) : Met l yX5_isLetter (Cond.code yX5_isLetter cX5_isLetter 4 (some .boolean) :: ALL) ({ frames := 1, cells := 0, slots := 0, locals := 22 }) (PM D t b σ [.ref (b + 193), .int p1]) (QG D t b σr (some (.int r))) 0 0 (geA b) := by
  refine Met.ofW (cc := cX5_isLetter) (maxL := 4) (ret := (some .boolean)) (by decide) rfl ?_
  intro p e s m args below meth c s₁ B hml hv
  obtain ⟨rfl, hW, hE⟩ := hv
  have hx := B.exec
  have hb := B.bytes
  have hr := B.returns
  have hts := atoms_spec (ws := Cond.code yX5_isLetter cX5_isLetter 4 (some .boolean) :: ALL) B.pre
  have hta := fun w h => hts w (List.mem_cons_of_mem _ h)
  have hown : s.vm.findClass RX5 = some m.cls := findClass_of_methodNamed B.named
  have hlocks := B.notSynchronized
  have hS : va_S (geA b) s.heap s.heap [] := va_S.rf
  have hl := lv_entry ([.ref (b + 193), .int p1]) (n := 4) (Nat.le_of_ble_eq_true rfl)
  rw [lg_entry_eq]
  generalize (lg_sl ([.ref (b + 193), .int p1]) ++ List.replicate (4 - (lg_sl ([.ref (b + 193), .int p1])).length) Slot.unset).toArray = ls at hl ⊢
  have hl : lv_has ls 4 [(0, .ref (b + 193)), (1, .int p1)] := hl
  unfold f_X5_isLetter at hf
  refine lv_aload_n hx hb dX5_isLetter_0 rfl (lv_at hl 0 rfl) ?_
  refine getM hx hb hta hown hE.1 hW 11 (by decide) q1192 rfl dX5_isLetter_1 ?_
  refine lv_aload_n hx hb dX5_isLetter_4 rfl (lv_at hl 0 rfl) ?_
  refine getM hx hb hta hown hE.1 hW 9 (by decide) q1190 rfl dX5_isLetter_5 ?_
  refine lv_icmp_ge (tgt := 23) hx hb dX5_isLetter_8 (by decide) (fun h1 => ?_) (fun h1 => ?_)
  · have hf := ifp h1 hf
    refine lv_iconst (v := 0) hx hb dX5_isLetter_23 (by decide) ?_
    refine lv_istore_n (lv' := [(2, .int 0), (0, .ref (b + 193)), (1, .int p1)]) hx hb dX5_isLetter_24 rfl hl (by decide) rfl (fun ls hl => ?_)
    refine lv_iload_n hx hb dX5_isLetter_25 rfl (lv_at hl 0 rfl) ?_
    refine lv_bipush (v := 104) hx hb dX5_isLetter_26 (by decide) ?_
    refine lv_icmp_ne (tgt := 35) hx hb dX5_isLetter_28 (by decide) (fun h2 => ?_) (fun h2 => absurd h2 (by decide))
    refine lv_iload_n hx hb dX5_isLetter_35 rfl (lv_at hl 0 rfl) ?_
    refine lv_bipush (v := 100) hx hb dX5_isLetter_36 (by decide) ?_
    refine lv_icmp_ne (tgt := 45) hx hb dX5_isLetter_38 (by decide) (fun h3 => ?_) (fun h3 => absurd h3 (by decide))
    refine lv_iload_n hx hb dX5_isLetter_45 rfl (lv_at hl 0 rfl) ?_
    refine lv_bipush (v := 99) hx hb dX5_isLetter_46 (by decide) ?_
    refine lv_icmp_ne (tgt := 55) hx hb dX5_isLetter_48 (by decide) (fun h4 => ?_) (fun h4 => absurd h4 (by decide))
    refine lv_iload_n hx hb dX5_isLetter_55 rfl (lv_at hl 0 rfl) ?_
    refine lv_bipush (v := 108) hx hb dX5_isLetter_56 (by decide) ?_
    refine lv_icmp_ne (tgt := 65) hx hb dX5_isLetter_58 (by decide) (fun h5 => ?_) (fun h5 => absurd h5 (by decide))
    refine lv_iload_n hx hb dX5_isLetter_65 rfl (lv_at hl 0 rfl) ?_
    refine lv_bipush (v := 116) hx hb dX5_isLetter_66 (by decide) ?_
    refine lv_icmp_ne (tgt := 75) hx hb dX5_isLetter_68 (by decide) (fun h6 => ?_) (fun h6 => absurd h6 (by decide))
    refine lv_iconst (v := (-1)) hx hb dX5_isLetter_75 (by decide) ?_
    refine lv_istore_n (lv' := [(3, .int (-1)), (2, .int 0), (0, .ref (b + 193)), (1, .int p1)]) hx hb dX5_isLetter_76 rfl hl (by decide) rfl (fun ls hl => ?_)
    refine lv_aload_n hx hb dX5_isLetter_77 rfl (lv_at hl 2 rfl) ?_
    refine lv_dup hx hb dX5_isLetter_78 rfl ?_
    refine getM hx hb hta hown hE.1 hW 11 (by decide) q1192 rfl dX5_isLetter_79 ?_
    refine lv_iload_n hx hb dX5_isLetter_82 rfl (lv_at hl 0 rfl) ?_
    refine lv_iconst (v := (-1)) hx hb dX5_isLetter_83 (by decide) ?_
    refine lv_icmp_ne (tgt := 91) hx hb dX5_isLetter_84 (by decide) (fun h7 => absurd h7 (by decide)) (fun h7 => ?_)
    refine lv_iconst (v := 0) hx hb dX5_isLetter_87 (by decide) ?_
    refine lv_goto (tgt := 92) hx hb dX5_isLetter_88 (by decide) ?_
    refine lv_iadd hx hb dX5_isLetter_92 ?_
    refine putX (k := 193) (q := (5, 0)) (ci := 5) (x := ((σ 193 11) + 0)) inA5 tyX5_ok nmX5 rfl (by decide) rfl hx hb hta hown hE.1 hW hS sh_193 11 (by decide) q1192 rfl rfl rfl (Nat.le_of_ble_eq_true rfl) rfl dX5_isLetter_93 (fun H locs hW hS => ?_)
    obtain ⟨σ8, e9, hf⟩ := st_e hf
    rw [e9] at hW
    refine lv_iload_n hx hb dX5_isLetter_96 rfl (lv_at hl 0 rfl) ?_
    refine lv_iconst (v := (-1)) hx hb dX5_isLetter_97 (by decide) ?_
    refine lv_icmp_eq (tgt := 114) hx hb dX5_isLetter_98 (by decide) (fun h10 => ?_) (fun h10 => absurd h10 (by decide))
    refine lv_iconst (v := 0) hx hb dX5_isLetter_114 (by decide) ?_
    cases hf
    exact W.zret (ty := .boolean) hx hb hr (by decide) (fun u hu _ => ⟨⟨rfl, by rw [hu]; exact hW⟩, hS.F hu⟩) hS.2.2 dX5_isLetter_115
  · have hf := ifn h1 hf
    refine lv_aload_n hx hb dX5_isLetter_11 rfl (lv_at hl 0 rfl) ?_
    refine getM hx hb hta hown hE.1 hW 8 (by decide) q1189 rfl dX5_isLetter_12 ?_
    refine lv_aload_n hx hb dX5_isLetter_15 rfl (lv_at hl 0 rfl) ?_
    refine getM hx hb hta hown hE.1 hW 11 (by decide) q1192 rfl dX5_isLetter_16 ?_
    obtain ⟨g11, hf⟩ := gd_e hf
    refine iald hx hb hE.1 hW sh_200 g11 dX5_isLetter_19 ?_
    refine lv_goto (tgt := 24) hx hb dX5_isLetter_20 (by decide) ?_
    refine lv_istore_n (lv' := [(2, .int (σ 200 ((σ 193 11)).toNatClampNeg)), (0, .ref (b + 193)), (1, .int p1)]) hx hb dX5_isLetter_24 rfl hl (by decide) rfl (fun ls hl => ?_)
    refine lv_iload_n hx hb dX5_isLetter_25 rfl (lv_at hl 0 rfl) ?_
    refine lv_bipush (v := 104) hx hb dX5_isLetter_26 (by decide) ?_
    refine lv_icmp_ne (tgt := 35) hx hb dX5_isLetter_28 (by decide) (fun h12 => ?_) (fun h12 => ?_)
    · have hf := ifn h12 hf
      refine lv_iload_n hx hb dX5_isLetter_35 rfl (lv_at hl 0 rfl) ?_
      refine lv_bipush (v := 100) hx hb dX5_isLetter_36 (by decide) ?_
      refine lv_icmp_ne (tgt := 45) hx hb dX5_isLetter_38 (by decide) (fun h21 => ?_) (fun h21 => ?_)
      · have hf := ifn h21 hf
        refine lv_iload_n hx hb dX5_isLetter_45 rfl (lv_at hl 0 rfl) ?_
        refine lv_bipush (v := 99) hx hb dX5_isLetter_46 (by decide) ?_
        refine lv_icmp_ne (tgt := 55) hx hb dX5_isLetter_48 (by decide) (fun h30 => ?_) (fun h30 => ?_)
        · have hf := ifn h30 hf
          refine lv_iload_n hx hb dX5_isLetter_55 rfl (lv_at hl 0 rfl) ?_
          refine lv_bipush (v := 108) hx hb dX5_isLetter_56 (by decide) ?_
          refine lv_icmp_ne (tgt := 65) hx hb dX5_isLetter_58 (by decide) (fun h39 => ?_) (fun h39 => ?_)
          · have hf := ifn h39 hf
            refine lv_iload_n hx hb dX5_isLetter_65 rfl (lv_at hl 0 rfl) ?_
            refine lv_bipush (v := 116) hx hb dX5_isLetter_66 (by decide) ?_
            refine lv_icmp_ne (tgt := 75) hx hb dX5_isLetter_68 (by decide) (fun h48 => ?_) (fun h48 => ?_)
            · have hf := ifn h48 hf
              refine lv_iconst (v := (-1)) hx hb dX5_isLetter_75 (by decide) ?_
              refine lv_istore_n (lv' := [(3, .int (-1)), (2, .int (σ 200 ((σ 193 11)).toNatClampNeg)), (0, .ref (b + 193)), (1, .int p1)]) hx hb dX5_isLetter_76 rfl hl (by decide) rfl (fun ls hl => ?_)
              refine lv_aload_n hx hb dX5_isLetter_77 rfl (lv_at hl 2 rfl) ?_
              refine lv_dup hx hb dX5_isLetter_78 rfl ?_
              refine getM hx hb hta hown hE.1 hW 11 (by decide) q1192 rfl dX5_isLetter_79 ?_
              refine lv_iload_n hx hb dX5_isLetter_82 rfl (lv_at hl 0 rfl) ?_
              refine lv_iconst (v := (-1)) hx hb dX5_isLetter_83 (by decide) ?_
              refine lv_icmp_ne (tgt := 91) hx hb dX5_isLetter_84 (by decide) (fun h57 => absurd h57 (by decide)) (fun h57 => ?_)
              refine lv_iconst (v := 0) hx hb dX5_isLetter_87 (by decide) ?_
              refine lv_goto (tgt := 92) hx hb dX5_isLetter_88 (by decide) ?_
              refine lv_iadd hx hb dX5_isLetter_92 ?_
              refine putX (k := 193) (q := (5, 0)) (ci := 5) (x := ((σ 193 11) + 0)) inA5 tyX5_ok nmX5 rfl (by decide) rfl hx hb hta hown hE.1 hW hS sh_193 11 (by decide) q1192 rfl rfl rfl (Nat.le_of_ble_eq_true rfl) rfl dX5_isLetter_93 (fun H locs hW hS => ?_)
              obtain ⟨σ58, e59, hf⟩ := st_e hf
              rw [e59] at hW
              refine lv_iload_n hx hb dX5_isLetter_96 rfl (lv_at hl 0 rfl) ?_
              refine lv_iconst (v := (-1)) hx hb dX5_isLetter_97 (by decide) ?_
              refine lv_icmp_eq (tgt := 114) hx hb dX5_isLetter_98 (by decide) (fun h60 => ?_) (fun h60 => absurd h60 (by decide))
              refine lv_iconst (v := 0) hx hb dX5_isLetter_114 (by decide) ?_
              cases hf
              exact W.zret (ty := .boolean) hx hb hr (by decide) (fun u hu _ => ⟨⟨rfl, by rw [hu]; exact hW⟩, hS.F hu⟩) hS.2.2 dX5_isLetter_115
            · have hf := ifp h48 hf
              refine lv_iconst (v := 4) hx hb dX5_isLetter_71 (by decide) ?_
              refine lv_goto (tgt := 76) hx hb dX5_isLetter_72 (by decide) ?_
              refine lv_istore_n (lv' := [(3, .int 4), (2, .int (σ 200 ((σ 193 11)).toNatClampNeg)), (0, .ref (b + 193)), (1, .int p1)]) hx hb dX5_isLetter_76 rfl hl (by decide) rfl (fun ls hl => ?_)
              refine lv_aload_n hx hb dX5_isLetter_77 rfl (lv_at hl 2 rfl) ?_
              refine lv_dup hx hb dX5_isLetter_78 rfl ?_
              refine getM hx hb hta hown hE.1 hW 11 (by decide) q1192 rfl dX5_isLetter_79 ?_
              refine lv_iload_n hx hb dX5_isLetter_82 rfl (lv_at hl 0 rfl) ?_
              refine lv_iconst (v := (-1)) hx hb dX5_isLetter_83 (by decide) ?_
              refine lv_icmp_ne (tgt := 91) hx hb dX5_isLetter_84 (by decide) (fun h49 => ?_) (fun h49 => absurd h49 (by decide))
              refine lv_iconst (v := 1) hx hb dX5_isLetter_91 (by decide) ?_
              refine lv_iadd hx hb dX5_isLetter_92 ?_
              refine putX (k := 193) (q := (5, 0)) (ci := 5) (x := ((σ 193 11) + 1)) inA5 tyX5_ok nmX5 rfl (by decide) rfl hx hb hta hown hE.1 hW hS sh_193 11 (by decide) q1192 rfl rfl rfl (Nat.le_of_ble_eq_true rfl) rfl dX5_isLetter_93 (fun H locs hW hS => ?_)
              obtain ⟨σ50, e51, hf⟩ := st_e hf
              rw [e51] at hW
              refine lv_iload_n hx hb dX5_isLetter_96 rfl (lv_at hl 0 rfl) ?_
              refine lv_iconst (v := (-1)) hx hb dX5_isLetter_97 (by decide) ?_
              refine lv_icmp_eq (tgt := 114) hx hb dX5_isLetter_98 (by decide) (fun h52 => absurd h52 (by decide)) (fun h52 => ?_)
              refine lv_aload_n hx hb dX5_isLetter_101 rfl (lv_at hl 2 rfl) ?_
              refine lv_iload_n hx hb dX5_isLetter_102 rfl (lv_at hl 3 rfl) ?_
              refine lv_iload_n hx hb dX5_isLetter_103 rfl (lv_at hl 0 rfl) ?_
              obtain ⟨y53, σ55, u54, hf⟩ := b2_e hf
              refine mV (k := 193) (q := (5, 0)) (C := RX5) (T := TX5) (N := 14) (ci := 5) (n := 2) (As := [.int p1, .int 4]) (rest := []) (c_X5_isTold l D t b σ50 p1 4 y53 σ55 u54) sh_193 (by decide) rfl rfl hx hb hml hown hts hE hW hS q1488 q1490 q76 q96 q1491 hy_X5_isTold ⟨rfl, rfl⟩ ⟨Nat.le_of_ble_eq_true rfl, Nat.le_of_ble_eq_true rfl⟩ rfl rfl hl.1 (Nat.le_of_ble_eq_true rfl) ⟨Nat.zero_le _, Nat.zero_le _⟩ dX5_isLetter_104 (fun H locs hW hS => ?_)
              refine lv_if_eq (tgt := 114) hx hb dX5_isLetter_107 (by decide) (fun h56 => ?_) (fun h56 => ?_)
              · have hf := ifp h56 hf
                refine lv_iconst (v := 0) hx hb dX5_isLetter_114 (by decide) ?_
                cases hf
                exact W.zret (ty := .boolean) hx hb hr (by decide) (fun u hu _ => ⟨⟨rfl, by rw [hu]; exact hW⟩, hS.F hu⟩) hS.2.2 dX5_isLetter_115
              · have hf := ifn h56 hf
                refine lv_iconst (v := 1) hx hb dX5_isLetter_110 (by decide) ?_
                refine lv_goto (tgt := 115) hx hb dX5_isLetter_111 (by decide) ?_
                cases hf
                exact W.zret (ty := .boolean) hx hb hr (by decide) (fun u hu _ => ⟨⟨rfl, by rw [hu]; exact hW⟩, hS.F hu⟩) hS.2.2 dX5_isLetter_115
          · have hf := ifp h39 hf
            refine lv_iconst (v := 3) hx hb dX5_isLetter_61 (by decide) ?_
            refine lv_goto (tgt := 76) hx hb dX5_isLetter_62 (by decide) ?_
            refine lv_istore_n (lv' := [(3, .int 3), (2, .int (σ 200 ((σ 193 11)).toNatClampNeg)), (0, .ref (b + 193)), (1, .int p1)]) hx hb dX5_isLetter_76 rfl hl (by decide) rfl (fun ls hl => ?_)
            refine lv_aload_n hx hb dX5_isLetter_77 rfl (lv_at hl 2 rfl) ?_
            refine lv_dup hx hb dX5_isLetter_78 rfl ?_
            refine getM hx hb hta hown hE.1 hW 11 (by decide) q1192 rfl dX5_isLetter_79 ?_
            refine lv_iload_n hx hb dX5_isLetter_82 rfl (lv_at hl 0 rfl) ?_
            refine lv_iconst (v := (-1)) hx hb dX5_isLetter_83 (by decide) ?_
            refine lv_icmp_ne (tgt := 91) hx hb dX5_isLetter_84 (by decide) (fun h40 => ?_) (fun h40 => absurd h40 (by decide))
            refine lv_iconst (v := 1) hx hb dX5_isLetter_91 (by decide) ?_
            refine lv_iadd hx hb dX5_isLetter_92 ?_
            refine putX (k := 193) (q := (5, 0)) (ci := 5) (x := ((σ 193 11) + 1)) inA5 tyX5_ok nmX5 rfl (by decide) rfl hx hb hta hown hE.1 hW hS sh_193 11 (by decide) q1192 rfl rfl rfl (Nat.le_of_ble_eq_true rfl) rfl dX5_isLetter_93 (fun H locs hW hS => ?_)
            obtain ⟨σ41, e42, hf⟩ := st_e hf
            rw [e42] at hW
            refine lv_iload_n hx hb dX5_isLetter_96 rfl (lv_at hl 0 rfl) ?_
            refine lv_iconst (v := (-1)) hx hb dX5_isLetter_97 (by decide) ?_
            refine lv_icmp_eq (tgt := 114) hx hb dX5_isLetter_98 (by decide) (fun h43 => absurd h43 (by decide)) (fun h43 => ?_)
            refine lv_aload_n hx hb dX5_isLetter_101 rfl (lv_at hl 2 rfl) ?_
            refine lv_iload_n hx hb dX5_isLetter_102 rfl (lv_at hl 3 rfl) ?_
            refine lv_iload_n hx hb dX5_isLetter_103 rfl (lv_at hl 0 rfl) ?_
            obtain ⟨y44, σ46, u45, hf⟩ := b2_e hf
            refine mV (k := 193) (q := (5, 0)) (C := RX5) (T := TX5) (N := 14) (ci := 5) (n := 2) (As := [.int p1, .int 3]) (rest := []) (c_X5_isTold l D t b σ41 p1 3 y44 σ46 u45) sh_193 (by decide) rfl rfl hx hb hml hown hts hE hW hS q1488 q1490 q76 q96 q1491 hy_X5_isTold ⟨rfl, rfl⟩ ⟨Nat.le_of_ble_eq_true rfl, Nat.le_of_ble_eq_true rfl⟩ rfl rfl hl.1 (Nat.le_of_ble_eq_true rfl) ⟨Nat.zero_le _, Nat.zero_le _⟩ dX5_isLetter_104 (fun H locs hW hS => ?_)
            refine lv_if_eq (tgt := 114) hx hb dX5_isLetter_107 (by decide) (fun h47 => ?_) (fun h47 => ?_)
            · have hf := ifp h47 hf
              refine lv_iconst (v := 0) hx hb dX5_isLetter_114 (by decide) ?_
              cases hf
              exact W.zret (ty := .boolean) hx hb hr (by decide) (fun u hu _ => ⟨⟨rfl, by rw [hu]; exact hW⟩, hS.F hu⟩) hS.2.2 dX5_isLetter_115
            · have hf := ifn h47 hf
              refine lv_iconst (v := 1) hx hb dX5_isLetter_110 (by decide) ?_
              refine lv_goto (tgt := 115) hx hb dX5_isLetter_111 (by decide) ?_
              cases hf
              exact W.zret (ty := .boolean) hx hb hr (by decide) (fun u hu _ => ⟨⟨rfl, by rw [hu]; exact hW⟩, hS.F hu⟩) hS.2.2 dX5_isLetter_115
        · have hf := ifp h30 hf
          refine lv_iconst (v := 2) hx hb dX5_isLetter_51 (by decide) ?_
          refine lv_goto (tgt := 76) hx hb dX5_isLetter_52 (by decide) ?_
          refine lv_istore_n (lv' := [(3, .int 2), (2, .int (σ 200 ((σ 193 11)).toNatClampNeg)), (0, .ref (b + 193)), (1, .int p1)]) hx hb dX5_isLetter_76 rfl hl (by decide) rfl (fun ls hl => ?_)
          refine lv_aload_n hx hb dX5_isLetter_77 rfl (lv_at hl 2 rfl) ?_
          refine lv_dup hx hb dX5_isLetter_78 rfl ?_
          refine getM hx hb hta hown hE.1 hW 11 (by decide) q1192 rfl dX5_isLetter_79 ?_
          refine lv_iload_n hx hb dX5_isLetter_82 rfl (lv_at hl 0 rfl) ?_
          refine lv_iconst (v := (-1)) hx hb dX5_isLetter_83 (by decide) ?_
          refine lv_icmp_ne (tgt := 91) hx hb dX5_isLetter_84 (by decide) (fun h31 => ?_) (fun h31 => absurd h31 (by decide))
          refine lv_iconst (v := 1) hx hb dX5_isLetter_91 (by decide) ?_
          refine lv_iadd hx hb dX5_isLetter_92 ?_
          refine putX (k := 193) (q := (5, 0)) (ci := 5) (x := ((σ 193 11) + 1)) inA5 tyX5_ok nmX5 rfl (by decide) rfl hx hb hta hown hE.1 hW hS sh_193 11 (by decide) q1192 rfl rfl rfl (Nat.le_of_ble_eq_true rfl) rfl dX5_isLetter_93 (fun H locs hW hS => ?_)
          obtain ⟨σ32, e33, hf⟩ := st_e hf
          rw [e33] at hW
          refine lv_iload_n hx hb dX5_isLetter_96 rfl (lv_at hl 0 rfl) ?_
          refine lv_iconst (v := (-1)) hx hb dX5_isLetter_97 (by decide) ?_
          refine lv_icmp_eq (tgt := 114) hx hb dX5_isLetter_98 (by decide) (fun h34 => absurd h34 (by decide)) (fun h34 => ?_)
          refine lv_aload_n hx hb dX5_isLetter_101 rfl (lv_at hl 2 rfl) ?_
          refine lv_iload_n hx hb dX5_isLetter_102 rfl (lv_at hl 3 rfl) ?_
          refine lv_iload_n hx hb dX5_isLetter_103 rfl (lv_at hl 0 rfl) ?_
          obtain ⟨y35, σ37, u36, hf⟩ := b2_e hf
          refine mV (k := 193) (q := (5, 0)) (C := RX5) (T := TX5) (N := 14) (ci := 5) (n := 2) (As := [.int p1, .int 2]) (rest := []) (c_X5_isTold l D t b σ32 p1 2 y35 σ37 u36) sh_193 (by decide) rfl rfl hx hb hml hown hts hE hW hS q1488 q1490 q76 q96 q1491 hy_X5_isTold ⟨rfl, rfl⟩ ⟨Nat.le_of_ble_eq_true rfl, Nat.le_of_ble_eq_true rfl⟩ rfl rfl hl.1 (Nat.le_of_ble_eq_true rfl) ⟨Nat.zero_le _, Nat.zero_le _⟩ dX5_isLetter_104 (fun H locs hW hS => ?_)
          refine lv_if_eq (tgt := 114) hx hb dX5_isLetter_107 (by decide) (fun h38 => ?_) (fun h38 => ?_)
          · have hf := ifp h38 hf
            refine lv_iconst (v := 0) hx hb dX5_isLetter_114 (by decide) ?_
            cases hf
            exact W.zret (ty := .boolean) hx hb hr (by decide) (fun u hu _ => ⟨⟨rfl, by rw [hu]; exact hW⟩, hS.F hu⟩) hS.2.2 dX5_isLetter_115
          · have hf := ifn h38 hf
            refine lv_iconst (v := 1) hx hb dX5_isLetter_110 (by decide) ?_
            refine lv_goto (tgt := 115) hx hb dX5_isLetter_111 (by decide) ?_
            cases hf
            exact W.zret (ty := .boolean) hx hb hr (by decide) (fun u hu _ => ⟨⟨rfl, by rw [hu]; exact hW⟩, hS.F hu⟩) hS.2.2 dX5_isLetter_115
      · have hf := ifp h21 hf
        refine lv_iconst (v := 1) hx hb dX5_isLetter_41 (by decide) ?_
        refine lv_goto (tgt := 76) hx hb dX5_isLetter_42 (by decide) ?_
        refine lv_istore_n (lv' := [(3, .int 1), (2, .int (σ 200 ((σ 193 11)).toNatClampNeg)), (0, .ref (b + 193)), (1, .int p1)]) hx hb dX5_isLetter_76 rfl hl (by decide) rfl (fun ls hl => ?_)
        refine lv_aload_n hx hb dX5_isLetter_77 rfl (lv_at hl 2 rfl) ?_
        refine lv_dup hx hb dX5_isLetter_78 rfl ?_
        refine getM hx hb hta hown hE.1 hW 11 (by decide) q1192 rfl dX5_isLetter_79 ?_
        refine lv_iload_n hx hb dX5_isLetter_82 rfl (lv_at hl 0 rfl) ?_
        refine lv_iconst (v := (-1)) hx hb dX5_isLetter_83 (by decide) ?_
        refine lv_icmp_ne (tgt := 91) hx hb dX5_isLetter_84 (by decide) (fun h22 => ?_) (fun h22 => absurd h22 (by decide))
        refine lv_iconst (v := 1) hx hb dX5_isLetter_91 (by decide) ?_
        refine lv_iadd hx hb dX5_isLetter_92 ?_
        refine putX (k := 193) (q := (5, 0)) (ci := 5) (x := ((σ 193 11) + 1)) inA5 tyX5_ok nmX5 rfl (by decide) rfl hx hb hta hown hE.1 hW hS sh_193 11 (by decide) q1192 rfl rfl rfl (Nat.le_of_ble_eq_true rfl) rfl dX5_isLetter_93 (fun H locs hW hS => ?_)
        obtain ⟨σ23, e24, hf⟩ := st_e hf
        rw [e24] at hW
        refine lv_iload_n hx hb dX5_isLetter_96 rfl (lv_at hl 0 rfl) ?_
        refine lv_iconst (v := (-1)) hx hb dX5_isLetter_97 (by decide) ?_
        refine lv_icmp_eq (tgt := 114) hx hb dX5_isLetter_98 (by decide) (fun h25 => absurd h25 (by decide)) (fun h25 => ?_)
        refine lv_aload_n hx hb dX5_isLetter_101 rfl (lv_at hl 2 rfl) ?_
        refine lv_iload_n hx hb dX5_isLetter_102 rfl (lv_at hl 3 rfl) ?_
        refine lv_iload_n hx hb dX5_isLetter_103 rfl (lv_at hl 0 rfl) ?_
        obtain ⟨y26, σ28, u27, hf⟩ := b2_e hf
        refine mV (k := 193) (q := (5, 0)) (C := RX5) (T := TX5) (N := 14) (ci := 5) (n := 2) (As := [.int p1, .int 1]) (rest := []) (c_X5_isTold l D t b σ23 p1 1 y26 σ28 u27) sh_193 (by decide) rfl rfl hx hb hml hown hts hE hW hS q1488 q1490 q76 q96 q1491 hy_X5_isTold ⟨rfl, rfl⟩ ⟨Nat.le_of_ble_eq_true rfl, Nat.le_of_ble_eq_true rfl⟩ rfl rfl hl.1 (Nat.le_of_ble_eq_true rfl) ⟨Nat.zero_le _, Nat.zero_le _⟩ dX5_isLetter_104 (fun H locs hW hS => ?_)
        refine lv_if_eq (tgt := 114) hx hb dX5_isLetter_107 (by decide) (fun h29 => ?_) (fun h29 => ?_)
        · have hf := ifp h29 hf
          refine lv_iconst (v := 0) hx hb dX5_isLetter_114 (by decide) ?_
          cases hf
          exact W.zret (ty := .boolean) hx hb hr (by decide) (fun u hu _ => ⟨⟨rfl, by rw [hu]; exact hW⟩, hS.F hu⟩) hS.2.2 dX5_isLetter_115
        · have hf := ifn h29 hf
          refine lv_iconst (v := 1) hx hb dX5_isLetter_110 (by decide) ?_
          refine lv_goto (tgt := 115) hx hb dX5_isLetter_111 (by decide) ?_
          cases hf
          exact W.zret (ty := .boolean) hx hb hr (by decide) (fun u hu _ => ⟨⟨rfl, by rw [hu]; exact hW⟩, hS.F hu⟩) hS.2.2 dX5_isLetter_115
    · have hf := ifp h12 hf
      refine lv_iconst (v := 0) hx hb dX5_isLetter_31 (by decide) ?_
      refine lv_goto (tgt := 76) hx hb dX5_isLetter_32 (by decide) ?_
      refine lv_istore_n (lv' := [(3, .int 0), (2, .int (σ 200 ((σ 193 11)).toNatClampNeg)), (0, .ref (b + 193)), (1, .int p1)]) hx hb dX5_isLetter_76 rfl hl (by decide) rfl (fun ls hl => ?_)
      refine lv_aload_n hx hb dX5_isLetter_77 rfl (lv_at hl 2 rfl) ?_
      refine lv_dup hx hb dX5_isLetter_78 rfl ?_
      refine getM hx hb hta hown hE.1 hW 11 (by decide) q1192 rfl dX5_isLetter_79 ?_
      refine lv_iload_n hx hb dX5_isLetter_82 rfl (lv_at hl 0 rfl) ?_
      refine lv_iconst (v := (-1)) hx hb dX5_isLetter_83 (by decide) ?_
      refine lv_icmp_ne (tgt := 91) hx hb dX5_isLetter_84 (by decide) (fun h13 => ?_) (fun h13 => absurd h13 (by decide))
      refine lv_iconst (v := 1) hx hb dX5_isLetter_91 (by decide) ?_
      refine lv_iadd hx hb dX5_isLetter_92 ?_
      refine putX (k := 193) (q := (5, 0)) (ci := 5) (x := ((σ 193 11) + 1)) inA5 tyX5_ok nmX5 rfl (by decide) rfl hx hb hta hown hE.1 hW hS sh_193 11 (by decide) q1192 rfl rfl rfl (Nat.le_of_ble_eq_true rfl) rfl dX5_isLetter_93 (fun H locs hW hS => ?_)
      obtain ⟨σ14, e15, hf⟩ := st_e hf
      rw [e15] at hW
      refine lv_iload_n hx hb dX5_isLetter_96 rfl (lv_at hl 0 rfl) ?_
      refine lv_iconst (v := (-1)) hx hb dX5_isLetter_97 (by decide) ?_
      refine lv_icmp_eq (tgt := 114) hx hb dX5_isLetter_98 (by decide) (fun h16 => absurd h16 (by decide)) (fun h16 => ?_)
      refine lv_aload_n hx hb dX5_isLetter_101 rfl (lv_at hl 2 rfl) ?_
      refine lv_iload_n hx hb dX5_isLetter_102 rfl (lv_at hl 3 rfl) ?_
      refine lv_iload_n hx hb dX5_isLetter_103 rfl (lv_at hl 0 rfl) ?_
      obtain ⟨y17, σ19, u18, hf⟩ := b2_e hf
      refine mV (k := 193) (q := (5, 0)) (C := RX5) (T := TX5) (N := 14) (ci := 5) (n := 2) (As := [.int p1, .int 0]) (rest := []) (c_X5_isTold l D t b σ14 p1 0 y17 σ19 u18) sh_193 (by decide) rfl rfl hx hb hml hown hts hE hW hS q1488 q1490 q76 q96 q1491 hy_X5_isTold ⟨rfl, rfl⟩ ⟨Nat.le_of_ble_eq_true rfl, Nat.le_of_ble_eq_true rfl⟩ rfl rfl hl.1 (Nat.le_of_ble_eq_true rfl) ⟨Nat.zero_le _, Nat.zero_le _⟩ dX5_isLetter_104 (fun H locs hW hS => ?_)
      refine lv_if_eq (tgt := 114) hx hb dX5_isLetter_107 (by decide) (fun h20 => ?_) (fun h20 => ?_)
      · have hf := ifp h20 hf
        refine lv_iconst (v := 0) hx hb dX5_isLetter_114 (by decide) ?_
        cases hf
        exact W.zret (ty := .boolean) hx hb hr (by decide) (fun u hu _ => ⟨⟨rfl, by rw [hu]; exact hW⟩, hS.F hu⟩) hS.2.2 dX5_isLetter_115
      · have hf := ifn h20 hf
        refine lv_iconst (v := 1) hx hb dX5_isLetter_110 (by decide) ?_
        refine lv_goto (tgt := 115) hx hb dX5_isLetter_111 (by decide) ?_
        cases hf
        exact W.zret (ty := .boolean) hx hb hr (by decide) (fun u hu _ => ⟨⟨rfl, by rw [hu]; exact hW⟩, hS.F hu⟩) hS.2.2 dX5_isLetter_115
def f_X5_isOrder (σ : Sg) : Option (Int32 × Sg) := if (σ 193 11) = (σ 193 9) then (some (0, σ)) else (gd (σ 193 11) 80 (gd (5 * (σ 193 13)) 205 (st (u2 σ 201 ((5 * (σ 193 13))).toNatClampNeg (σ 200 ((σ 193 11)).toNatClampNeg)) fun σ4 => st (u2 σ4 193 11 ((σ4 193 11) + 1)) fun σ6 => if (σ 200 ((σ 193 11)).toNatClampNeg) = 98 then (b2 (f_X5_isNumber σ6 1 0 11) fun y9 σ11 => if y9 = 0 then (some (0, σ11)) else (b2 (f_X5_isLetter σ11 2) fun y13 σ15 => if y13 = 0 then (some (0, σ15)) else (b2 (f_X5_isNumber σ15 3 1 9) fun y17 σ19 => if y17 = 0 then (some (0, σ19)) else (b2 (f_X5_takes σ19 94) fun y21 σ23 => if y21 = 0 then (b2 (f_X5_isTold σ23 4 0) fun y25 σ27 => if y25 = 0 then (some (0, σ27)) else (some (1, σ27))) else (b2 (f_X5_isTold σ23 4 1) fun y29 σ31 => if y29 = 0 then (some (0, σ31)) else (some (1, σ31))))))) else (if (σ 200 ((σ 193 11)).toNatClampNeg) = 99 then (b2 (f_X5_isNumber σ6 1 0 99) fun y34 σ36 => if y34 = 0 then (some (0, σ36)) else (b2 (f_X5_isLetter σ36 2) fun y38 σ40 => if y38 = 0 then (some (0, σ40)) else (b2 (f_X5_isNumber σ40 3 0 3) fun y42 σ44 => if y42 = 0 then (some (0, σ44)) else (some (1, σ44))))) else (if (σ 200 ((σ 193 11)).toNatClampNeg) = 102 then (b2 (f_X5_isNumber σ6 1 0 5) fun y47 σ49 => if y47 = 0 then (some (0, σ49)) else (b2 (f_X5_takes σ49 43) fun y51 σ53 => if y51 = 0 then (some (0, σ53)) else (b2 (f_X5_isNumber σ53 2 1 99) fun y55 σ57 => if y55 = 0 then (some (0, σ57)) else (some (1, σ57))))) else (if (σ 200 ((σ 193 11)).toNatClampNeg) = 112 then (b2 (f_X5_isNumber σ6 1 1 40) fun y60 σ62 => gd y60 2 (some (y60, σ62))) else (if (σ 200 ((σ 193 11)).toNatClampNeg) = 114 then (b2 (f_X5_isNumber σ6 1 0 5) fun y65 σ67 => if y65 = 0 then (some (0, σ67)) else (b2 (f_X5_takes σ67 58) fun y69 σ71 => if y69 = 0 then (some (0, σ71)) else (b2 (f_X5_isNumber σ71 2 0 3) fun y73 σ75 => if y73 = 0 then (some (0, σ75)) else (b2 (f_X5_isNumber σ75 3 0 3) fun y77 σ79 => if y77 = 0 then (some (0, σ79)) else (b2 (f_X5_takes σ79 42) fun y81 σ83 => if y81 = 0 then (some (0, σ83)) else (b2 (f_X5_isNumber σ83 4 1 40) fun y85 σ87 => if y85 = 0 then (some (0, σ87)) else (some (1, σ87)))))))) else (if (σ 200 ((σ 193 11)).toNatClampNeg) = 119 then (b2 (f_X5_isNumber σ6 1 0 9) fun y90 σ92 => if y90 = 0 then (some (0, σ92)) else (b2 (f_X5_takes σ92 61) fun y94 σ96 => if y94 = 0 then (some (0, σ96)) else (b2 (f_X5_isNumber σ96 2 0 9) fun y98 σ100 => if y98 = 0 then (some (0, σ100)) else (some (1, σ100))))) else (st (u2 σ6 193 11 ((σ6 193 11) - 1)) fun σ102 => some (0, σ102))))))))))
set_option maxHeartbeats 4000000 in
set_option maxRecDepth 100000 in
theorem c_X5_isOrder (l : Launch) (D : va_G) (t : Nat → ClassId) (b : Nat) (σ : Sg) (r : Int32) (σr : Sg) (hf : f_X5_isOrder σ = some (r, σr)) : Met l yX5_isOrder (Cond.code yX5_isOrder cX5_isOrder 2 (some .boolean) :: ALL) ({ frames := 3, cells := 0, slots := 0, locals := 66 }) (PM D t b σ [.ref (b + 193)]) (QG D t b σr (some (.int r))) 0 0 (geA b) := by
  refine Met.ofW (cc := cX5_isOrder) (maxL := 2) (ret := (some .boolean)) (by decide) rfl ?_
  intro p e s m args below meth c s₁ B hml hv
  obtain ⟨rfl, hW, hE⟩ := hv
  have hx := B.exec
  have hb := B.bytes
  have hr := B.returns
  have hts := atoms_spec (ws := Cond.code yX5_isOrder cX5_isOrder 2 (some .boolean) :: ALL) B.pre
  have hta := fun w h => hts w (List.mem_cons_of_mem _ h)
  have hown : s.vm.findClass RX5 = some m.cls := findClass_of_methodNamed B.named
  have hlocks := B.notSynchronized
  have hS : va_S (geA b) s.heap s.heap [] := va_S.rf
  have hl := lv_entry ([.ref (b + 193)]) (n := 2) (Nat.le_of_ble_eq_true rfl)
  rw [lg_entry_eq]
  generalize (lg_sl ([.ref (b + 193)]) ++ List.replicate (2 - (lg_sl ([.ref (b + 193)])).length) Slot.unset).toArray = ls at hl ⊢
  have hl : lv_has ls 2 [(0, .ref (b + 193))] := hl
  unfold f_X5_isOrder at hf
  refine lv_aload_n hx hb dX5_isOrder_0 rfl (lv_at hl 0 rfl) ?_
  refine getM hx hb hta hown hE.1 hW 11 (by decide) q1192 rfl dX5_isOrder_1 ?_
  refine lv_aload_n hx hb dX5_isOrder_4 rfl (lv_at hl 0 rfl) ?_
  refine getM hx hb hta hown hE.1 hW 9 (by decide) q1190 rfl dX5_isOrder_5 ?_
  refine lv_icmp_ne (tgt := 13) hx hb dX5_isOrder_8 (by decide) (fun h1 => ?_) (fun h1 => ?_)
  · have hf := ifn h1 hf
    refine lv_aload_n hx hb dX5_isOrder_13 rfl (lv_at hl 0 rfl) ?_
    refine getM hx hb hta hown hE.1 hW 8 (by decide) q1189 rfl dX5_isOrder_14 ?_
    refine lv_aload_n hx hb dX5_isOrder_17 rfl (lv_at hl 0 rfl) ?_
    refine getM hx hb hta hown hE.1 hW 11 (by decide) q1192 rfl dX5_isOrder_18 ?_
    obtain ⟨g2, hf⟩ := gd_e hf
    refine iald hx hb hE.1 hW sh_200 g2 dX5_isOrder_21 ?_
    refine lv_istore_n (lv' := [(1, .int (σ 200 ((σ 193 11)).toNatClampNeg)), (0, .ref (b + 193))]) hx hb dX5_isOrder_22 rfl hl (by decide) rfl (fun ls hl => ?_)
    refine lv_aload_n hx hb dX5_isOrder_23 rfl (lv_at hl 1 rfl) ?_
    refine getM hx hb hta hown hE.1 hW 12 (by decide) q1193 rfl dX5_isOrder_24 ?_
    refine lv_iconst (v := 5) hx hb dX5_isOrder_27 (by decide) ?_
    refine lv_aload_n hx hb dX5_isOrder_28 rfl (lv_at hl 1 rfl) ?_
    refine getM hx hb hta hown hE.1 hW 13 (by decide) q1194 rfl dX5_isOrder_29 ?_
    refine lv_imul hx hb dX5_isOrder_32 ?_
    refine lv_iload_n hx hb dX5_isOrder_33 rfl (lv_at hl 0 rfl) ?_
    obtain ⟨g3, hf⟩ := gd_e hf
    refine iast (k := 201) (i := (5 * (σ 193 13))) (x := (σ 200 ((σ 193 11)).toNatClampNeg)) hx hb hE.1 hW hS sh_201 g3 dX5_isOrder_34 (fun H locs hW hS => ?_)
    obtain ⟨σ4, e5, hf⟩ := st_e hf
    rw [e5] at hW
    refine lv_aload_n hx hb dX5_isOrder_35 rfl (lv_at hl 1 rfl) ?_
    refine lv_dup hx hb dX5_isOrder_36 rfl ?_
    refine getM hx hb hta hown hE.1 hW 11 (by decide) q1192 rfl dX5_isOrder_37 ?_
    refine lv_iconst (v := 1) hx hb dX5_isOrder_40 (by decide) ?_
    refine lv_iadd hx hb dX5_isOrder_41 ?_
    refine putX (k := 193) (q := (5, 0)) (ci := 5) (x := ((σ4 193 11) + 1)) inA5 tyX5_ok nmX5 rfl (by decide) rfl hx hb hta hown hE.1 hW hS sh_193 11 (by decide) q1192 rfl rfl rfl (Nat.le_of_ble_eq_true rfl) rfl dX5_isOrder_42 (fun H locs hW hS => ?_)
    obtain ⟨σ6, e7, hf⟩ := st_e hf
    rw [e7] at hW
    refine lv_iload_n hx hb dX5_isOrder_45 rfl (lv_at hl 0 rfl) ?_
    by_cases h8 : (σ 200 ((σ 193 11)).toNatClampNeg) = 98
    · have hf := ifp h8 hf
      refine lv_lookup (off := 58) (tgt := 104) hx hb dX5_isOrder_46 (by decide) (by rw [h8]; decide) (by decide) ?_
      refine lv_aload_n hx hb dX5_isOrder_104 rfl (lv_at hl 1 rfl) ?_
      refine lv_iconst (v := 1) hx hb dX5_isOrder_105 (by decide) ?_
      refine lv_iconst (v := 0) hx hb dX5_isOrder_106 (by decide) ?_
      refine lv_bipush (v := 11) hx hb dX5_isOrder_107 (by decide) ?_
      obtain ⟨y9, σ11, u10, hf⟩ := b2_e hf
      refine mV (k := 193) (q := (5, 0)) (C := RX5) (T := TX5) (N := 14) (ci := 5) (n := 3) (As := [.int 1, .int 0, .int 11]) (rest := []) (c_X5_isNumber l D t b σ6 1 0 11 y9 σ11 u10) sh_193 (by decide) rfl rfl hx hb hml hown hts hE hW hS q1480 q1482 q74 q96 q1483 hy_X5_isNumber ⟨rfl, rfl⟩ ⟨Nat.le_of_ble_eq_true rfl, Nat.le_of_ble_eq_true rfl⟩ rfl rfl hl.1 (Nat.le_of_ble_eq_true rfl) ⟨Nat.zero_le _, Nat.zero_le _⟩ dX5_isOrder_109 (fun H locs hW hS => ?_)
      refine lv_if_eq (tgt := 160) hx hb dX5_isOrder_112 (by decide) (fun h12 => ?_) (fun h12 => ?_)
      · have hf := ifp h12 hf
        refine lv_iconst (v := 0) hx hb dX5_isOrder_160 (by decide) ?_
        cases hf
        exact W.zret (ty := .boolean) hx hb hr (by decide) (fun u hu _ => ⟨⟨rfl, by rw [hu]; exact hW⟩, hS.F hu⟩) hS.2.2 dX5_isOrder_161
      · have hf := ifn h12 hf
        refine lv_aload_n hx hb dX5_isOrder_115 rfl (lv_at hl 1 rfl) ?_
        refine lv_iconst (v := 2) hx hb dX5_isOrder_116 (by decide) ?_
        obtain ⟨y13, σ15, u14, hf⟩ := b2_e hf
        refine mV (k := 193) (q := (5, 0)) (C := RX5) (T := TX5) (N := 14) (ci := 5) (n := 1) (As := [.int 2]) (rest := []) (c_X5_isLetter l D t b σ11 2 y13 σ15 u14) sh_193 (by decide) rfl rfl hx hb hml hown hts hE hW hS q1492 q1494 q77 q96 q1495 hy_X5_isLetter ⟨rfl, rfl⟩ ⟨Nat.le_of_ble_eq_true rfl, Nat.le_of_ble_eq_true rfl⟩ rfl rfl hl.1 (Nat.le_of_ble_eq_true rfl) ⟨Nat.zero_le _, Nat.zero_le _⟩ dX5_isOrder_117 (fun H locs hW hS => ?_)
        refine lv_if_eq (tgt := 160) hx hb dX5_isOrder_120 (by decide) (fun h16 => ?_) (fun h16 => ?_)
        · have hf := ifp h16 hf
          refine lv_iconst (v := 0) hx hb dX5_isOrder_160 (by decide) ?_
          cases hf
          exact W.zret (ty := .boolean) hx hb hr (by decide) (fun u hu _ => ⟨⟨rfl, by rw [hu]; exact hW⟩, hS.F hu⟩) hS.2.2 dX5_isOrder_161
        · have hf := ifn h16 hf
          refine lv_aload_n hx hb dX5_isOrder_123 rfl (lv_at hl 1 rfl) ?_
          refine lv_iconst (v := 3) hx hb dX5_isOrder_124 (by decide) ?_
          refine lv_iconst (v := 1) hx hb dX5_isOrder_125 (by decide) ?_
          refine lv_bipush (v := 9) hx hb dX5_isOrder_126 (by decide) ?_
          obtain ⟨y17, σ19, u18, hf⟩ := b2_e hf
          refine mV (k := 193) (q := (5, 0)) (C := RX5) (T := TX5) (N := 14) (ci := 5) (n := 3) (As := [.int 3, .int 1, .int 9]) (rest := []) (c_X5_isNumber l D t b σ15 3 1 9 y17 σ19 u18) sh_193 (by decide) rfl rfl hx hb hml hown hts hE hW hS q1480 q1482 q74 q96 q1483 hy_X5_isNumber ⟨rfl, rfl⟩ ⟨Nat.le_of_ble_eq_true rfl, Nat.le_of_ble_eq_true rfl⟩ rfl rfl hl.1 (Nat.le_of_ble_eq_true rfl) ⟨Nat.zero_le _, Nat.zero_le _⟩ dX5_isOrder_128 (fun H locs hW hS => ?_)
          refine lv_if_eq (tgt := 160) hx hb dX5_isOrder_131 (by decide) (fun h20 => ?_) (fun h20 => ?_)
          · have hf := ifp h20 hf
            refine lv_iconst (v := 0) hx hb dX5_isOrder_160 (by decide) ?_
            cases hf
            exact W.zret (ty := .boolean) hx hb hr (by decide) (fun u hu _ => ⟨⟨rfl, by rw [hu]; exact hW⟩, hS.F hu⟩) hS.2.2 dX5_isOrder_161
          · have hf := ifn h20 hf
            refine lv_aload_n hx hb dX5_isOrder_134 rfl (lv_at hl 1 rfl) ?_
            refine lv_iconst (v := 4) hx hb dX5_isOrder_135 (by decide) ?_
            refine lv_aload_n hx hb dX5_isOrder_136 rfl (lv_at hl 1 rfl) ?_
            refine lv_bipush (v := 94) hx hb dX5_isOrder_137 (by decide) ?_
            obtain ⟨y21, σ23, u22, hf⟩ := b2_e hf
            refine mV (k := 193) (q := (5, 0)) (C := RX5) (T := TX5) (N := 14) (ci := 5) (n := 1) (As := [.int 94]) (rest := [.int 4, .ref (b + 193)]) (c_X5_takes l D t b σ19 94 y21 σ23 u22) sh_193 (by decide) rfl rfl hx hb hml hown hts hE hW hS q1496 q1498 q78 q96 q1499 hy_X5_takes ⟨rfl, rfl⟩ ⟨Nat.le_of_ble_eq_true rfl, Nat.le_of_ble_eq_true rfl⟩ rfl rfl hl.1 (Nat.le_of_ble_eq_true rfl) ⟨Nat.zero_le _, Nat.zero_le _⟩ dX5_isOrder_139 (fun H locs hW hS => ?_)
            refine lv_if_eq (tgt := 149) hx hb dX5_isOrder_142 (by decide) (fun h24 => ?_) (fun h24 => ?_)
            · have hf := ifp h24 hf
              refine lv_iconst (v := 0) hx hb dX5_isOrder_149 (by decide) ?_
              obtain ⟨y25, σ27, u26, hf⟩ := b2_e hf
              refine mV (k := 193) (q := (5, 0)) (C := RX5) (T := TX5) (N := 14) (ci := 5) (n := 2) (As := [.int 4, .int 0]) (rest := []) (c_X5_isTold l D t b σ23 4 0 y25 σ27 u26) sh_193 (by decide) rfl rfl hx hb hml hown hts hE hW hS q1488 q1490 q76 q96 q1491 hy_X5_isTold ⟨rfl, rfl⟩ ⟨Nat.le_of_ble_eq_true rfl, Nat.le_of_ble_eq_true rfl⟩ rfl rfl hl.1 (Nat.le_of_ble_eq_true rfl) ⟨Nat.zero_le _, Nat.zero_le _⟩ dX5_isOrder_150 (fun H locs hW hS => ?_)
              refine lv_if_eq (tgt := 160) hx hb dX5_isOrder_153 (by decide) (fun h28 => ?_) (fun h28 => ?_)
              · have hf := ifp h28 hf
                refine lv_iconst (v := 0) hx hb dX5_isOrder_160 (by decide) ?_
                cases hf
                exact W.zret (ty := .boolean) hx hb hr (by decide) (fun u hu _ => ⟨⟨rfl, by rw [hu]; exact hW⟩, hS.F hu⟩) hS.2.2 dX5_isOrder_161
              · have hf := ifn h28 hf
                refine lv_iconst (v := 1) hx hb dX5_isOrder_156 (by decide) ?_
                refine lv_goto (tgt := 161) hx hb dX5_isOrder_157 (by decide) ?_
                cases hf
                exact W.zret (ty := .boolean) hx hb hr (by decide) (fun u hu _ => ⟨⟨rfl, by rw [hu]; exact hW⟩, hS.F hu⟩) hS.2.2 dX5_isOrder_161
            · have hf := ifn h24 hf
              refine lv_iconst (v := 1) hx hb dX5_isOrder_145 (by decide) ?_
              refine lv_goto (tgt := 150) hx hb dX5_isOrder_146 (by decide) ?_
              obtain ⟨y29, σ31, u30, hf⟩ := b2_e hf
              refine mV (k := 193) (q := (5, 0)) (C := RX5) (T := TX5) (N := 14) (ci := 5) (n := 2) (As := [.int 4, .int 1]) (rest := []) (c_X5_isTold l D t b σ23 4 1 y29 σ31 u30) sh_193 (by decide) rfl rfl hx hb hml hown hts hE hW hS q1488 q1490 q76 q96 q1491 hy_X5_isTold ⟨rfl, rfl⟩ ⟨Nat.le_of_ble_eq_true rfl, Nat.le_of_ble_eq_true rfl⟩ rfl rfl hl.1 (Nat.le_of_ble_eq_true rfl) ⟨Nat.zero_le _, Nat.zero_le _⟩ dX5_isOrder_150 (fun H locs hW hS => ?_)
              refine lv_if_eq (tgt := 160) hx hb dX5_isOrder_153 (by decide) (fun h32 => ?_) (fun h32 => ?_)
              · have hf := ifp h32 hf
                refine lv_iconst (v := 0) hx hb dX5_isOrder_160 (by decide) ?_
                cases hf
                exact W.zret (ty := .boolean) hx hb hr (by decide) (fun u hu _ => ⟨⟨rfl, by rw [hu]; exact hW⟩, hS.F hu⟩) hS.2.2 dX5_isOrder_161
              · have hf := ifn h32 hf
                refine lv_iconst (v := 1) hx hb dX5_isOrder_156 (by decide) ?_
                refine lv_goto (tgt := 161) hx hb dX5_isOrder_157 (by decide) ?_
                cases hf
                exact W.zret (ty := .boolean) hx hb hr (by decide) (fun u hu _ => ⟨⟨rfl, by rw [hu]; exact hW⟩, hS.F hu⟩) hS.2.2 dX5_isOrder_161
    · have hf := ifn h8 hf
      by_cases h33 : (σ 200 ((σ 193 11)).toNatClampNeg) = 99
      · have hf := ifp h33 hf
        refine lv_lookup (off := 217) (tgt := 263) hx hb dX5_isOrder_46 (by decide) (by rw [h33]; decide) (by decide) ?_
        refine lv_aload_n hx hb dX5_isOrder_263 rfl (lv_at hl 1 rfl) ?_
        refine lv_iconst (v := 1) hx hb dX5_isOrder_264 (by decide) ?_
        refine lv_iconst (v := 0) hx hb dX5_isOrder_265 (by decide) ?_
        refine lv_bipush (v := 99) hx hb dX5_isOrder_266 (by decide) ?_
        obtain ⟨y34, σ36, u35, hf⟩ := b2_e hf
        refine mV (k := 193) (q := (5, 0)) (C := RX5) (T := TX5) (N := 14) (ci := 5) (n := 3) (As := [.int 1, .int 0, .int 99]) (rest := []) (c_X5_isNumber l D t b σ6 1 0 99 y34 σ36 u35) sh_193 (by decide) rfl rfl hx hb hml hown hts hE hW hS q1480 q1482 q74 q96 q1483 hy_X5_isNumber ⟨rfl, rfl⟩ ⟨Nat.le_of_ble_eq_true rfl, Nat.le_of_ble_eq_true rfl⟩ rfl rfl hl.1 (Nat.le_of_ble_eq_true rfl) ⟨Nat.zero_le _, Nat.zero_le _⟩ dX5_isOrder_268 (fun H locs hW hS => ?_)
        refine lv_if_eq (tgt := 296) hx hb dX5_isOrder_271 (by decide) (fun h37 => ?_) (fun h37 => ?_)
        · have hf := ifp h37 hf
          refine lv_iconst (v := 0) hx hb dX5_isOrder_296 (by decide) ?_
          cases hf
          exact W.zret (ty := .boolean) hx hb hr (by decide) (fun u hu _ => ⟨⟨rfl, by rw [hu]; exact hW⟩, hS.F hu⟩) hS.2.2 dX5_isOrder_297
        · have hf := ifn h37 hf
          refine lv_aload_n hx hb dX5_isOrder_274 rfl (lv_at hl 1 rfl) ?_
          refine lv_iconst (v := 2) hx hb dX5_isOrder_275 (by decide) ?_
          obtain ⟨y38, σ40, u39, hf⟩ := b2_e hf
          refine mV (k := 193) (q := (5, 0)) (C := RX5) (T := TX5) (N := 14) (ci := 5) (n := 1) (As := [.int 2]) (rest := []) (c_X5_isLetter l D t b σ36 2 y38 σ40 u39) sh_193 (by decide) rfl rfl hx hb hml hown hts hE hW hS q1492 q1494 q77 q96 q1495 hy_X5_isLetter ⟨rfl, rfl⟩ ⟨Nat.le_of_ble_eq_true rfl, Nat.le_of_ble_eq_true rfl⟩ rfl rfl hl.1 (Nat.le_of_ble_eq_true rfl) ⟨Nat.zero_le _, Nat.zero_le _⟩ dX5_isOrder_276 (fun H locs hW hS => ?_)
          refine lv_if_eq (tgt := 296) hx hb dX5_isOrder_279 (by decide) (fun h41 => ?_) (fun h41 => ?_)
          · have hf := ifp h41 hf
            refine lv_iconst (v := 0) hx hb dX5_isOrder_296 (by decide) ?_
            cases hf
            exact W.zret (ty := .boolean) hx hb hr (by decide) (fun u hu _ => ⟨⟨rfl, by rw [hu]; exact hW⟩, hS.F hu⟩) hS.2.2 dX5_isOrder_297
          · have hf := ifn h41 hf
            refine lv_aload_n hx hb dX5_isOrder_282 rfl (lv_at hl 1 rfl) ?_
            refine lv_iconst (v := 3) hx hb dX5_isOrder_283 (by decide) ?_
            refine lv_iconst (v := 0) hx hb dX5_isOrder_284 (by decide) ?_
            refine lv_iconst (v := 3) hx hb dX5_isOrder_285 (by decide) ?_
            obtain ⟨y42, σ44, u43, hf⟩ := b2_e hf
            refine mV (k := 193) (q := (5, 0)) (C := RX5) (T := TX5) (N := 14) (ci := 5) (n := 3) (As := [.int 3, .int 0, .int 3]) (rest := []) (c_X5_isNumber l D t b σ40 3 0 3 y42 σ44 u43) sh_193 (by decide) rfl rfl hx hb hml hown hts hE hW hS q1480 q1482 q74 q96 q1483 hy_X5_isNumber ⟨rfl, rfl⟩ ⟨Nat.le_of_ble_eq_true rfl, Nat.le_of_ble_eq_true rfl⟩ rfl rfl hl.1 (Nat.le_of_ble_eq_true rfl) ⟨Nat.zero_le _, Nat.zero_le _⟩ dX5_isOrder_286 (fun H locs hW hS => ?_)
            refine lv_if_eq (tgt := 296) hx hb dX5_isOrder_289 (by decide) (fun h45 => ?_) (fun h45 => ?_)
            · have hf := ifp h45 hf
              refine lv_iconst (v := 0) hx hb dX5_isOrder_296 (by decide) ?_
              cases hf
              exact W.zret (ty := .boolean) hx hb hr (by decide) (fun u hu _ => ⟨⟨rfl, by rw [hu]; exact hW⟩, hS.F hu⟩) hS.2.2 dX5_isOrder_297
            · have hf := ifn h45 hf
              refine lv_iconst (v := 1) hx hb dX5_isOrder_292 (by decide) ?_
              refine lv_goto (tgt := 297) hx hb dX5_isOrder_293 (by decide) ?_
              cases hf
              exact W.zret (ty := .boolean) hx hb hr (by decide) (fun u hu _ => ⟨⟨rfl, by rw [hu]; exact hW⟩, hS.F hu⟩) hS.2.2 dX5_isOrder_297
      · have hf := ifn h33 hf
        by_cases h46 : (σ 200 ((σ 193 11)).toNatClampNeg) = 102
        · have hf := ifp h46 hf
          refine lv_lookup (off := 181) (tgt := 227) hx hb dX5_isOrder_46 (by decide) (by rw [h46]; decide) (by decide) ?_
          refine lv_aload_n hx hb dX5_isOrder_227 rfl (lv_at hl 1 rfl) ?_
          refine lv_iconst (v := 1) hx hb dX5_isOrder_228 (by decide) ?_
          refine lv_iconst (v := 0) hx hb dX5_isOrder_229 (by decide) ?_
          refine lv_iconst (v := 5) hx hb dX5_isOrder_230 (by decide) ?_
          obtain ⟨y47, σ49, u48, hf⟩ := b2_e hf
          refine mV (k := 193) (q := (5, 0)) (C := RX5) (T := TX5) (N := 14) (ci := 5) (n := 3) (As := [.int 1, .int 0, .int 5]) (rest := []) (c_X5_isNumber l D t b σ6 1 0 5 y47 σ49 u48) sh_193 (by decide) rfl rfl hx hb hml hown hts hE hW hS q1480 q1482 q74 q96 q1483 hy_X5_isNumber ⟨rfl, rfl⟩ ⟨Nat.le_of_ble_eq_true rfl, Nat.le_of_ble_eq_true rfl⟩ rfl rfl hl.1 (Nat.le_of_ble_eq_true rfl) ⟨Nat.zero_le _, Nat.zero_le _⟩ dX5_isOrder_231 (fun H locs hW hS => ?_)
          refine lv_if_eq (tgt := 261) hx hb dX5_isOrder_234 (by decide) (fun h50 => ?_) (fun h50 => ?_)
          · have hf := ifp h50 hf
            refine lv_iconst (v := 0) hx hb dX5_isOrder_261 (by decide) ?_
            cases hf
            exact W.zret (ty := .boolean) hx hb hr (by decide) (fun u hu _ => ⟨⟨rfl, by rw [hu]; exact hW⟩, hS.F hu⟩) hS.2.2 dX5_isOrder_262
          · have hf := ifn h50 hf
            refine lv_aload_n hx hb dX5_isOrder_237 rfl (lv_at hl 1 rfl) ?_
            refine lv_bipush (v := 43) hx hb dX5_isOrder_238 (by decide) ?_
            obtain ⟨y51, σ53, u52, hf⟩ := b2_e hf
            refine mV (k := 193) (q := (5, 0)) (C := RX5) (T := TX5) (N := 14) (ci := 5) (n := 1) (As := [.int 43]) (rest := []) (c_X5_takes l D t b σ49 43 y51 σ53 u52) sh_193 (by decide) rfl rfl hx hb hml hown hts hE hW hS q1496 q1498 q78 q96 q1499 hy_X5_takes ⟨rfl, rfl⟩ ⟨Nat.le_of_ble_eq_true rfl, Nat.le_of_ble_eq_true rfl⟩ rfl rfl hl.1 (Nat.le_of_ble_eq_true rfl) ⟨Nat.zero_le _, Nat.zero_le _⟩ dX5_isOrder_240 (fun H locs hW hS => ?_)
            refine lv_if_eq (tgt := 261) hx hb dX5_isOrder_243 (by decide) (fun h54 => ?_) (fun h54 => ?_)
            · have hf := ifp h54 hf
              refine lv_iconst (v := 0) hx hb dX5_isOrder_261 (by decide) ?_
              cases hf
              exact W.zret (ty := .boolean) hx hb hr (by decide) (fun u hu _ => ⟨⟨rfl, by rw [hu]; exact hW⟩, hS.F hu⟩) hS.2.2 dX5_isOrder_262
            · have hf := ifn h54 hf
              refine lv_aload_n hx hb dX5_isOrder_246 rfl (lv_at hl 1 rfl) ?_
              refine lv_iconst (v := 2) hx hb dX5_isOrder_247 (by decide) ?_
              refine lv_iconst (v := 1) hx hb dX5_isOrder_248 (by decide) ?_
              refine lv_bipush (v := 99) hx hb dX5_isOrder_249 (by decide) ?_
              obtain ⟨y55, σ57, u56, hf⟩ := b2_e hf
              refine mV (k := 193) (q := (5, 0)) (C := RX5) (T := TX5) (N := 14) (ci := 5) (n := 3) (As := [.int 2, .int 1, .int 99]) (rest := []) (c_X5_isNumber l D t b σ53 2 1 99 y55 σ57 u56) sh_193 (by decide) rfl rfl hx hb hml hown hts hE hW hS q1480 q1482 q74 q96 q1483 hy_X5_isNumber ⟨rfl, rfl⟩ ⟨Nat.le_of_ble_eq_true rfl, Nat.le_of_ble_eq_true rfl⟩ rfl rfl hl.1 (Nat.le_of_ble_eq_true rfl) ⟨Nat.zero_le _, Nat.zero_le _⟩ dX5_isOrder_251 (fun H locs hW hS => ?_)
              refine lv_if_eq (tgt := 261) hx hb dX5_isOrder_254 (by decide) (fun h58 => ?_) (fun h58 => ?_)
              · have hf := ifp h58 hf
                refine lv_iconst (v := 0) hx hb dX5_isOrder_261 (by decide) ?_
                cases hf
                exact W.zret (ty := .boolean) hx hb hr (by decide) (fun u hu _ => ⟨⟨rfl, by rw [hu]; exact hW⟩, hS.F hu⟩) hS.2.2 dX5_isOrder_262
              · have hf := ifn h58 hf
                refine lv_iconst (v := 1) hx hb dX5_isOrder_257 (by decide) ?_
                refine lv_goto (tgt := 262) hx hb dX5_isOrder_258 (by decide) ?_
                cases hf
                exact W.zret (ty := .boolean) hx hb hr (by decide) (fun u hu _ => ⟨⟨rfl, by rw [hu]; exact hW⟩, hS.F hu⟩) hS.2.2 dX5_isOrder_262
        · have hf := ifn h46 hf
          by_cases h59 : (σ 200 ((σ 193 11)).toNatClampNeg) = 112
          · have hf := ifp h59 hf
            refine lv_lookup (off := 289) (tgt := 335) hx hb dX5_isOrder_46 (by decide) (by rw [h59]; decide) (by decide) ?_
            refine lv_aload_n hx hb dX5_isOrder_335 rfl (lv_at hl 1 rfl) ?_
            refine lv_iconst (v := 1) hx hb dX5_isOrder_336 (by decide) ?_
            refine lv_iconst (v := 1) hx hb dX5_isOrder_337 (by decide) ?_
            refine lv_bipush (v := 40) hx hb dX5_isOrder_338 (by decide) ?_
            obtain ⟨y60, σ62, u61, hf⟩ := b2_e hf
            refine mV (k := 193) (q := (5, 0)) (C := RX5) (T := TX5) (N := 14) (ci := 5) (n := 3) (As := [.int 1, .int 1, .int 40]) (rest := []) (c_X5_isNumber l D t b σ6 1 1 40 y60 σ62 u61) sh_193 (by decide) rfl rfl hx hb hml hown hts hE hW hS q1480 q1482 q74 q96 q1483 hy_X5_isNumber ⟨rfl, rfl⟩ ⟨Nat.le_of_ble_eq_true rfl, Nat.le_of_ble_eq_true rfl⟩ rfl rfl hl.1 (Nat.le_of_ble_eq_true rfl) ⟨Nat.zero_le _, Nat.zero_le _⟩ dX5_isOrder_340 (fun H locs hW hS => ?_)
            obtain ⟨g63, hf⟩ := gd_e hf
            cases hf
            exact W.zret (ty := .boolean) hx hb hr (nar_bool g63).1 (fun u hu _ => ⟨⟨rfl, by rw [hu]; exact hW⟩, hS.F hu⟩) hS.2.2 dX5_isOrder_343
          · have hf := ifn h59 hf
            by_cases h64 : (σ 200 ((σ 193 11)).toNatClampNeg) = 114
            · have hf := ifp h64 hf
              refine lv_lookup (off := 116) (tgt := 162) hx hb dX5_isOrder_46 (by decide) (by rw [h64]; decide) (by decide) ?_
              refine lv_aload_n hx hb dX5_isOrder_162 rfl (lv_at hl 1 rfl) ?_
              refine lv_iconst (v := 1) hx hb dX5_isOrder_163 (by decide) ?_
              refine lv_iconst (v := 0) hx hb dX5_isOrder_164 (by decide) ?_
              refine lv_iconst (v := 5) hx hb dX5_isOrder_165 (by decide) ?_
              obtain ⟨y65, σ67, u66, hf⟩ := b2_e hf
              refine mV (k := 193) (q := (5, 0)) (C := RX5) (T := TX5) (N := 14) (ci := 5) (n := 3) (As := [.int 1, .int 0, .int 5]) (rest := []) (c_X5_isNumber l D t b σ6 1 0 5 y65 σ67 u66) sh_193 (by decide) rfl rfl hx hb hml hown hts hE hW hS q1480 q1482 q74 q96 q1483 hy_X5_isNumber ⟨rfl, rfl⟩ ⟨Nat.le_of_ble_eq_true rfl, Nat.le_of_ble_eq_true rfl⟩ rfl rfl hl.1 (Nat.le_of_ble_eq_true rfl) ⟨Nat.zero_le _, Nat.zero_le _⟩ dX5_isOrder_166 (fun H locs hW hS => ?_)
              refine lv_if_eq (tgt := 225) hx hb dX5_isOrder_169 (by decide) (fun h68 => ?_) (fun h68 => ?_)
              · have hf := ifp h68 hf
                refine lv_iconst (v := 0) hx hb dX5_isOrder_225 (by decide) ?_
                cases hf
                exact W.zret (ty := .boolean) hx hb hr (by decide) (fun u hu _ => ⟨⟨rfl, by rw [hu]; exact hW⟩, hS.F hu⟩) hS.2.2 dX5_isOrder_226
              · have hf := ifn h68 hf
                refine lv_aload_n hx hb dX5_isOrder_172 rfl (lv_at hl 1 rfl) ?_
                refine lv_bipush (v := 58) hx hb dX5_isOrder_173 (by decide) ?_
                obtain ⟨y69, σ71, u70, hf⟩ := b2_e hf
                refine mV (k := 193) (q := (5, 0)) (C := RX5) (T := TX5) (N := 14) (ci := 5) (n := 1) (As := [.int 58]) (rest := []) (c_X5_takes l D t b σ67 58 y69 σ71 u70) sh_193 (by decide) rfl rfl hx hb hml hown hts hE hW hS q1496 q1498 q78 q96 q1499 hy_X5_takes ⟨rfl, rfl⟩ ⟨Nat.le_of_ble_eq_true rfl, Nat.le_of_ble_eq_true rfl⟩ rfl rfl hl.1 (Nat.le_of_ble_eq_true rfl) ⟨Nat.zero_le _, Nat.zero_le _⟩ dX5_isOrder_175 (fun H locs hW hS => ?_)
                refine lv_if_eq (tgt := 225) hx hb dX5_isOrder_178 (by decide) (fun h72 => ?_) (fun h72 => ?_)
                · have hf := ifp h72 hf
                  refine lv_iconst (v := 0) hx hb dX5_isOrder_225 (by decide) ?_
                  cases hf
                  exact W.zret (ty := .boolean) hx hb hr (by decide) (fun u hu _ => ⟨⟨rfl, by rw [hu]; exact hW⟩, hS.F hu⟩) hS.2.2 dX5_isOrder_226
                · have hf := ifn h72 hf
                  refine lv_aload_n hx hb dX5_isOrder_181 rfl (lv_at hl 1 rfl) ?_
                  refine lv_iconst (v := 2) hx hb dX5_isOrder_182 (by decide) ?_
                  refine lv_iconst (v := 0) hx hb dX5_isOrder_183 (by decide) ?_
                  refine lv_iconst (v := 3) hx hb dX5_isOrder_184 (by decide) ?_
                  obtain ⟨y73, σ75, u74, hf⟩ := b2_e hf
                  refine mV (k := 193) (q := (5, 0)) (C := RX5) (T := TX5) (N := 14) (ci := 5) (n := 3) (As := [.int 2, .int 0, .int 3]) (rest := []) (c_X5_isNumber l D t b σ71 2 0 3 y73 σ75 u74) sh_193 (by decide) rfl rfl hx hb hml hown hts hE hW hS q1480 q1482 q74 q96 q1483 hy_X5_isNumber ⟨rfl, rfl⟩ ⟨Nat.le_of_ble_eq_true rfl, Nat.le_of_ble_eq_true rfl⟩ rfl rfl hl.1 (Nat.le_of_ble_eq_true rfl) ⟨Nat.zero_le _, Nat.zero_le _⟩ dX5_isOrder_185 (fun H locs hW hS => ?_)
                  refine lv_if_eq (tgt := 225) hx hb dX5_isOrder_188 (by decide) (fun h76 => ?_) (fun h76 => ?_)
                  · have hf := ifp h76 hf
                    refine lv_iconst (v := 0) hx hb dX5_isOrder_225 (by decide) ?_
                    cases hf
                    exact W.zret (ty := .boolean) hx hb hr (by decide) (fun u hu _ => ⟨⟨rfl, by rw [hu]; exact hW⟩, hS.F hu⟩) hS.2.2 dX5_isOrder_226
                  · have hf := ifn h76 hf
                    refine lv_aload_n hx hb dX5_isOrder_191 rfl (lv_at hl 1 rfl) ?_
                    refine lv_iconst (v := 3) hx hb dX5_isOrder_192 (by decide) ?_
                    refine lv_iconst (v := 0) hx hb dX5_isOrder_193 (by decide) ?_
                    refine lv_iconst (v := 3) hx hb dX5_isOrder_194 (by decide) ?_
                    obtain ⟨y77, σ79, u78, hf⟩ := b2_e hf
                    refine mV (k := 193) (q := (5, 0)) (C := RX5) (T := TX5) (N := 14) (ci := 5) (n := 3) (As := [.int 3, .int 0, .int 3]) (rest := []) (c_X5_isNumber l D t b σ75 3 0 3 y77 σ79 u78) sh_193 (by decide) rfl rfl hx hb hml hown hts hE hW hS q1480 q1482 q74 q96 q1483 hy_X5_isNumber ⟨rfl, rfl⟩ ⟨Nat.le_of_ble_eq_true rfl, Nat.le_of_ble_eq_true rfl⟩ rfl rfl hl.1 (Nat.le_of_ble_eq_true rfl) ⟨Nat.zero_le _, Nat.zero_le _⟩ dX5_isOrder_195 (fun H locs hW hS => ?_)
                    refine lv_if_eq (tgt := 225) hx hb dX5_isOrder_198 (by decide) (fun h80 => ?_) (fun h80 => ?_)
                    · have hf := ifp h80 hf
                      refine lv_iconst (v := 0) hx hb dX5_isOrder_225 (by decide) ?_
                      cases hf
                      exact W.zret (ty := .boolean) hx hb hr (by decide) (fun u hu _ => ⟨⟨rfl, by rw [hu]; exact hW⟩, hS.F hu⟩) hS.2.2 dX5_isOrder_226
                    · have hf := ifn h80 hf
                      refine lv_aload_n hx hb dX5_isOrder_201 rfl (lv_at hl 1 rfl) ?_
                      refine lv_bipush (v := 42) hx hb dX5_isOrder_202 (by decide) ?_
                      obtain ⟨y81, σ83, u82, hf⟩ := b2_e hf
                      refine mV (k := 193) (q := (5, 0)) (C := RX5) (T := TX5) (N := 14) (ci := 5) (n := 1) (As := [.int 42]) (rest := []) (c_X5_takes l D t b σ79 42 y81 σ83 u82) sh_193 (by decide) rfl rfl hx hb hml hown hts hE hW hS q1496 q1498 q78 q96 q1499 hy_X5_takes ⟨rfl, rfl⟩ ⟨Nat.le_of_ble_eq_true rfl, Nat.le_of_ble_eq_true rfl⟩ rfl rfl hl.1 (Nat.le_of_ble_eq_true rfl) ⟨Nat.zero_le _, Nat.zero_le _⟩ dX5_isOrder_204 (fun H locs hW hS => ?_)
                      refine lv_if_eq (tgt := 225) hx hb dX5_isOrder_207 (by decide) (fun h84 => ?_) (fun h84 => ?_)
                      · have hf := ifp h84 hf
                        refine lv_iconst (v := 0) hx hb dX5_isOrder_225 (by decide) ?_
                        cases hf
                        exact W.zret (ty := .boolean) hx hb hr (by decide) (fun u hu _ => ⟨⟨rfl, by rw [hu]; exact hW⟩, hS.F hu⟩) hS.2.2 dX5_isOrder_226
                      · have hf := ifn h84 hf
                        refine lv_aload_n hx hb dX5_isOrder_210 rfl (lv_at hl 1 rfl) ?_
                        refine lv_iconst (v := 4) hx hb dX5_isOrder_211 (by decide) ?_
                        refine lv_iconst (v := 1) hx hb dX5_isOrder_212 (by decide) ?_
                        refine lv_bipush (v := 40) hx hb dX5_isOrder_213 (by decide) ?_
                        obtain ⟨y85, σ87, u86, hf⟩ := b2_e hf
                        refine mV (k := 193) (q := (5, 0)) (C := RX5) (T := TX5) (N := 14) (ci := 5) (n := 3) (As := [.int 4, .int 1, .int 40]) (rest := []) (c_X5_isNumber l D t b σ83 4 1 40 y85 σ87 u86) sh_193 (by decide) rfl rfl hx hb hml hown hts hE hW hS q1480 q1482 q74 q96 q1483 hy_X5_isNumber ⟨rfl, rfl⟩ ⟨Nat.le_of_ble_eq_true rfl, Nat.le_of_ble_eq_true rfl⟩ rfl rfl hl.1 (Nat.le_of_ble_eq_true rfl) ⟨Nat.zero_le _, Nat.zero_le _⟩ dX5_isOrder_215 (fun H locs hW hS => ?_)
                        refine lv_if_eq (tgt := 225) hx hb dX5_isOrder_218 (by decide) (fun h88 => ?_) (fun h88 => ?_)
                        · have hf := ifp h88 hf
                          refine lv_iconst (v := 0) hx hb dX5_isOrder_225 (by decide) ?_
                          cases hf
                          exact W.zret (ty := .boolean) hx hb hr (by decide) (fun u hu _ => ⟨⟨rfl, by rw [hu]; exact hW⟩, hS.F hu⟩) hS.2.2 dX5_isOrder_226
                        · have hf := ifn h88 hf
                          refine lv_iconst (v := 1) hx hb dX5_isOrder_221 (by decide) ?_
                          refine lv_goto (tgt := 226) hx hb dX5_isOrder_222 (by decide) ?_
                          cases hf
                          exact W.zret (ty := .boolean) hx hb hr (by decide) (fun u hu _ => ⟨⟨rfl, by rw [hu]; exact hW⟩, hS.F hu⟩) hS.2.2 dX5_isOrder_226
            · have hf := ifn h64 hf
              by_cases h89 : (σ 200 ((σ 193 11)).toNatClampNeg) = 119
              · have hf := ifp h89 hf
                refine lv_lookup (off := 252) (tgt := 298) hx hb dX5_isOrder_46 (by decide) (by rw [h89]; decide) (by decide) ?_
                refine lv_aload_n hx hb dX5_isOrder_298 rfl (lv_at hl 1 rfl) ?_
                refine lv_iconst (v := 1) hx hb dX5_isOrder_299 (by decide) ?_
                refine lv_iconst (v := 0) hx hb dX5_isOrder_300 (by decide) ?_
                refine lv_bipush (v := 9) hx hb dX5_isOrder_301 (by decide) ?_
                obtain ⟨y90, σ92, u91, hf⟩ := b2_e hf
                refine mV (k := 193) (q := (5, 0)) (C := RX5) (T := TX5) (N := 14) (ci := 5) (n := 3) (As := [.int 1, .int 0, .int 9]) (rest := []) (c_X5_isNumber l D t b σ6 1 0 9 y90 σ92 u91) sh_193 (by decide) rfl rfl hx hb hml hown hts hE hW hS q1480 q1482 q74 q96 q1483 hy_X5_isNumber ⟨rfl, rfl⟩ ⟨Nat.le_of_ble_eq_true rfl, Nat.le_of_ble_eq_true rfl⟩ rfl rfl hl.1 (Nat.le_of_ble_eq_true rfl) ⟨Nat.zero_le _, Nat.zero_le _⟩ dX5_isOrder_303 (fun H locs hW hS => ?_)
                refine lv_if_eq (tgt := 333) hx hb dX5_isOrder_306 (by decide) (fun h93 => ?_) (fun h93 => ?_)
                · have hf := ifp h93 hf
                  refine lv_iconst (v := 0) hx hb dX5_isOrder_333 (by decide) ?_
                  cases hf
                  exact W.zret (ty := .boolean) hx hb hr (by decide) (fun u hu _ => ⟨⟨rfl, by rw [hu]; exact hW⟩, hS.F hu⟩) hS.2.2 dX5_isOrder_334
                · have hf := ifn h93 hf
                  refine lv_aload_n hx hb dX5_isOrder_309 rfl (lv_at hl 1 rfl) ?_
                  refine lv_bipush (v := 61) hx hb dX5_isOrder_310 (by decide) ?_
                  obtain ⟨y94, σ96, u95, hf⟩ := b2_e hf
                  refine mV (k := 193) (q := (5, 0)) (C := RX5) (T := TX5) (N := 14) (ci := 5) (n := 1) (As := [.int 61]) (rest := []) (c_X5_takes l D t b σ92 61 y94 σ96 u95) sh_193 (by decide) rfl rfl hx hb hml hown hts hE hW hS q1496 q1498 q78 q96 q1499 hy_X5_takes ⟨rfl, rfl⟩ ⟨Nat.le_of_ble_eq_true rfl, Nat.le_of_ble_eq_true rfl⟩ rfl rfl hl.1 (Nat.le_of_ble_eq_true rfl) ⟨Nat.zero_le _, Nat.zero_le _⟩ dX5_isOrder_312 (fun H locs hW hS => ?_)
                  refine lv_if_eq (tgt := 333) hx hb dX5_isOrder_315 (by decide) (fun h97 => ?_) (fun h97 => ?_)
                  · have hf := ifp h97 hf
                    refine lv_iconst (v := 0) hx hb dX5_isOrder_333 (by decide) ?_
                    cases hf
                    exact W.zret (ty := .boolean) hx hb hr (by decide) (fun u hu _ => ⟨⟨rfl, by rw [hu]; exact hW⟩, hS.F hu⟩) hS.2.2 dX5_isOrder_334
                  · have hf := ifn h97 hf
                    refine lv_aload_n hx hb dX5_isOrder_318 rfl (lv_at hl 1 rfl) ?_
                    refine lv_iconst (v := 2) hx hb dX5_isOrder_319 (by decide) ?_
                    refine lv_iconst (v := 0) hx hb dX5_isOrder_320 (by decide) ?_
                    refine lv_bipush (v := 9) hx hb dX5_isOrder_321 (by decide) ?_
                    obtain ⟨y98, σ100, u99, hf⟩ := b2_e hf
                    refine mV (k := 193) (q := (5, 0)) (C := RX5) (T := TX5) (N := 14) (ci := 5) (n := 3) (As := [.int 2, .int 0, .int 9]) (rest := []) (c_X5_isNumber l D t b σ96 2 0 9 y98 σ100 u99) sh_193 (by decide) rfl rfl hx hb hml hown hts hE hW hS q1480 q1482 q74 q96 q1483 hy_X5_isNumber ⟨rfl, rfl⟩ ⟨Nat.le_of_ble_eq_true rfl, Nat.le_of_ble_eq_true rfl⟩ rfl rfl hl.1 (Nat.le_of_ble_eq_true rfl) ⟨Nat.zero_le _, Nat.zero_le _⟩ dX5_isOrder_323 (fun H locs hW hS => ?_)
                    refine lv_if_eq (tgt := 333) hx hb dX5_isOrder_326 (by decide) (fun h101 => ?_) (fun h101 => ?_)
                    · have hf := ifp h101 hf
                      refine lv_iconst (v := 0) hx hb dX5_isOrder_333 (by decide) ?_
                      cases hf
                      exact W.zret (ty := .boolean) hx hb hr (by decide) (fun u hu _ => ⟨⟨rfl, by rw [hu]; exact hW⟩, hS.F hu⟩) hS.2.2 dX5_isOrder_334
                    · have hf := ifn h101 hf
                      refine lv_iconst (v := 1) hx hb dX5_isOrder_329 (by decide) ?_
                      refine lv_goto (tgt := 334) hx hb dX5_isOrder_330 (by decide) ?_
                      cases hf
                      exact W.zret (ty := .boolean) hx hb hr (by decide) (fun u hu _ => ⟨⟨rfl, by rw [hu]; exact hW⟩, hS.F hu⟩) hS.2.2 dX5_isOrder_334
              · have hf := ifn h89 hf
                refine lv_lookup (off := 298) (tgt := 344) hx hb dX5_isOrder_46 (by decide) (by show Op.lookupswitch.offset [(98, 58), (99, 217), (102, 181), (112, 289), (114, 116), (119, 252)] _ _ = _; rw [lv_osw h8 (by decide), lv_osw h33 (by decide), lv_osw h46 (by decide), lv_osw h59 (by decide), lv_osw h64 (by decide), lv_osw h89 (by decide)]; rfl) (by decide) ?_
                refine lv_aload_n hx hb dX5_isOrder_344 rfl (lv_at hl 1 rfl) ?_
                refine lv_dup hx hb dX5_isOrder_345 rfl ?_
                refine getM hx hb hta hown hE.1 hW 11 (by decide) q1192 rfl dX5_isOrder_346 ?_
                refine lv_iconst (v := 1) hx hb dX5_isOrder_349 (by decide) ?_
                refine lv_isub hx hb dX5_isOrder_350 ?_
                refine putX (k := 193) (q := (5, 0)) (ci := 5) (x := ((σ6 193 11) - 1)) inA5 tyX5_ok nmX5 rfl (by decide) rfl hx hb hta hown hE.1 hW hS sh_193 11 (by decide) q1192 rfl rfl rfl (Nat.le_of_ble_eq_true rfl) rfl dX5_isOrder_351 (fun H locs hW hS => ?_)
                obtain ⟨σ102, e103, hf⟩ := st_e hf
                rw [e103] at hW
                refine lv_iconst (v := 0) hx hb dX5_isOrder_354 (by decide) ?_
                cases hf
                exact W.zret (ty := .boolean) hx hb hr (by decide) (fun u hu _ => ⟨⟨rfl, by rw [hu]; exact hW⟩, hS.F hu⟩) hS.2.2 dX5_isOrder_355
  · have hf := ifp h1 hf
    refine lv_iconst (v := 0) hx hb dX5_isOrder_11 (by decide) ?_
    cases hf
    exact W.zret (ty := .boolean) hx hb hr (by decide) (fun u hu _ => ⟨⟨rfl, by rw [hu]; exact hW⟩, hS.F hu⟩) hS.2.2 dX5_isOrder_12

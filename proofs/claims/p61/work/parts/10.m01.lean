def f_X1_hasStall (c0 : Nat) (σ : Sg) (p1 : Int32) : Option Int32 := if p1 < 0 then (some 0) else (if (σ c0 10) ≤ p1 then (some 0) else (some 1))
set_option maxHeartbeats 4000000 in
set_option maxRecDepth 100000 in
theorem c_X1_hasStall (l : Launch) (D : va_G) (t : Nat → ClassId) (b : Nat) (c0 : Nat) (σ : Sg) (p1 : Int32) (r : Int32) (hc0 : sh c0 = (1, 0)) (hf : f_X1_hasStall c0 σ p1 = some r) : Met l yX1_hasStall (Cond.code yX1_hasStall cX1_hasStall 2 (some .boolean) :: ALL) ({ frames := 0, cells := 0, slots := 0, locals := 0 }) (PM D t b σ [.ref (b + c0), .int p1]) (QG D t b σ (some (.int r))) 0 0 (geA b) := by
  refine Met.ofW (cc := cX1_hasStall) (maxL := 2) (ret := (some .boolean)) (by decide) rfl ?_
  intro p e s m args below meth c s₁ B hml hv
  obtain ⟨rfl, hW, hE⟩ := hv
  have hx := B.exec
  have hb := B.bytes
  have hr := B.returns
  have hts := atoms_spec (ws := Cond.code yX1_hasStall cX1_hasStall 2 (some .boolean) :: ALL) B.pre
  have hta := fun w h => hts w (List.mem_cons_of_mem _ h)
  have hown : s.vm.findClass RX1 = some m.cls := findClass_of_methodNamed B.named
  have hlocks := B.notSynchronized
  have hS : va_S (geA b) s.heap s.heap [] := va_S.rf
  have hl := lv_entry ([.ref (b + c0), .int p1]) (n := 2) (Nat.le_of_ble_eq_true rfl)
  rw [lg_entry_eq]
  generalize (lg_sl ([.ref (b + c0), .int p1]) ++ List.replicate (2 - (lg_sl ([.ref (b + c0), .int p1])).length) Slot.unset).toArray = ls at hl ⊢
  have hl : lv_has ls 2 [(0, .ref (b + c0)), (1, .int p1)] := hl
  unfold f_X1_hasStall at hf
  refine lv_iload_n hx hb dX1_hasStall_0 rfl (lv_at hl 1 rfl) ?_
  refine lv_if_lt (tgt := 16) hx hb dX1_hasStall_1 (by decide) (fun h1 => ?_) (fun h1 => ?_)
  · have hf := ifp h1 hf
    refine lv_iconst (v := 0) hx hb dX1_hasStall_16 (by decide) ?_
    cases hf
    exact W.zret (ty := .boolean) hx hb hr (by decide) (fun u hu _ => ⟨⟨rfl, by rw [hu]; exact hW⟩, hS.F hu⟩) hS.2.2 dX1_hasStall_17
  · have hf := ifn h1 hf
    refine lv_iload_n hx hb dX1_hasStall_4 rfl (lv_at hl 1 rfl) ?_
    refine lv_aload_n hx hb dX1_hasStall_5 rfl (lv_at hl 0 rfl) ?_
    refine getF hx hb hta hown hE.1 hW hc0 10 (by decide) q190 rfl dX1_hasStall_6 ?_
    refine lv_icmp_ge (tgt := 16) hx hb dX1_hasStall_9 (by decide) (fun h2 => ?_) (fun h2 => ?_)
    · have hf := ifp h2 hf
      refine lv_iconst (v := 0) hx hb dX1_hasStall_16 (by decide) ?_
      cases hf
      exact W.zret (ty := .boolean) hx hb hr (by decide) (fun u hu _ => ⟨⟨rfl, by rw [hu]; exact hW⟩, hS.F hu⟩) hS.2.2 dX1_hasStall_17
    · have hf := ifn h2 hf
      refine lv_iconst (v := 1) hx hb dX1_hasStall_12 (by decide) ?_
      refine lv_goto (tgt := 17) hx hb dX1_hasStall_13 (by decide) ?_
      cases hf
      exact W.zret (ty := .boolean) hx hb hr (by decide) (fun u hu _ => ⟨⟨rfl, by rw [hu]; exact hW⟩, hS.F hu⟩) hS.2.2 dX1_hasStall_17
def f_X1_emptyPurse (c0 : Nat) (σ : Sg) (p1 : Int32) : Option (Int32 × Sg) := gd p1 7 (st (u2 σ (sk (c0 + 3) p1) 5 0) fun σ2 => st (u2 σ2 c0 0 ((σ2 c0 0) + (σ (sk (c0 + 3) p1) 5))) fun σ4 => some ((σ (sk (c0 + 3) p1) 5), σ4))
set_option maxHeartbeats 4000000 in
set_option maxRecDepth 100000 in
theorem c_X1_emptyPurse (l : Launch) (D : va_G) (t : Nat → ClassId) (b : Nat) (c0 : Nat) (σ : Sg) (p1 : Int32) (r : Int32) (σr : Sg) (hc0 : sh c0 = (1, 0)) (hf : f_X1_emptyPurse c0 σ p1 = some (r, σr)) : Met l yX1_emptyPurse (Cond.code yX1_emptyPurse cX1_emptyPurse 3 (some .int) :: ALL) ({ frames := 0, cells := 0, slots := 0, locals := 0 }) (PM D t b σ [.ref (b + c0), .int p1]) (QG D t b σr (some (.int r))) 0 0 (geA b) := by
  refine Met.ofW (cc := cX1_emptyPurse) (maxL := 3) (ret := (some .int)) (by decide) rfl ?_
  intro p e s m args below meth c s₁ B hml hv
  obtain ⟨rfl, hW, hE⟩ := hv
  have hx := B.exec
  have hb := B.bytes
  have hr := B.returns
  have hts := atoms_spec (ws := Cond.code yX1_emptyPurse cX1_emptyPurse 3 (some .int) :: ALL) B.pre
  have hta := fun w h => hts w (List.mem_cons_of_mem _ h)
  have hown : s.vm.findClass RX1 = some m.cls := findClass_of_methodNamed B.named
  have hlocks := B.notSynchronized
  have hS : va_S (geA b) s.heap s.heap [] := va_S.rf
  have hl := lv_entry ([.ref (b + c0), .int p1]) (n := 3) (Nat.le_of_ble_eq_true rfl)
  rw [lg_entry_eq]
  generalize (lg_sl ([.ref (b + c0), .int p1]) ++ List.replicate (3 - (lg_sl ([.ref (b + c0), .int p1])).length) Slot.unset).toArray = ls at hl ⊢
  have hl : lv_has ls 3 [(0, .ref (b + c0)), (1, .int p1)] := hl
  unfold f_X1_emptyPurse at hf
  refine lv_aload_n hx hb dX1_emptyPurse_0 rfl (lv_at hl 0 rfl) ?_
  refine getF hx hb hta hown hE.1 hW hc0 11 (by decide) q192 rfl dX1_emptyPurse_1 ?_
  refine lv_iload_n hx hb dX1_emptyPurse_4 rfl (lv_at hl 1 rfl) ?_
  obtain ⟨g1, hf⟩ := gd_e hf
  refine sald hx hb hE.1 hW (shF_3 hc0) g1 dX1_emptyPurse_5 ?_
  refine getS hx hb hta hown hE.1 hW (shF_sk hc0 g1) 5 (by decide) q137 rfl dX1_emptyPurse_6 ?_
  refine lv_istore_n (lv' := [(2, .int (σ (sk (c0 + 3) p1) 5)), (0, .ref (b + c0)), (1, .int p1)]) hx hb dX1_emptyPurse_9 rfl hl (by decide) rfl (fun ls hl => ?_)
  refine lv_aload_n hx hb dX1_emptyPurse_10 rfl (lv_at hl 1 rfl) ?_
  refine getF hx hb hta hown hE.1 hW hc0 11 (by decide) q192 rfl dX1_emptyPurse_11 ?_
  refine lv_iload_n hx hb dX1_emptyPurse_14 rfl (lv_at hl 2 rfl) ?_
  refine sald hx hb hE.1 hW (shF_3 hc0) g1 dX1_emptyPurse_15 ?_
  refine lv_iconst (v := 0) hx hb dX1_emptyPurse_16 (by decide) ?_
  refine putX (k := (sk (c0 + 3) p1)) (q := (3, 0)) (ci := 3) (x := 0) inA3 tyX3_ok nmX3 rfl (by decide) rfl hx hb hta hown hE.1 hW hS (shF_sk hc0 g1) 5 (by decide) q137 rfl rfl rfl (Nat.le_of_ble_eq_true rfl) rfl dX1_emptyPurse_17 (fun H locs hW hS => ?_)
  obtain ⟨σ2, e3, hf⟩ := st_e hf
  rw [e3] at hW
  refine lv_aload_n hx hb dX1_emptyPurse_20 rfl (lv_at hl 1 rfl) ?_
  refine lv_dup hx hb dX1_emptyPurse_21 rfl ?_
  refine getF hx hb hta hown hE.1 hW hc0 0 (by decide) q170 rfl dX1_emptyPurse_22 ?_
  refine lv_iload_n hx hb dX1_emptyPurse_25 rfl (lv_at hl 0 rfl) ?_
  refine lv_iadd hx hb dX1_emptyPurse_26 ?_
  refine putX (k := c0) (q := (1, 0)) (ci := 1) (x := ((σ2 c0 0) + (σ (sk (c0 + 3) p1) 5))) inA1 tyX1_ok nmX1 rfl (by decide) rfl hx hb hta hown hE.1 hW hS hc0 0 (by decide) q170 rfl rfl rfl (Nat.le_of_ble_eq_true rfl) rfl dX1_emptyPurse_27 (fun H locs hW hS => ?_)
  obtain ⟨σ4, e5, hf⟩ := st_e hf
  rw [e5] at hW
  refine lv_iload_n hx hb dX1_emptyPurse_30 rfl (lv_at hl 0 rfl) ?_
  cases hf
  exact W.iret hx hb hr (fun u hu _ => ⟨⟨rfl, by rw [hu]; exact hW⟩, hS.F hu⟩) hS.2.2 dX1_emptyPurse_31
def l_X1_removeStall_2 (c0 : Nat) : Nat → Sg → Int32 → Option Sg
  | 0, _, _ => none
  | n + 1, τ, x2 => if (τ c0 10) ≤ (x2 + 1) then (st (u2 τ c0 10 ((τ c0 10) - 1)) fun σ2 => some σ2) else (gd x2 7 (gd (x2 + 1) 7 (b1 (f_X3_copyFrom (sk (c0 + 3) x2) (sk (c0 + 3) (x2 + 1)) τ) fun σ8 => l_X1_removeStall_2 c0 n σ8 (x2 + 1))))
def f_X1_removeStall (c0 : Nat) (σ : Sg) (p1 : Int32) : Option Sg := l_X1_removeStall_2 c0 10000 σ p1
set_option maxHeartbeats 4000000 in
set_option maxRecDepth 100000 in
theorem c_X1_removeStall (l : Launch) (D : va_G) (t : Nat → ClassId) (b : Nat) (c0 : Nat) (σ : Sg) (p1 : Int32) (σr : Sg) (hc0 : sh c0 = (1, 0)) (hf : f_X1_removeStall c0 σ p1 = some σr) : Met l yX1_removeStall (Cond.code yX1_removeStall cX1_removeStall 3 none :: ALL) ({ frames := 2, cells := 0, slots := 0, locals := 81 }) (PM D t b σ [.ref (b + c0), .int p1]) (QG D t b σr none) 0 0 (geA b) := by
  refine Met.ofW (cc := cX1_removeStall) (maxL := 3) (ret := none) (by decide) rfl ?_
  intro p e s m args below meth c s₁ B hml hv
  obtain ⟨rfl, hW, hE⟩ := hv
  have hx := B.exec
  have hb := B.bytes
  have hr := B.returns
  have hts := atoms_spec (ws := Cond.code yX1_removeStall cX1_removeStall 3 none :: ALL) B.pre
  have hta := fun w h => hts w (List.mem_cons_of_mem _ h)
  have hown : s.vm.findClass RX1 = some m.cls := findClass_of_methodNamed B.named
  have hlocks := B.notSynchronized
  have hS : va_S (geA b) s.heap s.heap [] := va_S.rf
  have hl := lv_entry ([.ref (b + c0), .int p1]) (n := 3) (Nat.le_of_ble_eq_true rfl)
  rw [lg_entry_eq]
  generalize (lg_sl ([.ref (b + c0), .int p1]) ++ List.replicate (3 - (lg_sl ([.ref (b + c0), .int p1])).length) Slot.unset).toArray = ls at hl ⊢
  have hl : lv_has ls 3 [(0, .ref (b + c0)), (1, .int p1)] := hl
  unfold f_X1_removeStall at hf
  refine lv_iload_n hx hb dX1_removeStall_0 rfl (lv_at hl 1 rfl) ?_
  refine lv_istore_n (lv' := [(2, .int p1), (0, .ref (b + c0)), (1, .int p1)]) hx hb dX1_removeStall_1 rfl hl (by decide) rfl (fun ls hl => ?_)
  have key_2 : ∀ (n : Nat) (τ : Sg) (x2 : Int32) (H : Heap) (locs : List Loc) (ls : Array Slot), l_X1_removeStall_2 c0 n τ x2 = some σr → wd D t b τ H → va_S (geA b) s.heap H locs → lv_has ls 3 [(0, .ref (b + c0)), (2, .int x2)] → W p l e (headSpec (Cond.code yX1_removeStall cX1_removeStall 3 none :: ALL) ({ frames := 2, cells := 0, slots := 0, locals := 81 })).room s m (([.ref (b + c0), .int p1] : List Value).toArray) below meth c H locs 0 0 (MQ below (QG D t b σr none) (([.ref (b + c0), .int p1] : List Value).toArray) s 0 0 (geA b)) (F0 m 2 ls []) := by
    intro n
    induction n with
    | zero =>
      intro τ x2 H locs ls hf
      rw [l_X1_removeStall_2.eq_1] at hf
      cases hf
    | succ n ih_2 =>
      intro τ x2 H locs ls hf hW hS hl
      rw [l_X1_removeStall_2.eq_2] at hf
      refine lv_iload_n hx hb dX1_removeStall_2 rfl (lv_at hl 1 rfl) ?_
      refine lv_iconst (v := 1) hx hb dX1_removeStall_3 (by decide) ?_
      refine lv_iadd hx hb dX1_removeStall_4 ?_
      refine lv_aload_n hx hb dX1_removeStall_5 rfl (lv_at hl 0 rfl) ?_
      refine getF hx hb hta hown hE.1 hW hc0 10 (by decide) q190 rfl dX1_removeStall_6 ?_
      refine lv_icmp_ge (tgt := 35) hx hb dX1_removeStall_9 (by decide) (fun h1 => ?_) (fun h1 => ?_)
      · have hf := ifp h1 hf
        refine lv_aload_n hx hb dX1_removeStall_35 rfl (lv_at hl 0 rfl) ?_
        refine lv_dup hx hb dX1_removeStall_36 rfl ?_
        refine getF hx hb hta hown hE.1 hW hc0 10 (by decide) q190 rfl dX1_removeStall_37 ?_
        refine lv_iconst (v := 1) hx hb dX1_removeStall_40 (by decide) ?_
        refine lv_isub hx hb dX1_removeStall_41 ?_
        refine putX (k := c0) (q := (1, 0)) (ci := 1) (x := ((τ c0 10) - 1)) inA1 tyX1_ok nmX1 rfl (by decide) rfl hx hb hta hown hE.1 hW hS hc0 10 (by decide) q190 rfl rfl rfl (Nat.le_of_ble_eq_true rfl) rfl dX1_removeStall_42 (fun H locs hW hS => ?_)
        obtain ⟨σ2, e3, hf⟩ := st_e hf
        rw [e3] at hW
        cases hf
        exact W.vret hx hb hr (fun u hu _ => ⟨⟨rfl, by rw [hu]; exact hW⟩, hS.F hu⟩) hS.2.2 dX1_removeStall_45
      · have hf := ifn h1 hf
        refine lv_aload_n hx hb dX1_removeStall_12 rfl (lv_at hl 0 rfl) ?_
        refine getF hx hb hta hown hE.1 hW hc0 11 (by decide) q192 rfl dX1_removeStall_13 ?_
        refine lv_iload_n hx hb dX1_removeStall_16 rfl (lv_at hl 1 rfl) ?_
        obtain ⟨g4, hf⟩ := gd_e hf
        refine sald hx hb hE.1 hW (shF_3 hc0) g4 dX1_removeStall_17 ?_
        refine lv_aload_n hx hb dX1_removeStall_18 rfl (lv_at hl 0 rfl) ?_
        refine getF hx hb hta hown hE.1 hW hc0 11 (by decide) q192 rfl dX1_removeStall_19 ?_
        refine lv_iload_n hx hb dX1_removeStall_22 rfl (lv_at hl 1 rfl) ?_
        refine lv_iconst (v := 1) hx hb dX1_removeStall_23 (by decide) ?_
        refine lv_iadd hx hb dX1_removeStall_24 ?_
        obtain ⟨g5, hf⟩ := gd_e hf
        refine sald hx hb hE.1 hW (shF_3 hc0) g5 dX1_removeStall_25 ?_
        obtain ⟨σ8, u7, hf⟩ := b1_e hf
        refine mV (k := (sk (c0 + 3) x2)) (q := (3, 0)) (C := RX3) (T := TX3) (N := 11) (ci := 3) (n := 1) (As := [.ref (b + (sk (c0 + 3) (x2 + 1)))]) (rest := []) (c_X3_copyFrom l D t b (sk (c0 + 3) x2) (sk (c0 + 3) (x2 + 1)) τ σ8 (shF_sk hc0 g4) (shF_sk hc0 g5) u7) (shF_sk hc0 g4) (by decide) rfl rfl hx hb hml hown hts hE hW hS q438 q439 q440 q37 q441 hy_X3_copyFrom ⟨rfl, rfl⟩ ⟨Nat.le_of_ble_eq_true rfl, Nat.le_of_ble_eq_true rfl⟩ rfl rfl hl.1 (Nat.le_of_ble_eq_true rfl) ⟨Nat.zero_le _, Nat.zero_le _⟩ dX1_removeStall_26 (fun H locs hW hS => ?_)
        refine lv_iinc (v := (x2 + 1)) (lv' := [(2, .int (x2 + 1)), (0, .ref (b + c0))]) hx hb dX1_removeStall_29 hl (k := 1) rfl (by rfl) (by decide) rfl (fun ls hl => ?_)
        refine lv_goto (tgt := 2) hx hb dX1_removeStall_32 (by decide) ?_
        exact ih_2 σ8 (x2 + 1) _ _ _ hf hW hS (lv_sub hl [1, 0] rfl)
  exact key_2 10000 σ p1 _ _ _ hf hW hS (lv_sub hl [1, 0] rfl)
def l_X3_prizesOnShelf_4 (c0 : Nat) : Nat → Sg → Int32 → Int32 → Option Int32
  | 0, _, _, _ => none
  | n + 1, τ, x1, x2 => if 16 ≤ x2 then (some x1) else (gd x2 16 (l_X3_prizesOnShelf_4 c0 n τ (x1 + (τ (c0 + 1) (x2).toNatClampNeg)) (x2 + 1)))
def f_X3_prizesOnShelf (c0 : Nat) (σ : Sg) : Option Int32 := l_X3_prizesOnShelf_4 c0 10000 σ 0 0
set_option maxHeartbeats 4000000 in
set_option maxRecDepth 100000 in
theorem c_X3_prizesOnShelf (l : Launch) (D : va_G) (t : Nat → ClassId) (b : Nat) (c0 : Nat) (σ : Sg) (r : Int32) (hc0 : sh c0 = (3, 0)) (hf : f_X3_prizesOnShelf c0 σ = some r) : Met l yX3_prizesOnShelf (Cond.code yX3_prizesOnShelf cX3_prizesOnShelf 3 (some .int) :: ALL) ({ frames := 0, cells := 0, slots := 0, locals := 0 }) (PM D t b σ [.ref (b + c0)]) (QG D t b σ (some (.int r))) 0 0 (geA b) := by
  refine Met.ofW (cc := cX3_prizesOnShelf) (maxL := 3) (ret := (some .int)) (by decide) rfl ?_
  intro p e s m args below meth c s₁ B hml hv
  obtain ⟨rfl, hW, hE⟩ := hv
  have hx := B.exec
  have hb := B.bytes
  have hr := B.returns
  have hts := atoms_spec (ws := Cond.code yX3_prizesOnShelf cX3_prizesOnShelf 3 (some .int) :: ALL) B.pre
  have hta := fun w h => hts w (List.mem_cons_of_mem _ h)
  have hown : s.vm.findClass RX3 = some m.cls := findClass_of_methodNamed B.named
  have hlocks := B.notSynchronized
  have hS : va_S (geA b) s.heap s.heap [] := va_S.rf
  have hl := lv_entry ([.ref (b + c0)]) (n := 3) (Nat.le_of_ble_eq_true rfl)
  rw [lg_entry_eq]
  generalize (lg_sl ([.ref (b + c0)]) ++ List.replicate (3 - (lg_sl ([.ref (b + c0)])).length) Slot.unset).toArray = ls at hl ⊢
  have hl : lv_has ls 3 [(0, .ref (b + c0))] := hl
  unfold f_X3_prizesOnShelf at hf
  refine lv_iconst (v := 0) hx hb dX3_prizesOnShelf_0 (by decide) ?_
  refine lv_istore_n (lv' := [(1, .int 0), (0, .ref (b + c0))]) hx hb dX3_prizesOnShelf_1 rfl hl (by decide) rfl (fun ls hl => ?_)
  refine lv_iconst (v := 0) hx hb dX3_prizesOnShelf_2 (by decide) ?_
  refine lv_istore_n (lv' := [(2, .int 0), (1, .int 0), (0, .ref (b + c0))]) hx hb dX3_prizesOnShelf_3 rfl hl (by decide) rfl (fun ls hl => ?_)
  have key_4 : ∀ (n : Nat) (τ : Sg) (x1 : Int32) (x2 : Int32) (H : Heap) (locs : List Loc) (ls : Array Slot), l_X3_prizesOnShelf_4 c0 n τ x1 x2 = some r → wd D t b τ H → va_S (geA b) s.heap H locs → lv_has ls 3 [(0, .ref (b + c0)), (1, .int x1), (2, .int x2)] → W p l e (headSpec (Cond.code yX3_prizesOnShelf cX3_prizesOnShelf 3 (some .int) :: ALL) ({ frames := 0, cells := 0, slots := 0, locals := 0 })).room s m (([.ref (b + c0)] : List Value).toArray) below meth c H locs 0 0 (MQ below (QG D t b τ (some (.int r))) (([.ref (b + c0)] : List Value).toArray) s 0 0 (geA b)) (F0 m 4 ls []) := by
    intro n
    induction n with
    | zero =>
      intro τ x1 x2 H locs ls hf
      rw [l_X3_prizesOnShelf_4.eq_1] at hf
      cases hf
    | succ n ih_4 =>
      intro τ x1 x2 H locs ls hf hW hS hl
      rw [l_X3_prizesOnShelf_4.eq_2] at hf
      refine lv_iload_n hx hb dX3_prizesOnShelf_4 rfl (lv_at hl 2 rfl) ?_
      refine lv_bipush (v := 16) hx hb dX3_prizesOnShelf_5 (by decide) ?_
      refine lv_icmp_ge (tgt := 25) hx hb dX3_prizesOnShelf_7 (by decide) (fun h1 => ?_) (fun h1 => ?_)
      · have hf := ifp h1 hf
        refine lv_iload_n hx hb dX3_prizesOnShelf_25 rfl (lv_at hl 1 rfl) ?_
        cases hf
        exact W.iret hx hb hr (fun u hu _ => ⟨⟨rfl, by rw [hu]; exact hW⟩, hS.F hu⟩) hS.2.2 dX3_prizesOnShelf_26
      · have hf := ifn h1 hf
        refine lv_iload_n hx hb dX3_prizesOnShelf_10 rfl (lv_at hl 1 rfl) ?_
        refine lv_aload_n hx hb dX3_prizesOnShelf_11 rfl (lv_at hl 0 rfl) ?_
        refine getS hx hb hta hown hE.1 hW hc0 10 (by decide) q144 rfl dX3_prizesOnShelf_12 ?_
        refine lv_iload_n hx hb dX3_prizesOnShelf_15 rfl (lv_at hl 2 rfl) ?_
        obtain ⟨g2, hf⟩ := gd_e hf
        refine iald hx hb hE.1 hW (shS_1 hc0) g2 dX3_prizesOnShelf_16 ?_
        refine lv_iadd hx hb dX3_prizesOnShelf_17 ?_
        refine lv_istore_n (lv' := [(1, .int (x1 + (τ (c0 + 1) (x2).toNatClampNeg))), (0, .ref (b + c0)), (2, .int x2)]) hx hb dX3_prizesOnShelf_18 rfl hl (by decide) rfl (fun ls hl => ?_)
        refine lv_iinc (v := (x2 + 1)) (lv' := [(2, .int (x2 + 1)), (1, .int (x1 + (τ (c0 + 1) (x2).toNatClampNeg))), (0, .ref (b + c0))]) hx hb dX3_prizesOnShelf_19 hl (k := 2) rfl (by rfl) (by decide) rfl (fun ls hl => ?_)
        refine lv_goto (tgt := 4) hx hb dX3_prizesOnShelf_22 (by decide) ?_
        exact ih_4 τ (x1 + (τ (c0 + 1) (x2).toNatClampNeg)) (x2 + 1) _ _ _ hf hW hS (lv_sub hl [2, 1, 0] rfl)
  exact key_4 10000 σ 0 0 _ _ _ hf hW hS (lv_sub hl [2, 1, 0] rfl)
def f_X4_costOfPrize (σ : Sg) (p0 : Int32) : Option Int32 := if p0 = 0 then (some 1) else (if p0 = 1 then (some 3) else (if p0 = 2 then (some 6) else (some 10)))
set_option maxHeartbeats 4000000 in
set_option maxRecDepth 100000 in
theorem c_X4_costOfPrize (l : Launch) (D : va_G) (t : Nat → ClassId) (b : Nat) (σ : Sg) (p0 : Int32) (r : Int32) (hf : f_X4_costOfPrize σ p0 = some r) : Met l yX4_costOfPrize (Cond.code yX4_costOfPrize cX4_costOfPrize 1 (some .int) :: ALL) ({ frames := 0, cells := 0, slots := 0, locals := 0 }) (PM D t b σ [.int p0]) (QG D t b σ (some (.int r))) 0 0 (geA b) := by
  refine Met.ofW (cc := cX4_costOfPrize) (maxL := 1) (ret := (some .int)) (by decide) rfl ?_
  intro p e s m args below meth c s₁ B hml hv
  obtain ⟨rfl, hW, hE⟩ := hv
  have hx := B.exec
  have hb := B.bytes
  have hr := B.returns
  have hts := atoms_spec (ws := Cond.code yX4_costOfPrize cX4_costOfPrize 1 (some .int) :: ALL) B.pre
  have hta := fun w h => hts w (List.mem_cons_of_mem _ h)
  have hown : s.vm.findClass RX4 = some m.cls := findClass_of_methodNamed B.named
  have hlocks := B.notSynchronized
  have hS : va_S (geA b) s.heap s.heap [] := va_S.rf
  have hl := lv_entry ([.int p0]) (n := 1) (Nat.le_of_ble_eq_true rfl)
  rw [lg_entry_eq]
  generalize (lg_sl ([.int p0]) ++ List.replicate (1 - (lg_sl ([.int p0])).length) Slot.unset).toArray = ls at hl ⊢
  have hl : lv_has ls 1 [(0, .int p0)] := hl
  unfold f_X4_costOfPrize at hf
  refine lv_iload_n hx hb dX4_costOfPrize_0 rfl (lv_at hl 0 rfl) ?_
  by_cases h1 : p0 = 0
  · have hf := ifp h1 hf
    refine lv_tableIn (off := 27) (tgt := 28) hx hb dX4_costOfPrize_1 (by rw [h1]; decide) (by rw [h1]; decide) (by rw [h1]; decide) (by decide) ?_
    refine lv_iconst (v := 1) hx hb dX4_costOfPrize_28 (by decide) ?_
    cases hf
    exact W.iret hx hb hr (fun u hu _ => ⟨⟨rfl, by rw [hu]; exact hW⟩, hS.F hu⟩) hS.2.2 dX4_costOfPrize_29
  · have hf := ifn h1 hf
    by_cases h2 : p0 = 1
    · have hf := ifp h2 hf
      refine lv_tableIn (off := 29) (tgt := 30) hx hb dX4_costOfPrize_1 (by rw [h2]; decide) (by rw [h2]; decide) (by rw [h2]; decide) (by decide) ?_
      refine lv_iconst (v := 3) hx hb dX4_costOfPrize_30 (by decide) ?_
      cases hf
      exact W.iret hx hb hr (fun u hu _ => ⟨⟨rfl, by rw [hu]; exact hW⟩, hS.F hu⟩) hS.2.2 dX4_costOfPrize_31
    · have hf := ifn h2 hf
      by_cases h3 : p0 = 2
      · have hf := ifp h3 hf
        refine lv_tableIn (off := 31) (tgt := 32) hx hb dX4_costOfPrize_1 (by rw [h3]; decide) (by rw [h3]; decide) (by rw [h3]; decide) (by decide) ?_
        refine lv_bipush (v := 6) hx hb dX4_costOfPrize_32 (by decide) ?_
        cases hf
        exact W.iret hx hb hr (fun u hu _ => ⟨⟨rfl, by rw [hu]; exact hW⟩, hS.F hu⟩) hS.2.2 dX4_costOfPrize_34
      · have hf := ifn h3 hf
        refine lv_tableOut (tgt := 35) hx hb dX4_costOfPrize_1 (by have zh1 := lv_neT (a := 0) h1 (by decide); have zh2 := lv_neT (a := 1) h2 (by decide); have zh3 := lv_neT (a := 2) h3 (by decide); omega) (by decide) ?_
        refine lv_bipush (v := 10) hx hb dX4_costOfPrize_35 (by decide) ?_
        cases hf
        exact W.iret hx hb hr (fun u hu _ => ⟨⟨rfl, by rw [hu]; exact hW⟩, hS.F hu⟩) hS.2.2 dX4_costOfPrize_37
def f_X1_canRestock (c0 : Nat) (σ : Sg) (p1 : Int32) (p2 : Int32) (p3 : Int32) : Option Int32 := b1 (f_X1_hasStall c0 σ p1) fun y1 => if y1 = 0 then (some 0) else (gd p1 7 (b1 (f_X3_prizesOnShelf (sk (c0 + 3) p1) σ) fun y5 => if 40 < (y5 + p3) then (some 0) else (b1 (f_X4_costOfPrize σ p2) fun y8 => if (σ (sk (c0 + 3) p1) 5) < (y8 * p3) then (some 0) else (some 1))))
set_option maxHeartbeats 4000000 in
set_option maxRecDepth 100000 in
theorem c_X1_canRestock (l : Launch) (D : va_G) (t : Nat → ClassId) (b : Nat) (c0 : Nat) (σ : Sg) (p1 : Int32) (p2 : Int32) (p3 : Int32) (r : Int32) (hc0 : sh c0 = (1, 0)) (hf : f_X1_canRestock c0 σ p1 p2 p3 = some r) : Met l yX1_canRestock (Cond.code yX1_canRestock cX1_canRestock 4 (some .boolean) :: ALL) ({ frames := 1, cells := 0, slots := 0, locals := 22 }) (PM D t b σ [.ref (b + c0), .int p1, .int p2, .int p3]) (QG D t b σ (some (.int r))) 0 0 (geA b) := by
  refine Met.ofW (cc := cX1_canRestock) (maxL := 4) (ret := (some .boolean)) (by decide) rfl ?_
  intro p e s m args below meth c s₁ B hml hv
  obtain ⟨rfl, hW, hE⟩ := hv
  have hx := B.exec
  have hb := B.bytes
  have hr := B.returns
  have hts := atoms_spec (ws := Cond.code yX1_canRestock cX1_canRestock 4 (some .boolean) :: ALL) B.pre
  have hta := fun w h => hts w (List.mem_cons_of_mem _ h)
  have hown : s.vm.findClass RX1 = some m.cls := findClass_of_methodNamed B.named
  have hlocks := B.notSynchronized
  have hS : va_S (geA b) s.heap s.heap [] := va_S.rf
  have hl := lv_entry ([.ref (b + c0), .int p1, .int p2, .int p3]) (n := 4) (Nat.le_of_ble_eq_true rfl)
  rw [lg_entry_eq]
  generalize (lg_sl ([.ref (b + c0), .int p1, .int p2, .int p3]) ++ List.replicate (4 - (lg_sl ([.ref (b + c0), .int p1, .int p2, .int p3])).length) Slot.unset).toArray = ls at hl ⊢
  have hl : lv_has ls 4 [(0, .ref (b + c0)), (1, .int p1), (2, .int p2), (3, .int p3)] := hl
  unfold f_X1_canRestock at hf
  refine lv_aload_n hx hb dX1_canRestock_0 rfl (lv_at hl 0 rfl) ?_
  refine lv_iload_n hx hb dX1_canRestock_1 rfl (lv_at hl 1 rfl) ?_
  obtain ⟨y1, u2, hf⟩ := b1_e hf
  refine mV (k := c0) (q := (1, 0)) (C := RX1) (T := TX1) (N := 13) (ci := 1) (n := 1) (As := [.int p1]) (rest := []) (c_X1_hasStall l D t b c0 σ p1 y1 hc0 u2) hc0 (by decide) rfl rfl hx hb hml hown hts hE hW hS q498 q479 q480 q35 q481 hy_X1_hasStall ⟨rfl, rfl⟩ ⟨Nat.le_of_ble_eq_true rfl, Nat.le_of_ble_eq_true rfl⟩ rfl rfl hl.1 (Nat.le_of_ble_eq_true rfl) ⟨Nat.zero_le _, Nat.zero_le _⟩ dX1_canRestock_2 (fun H locs hW hS => ?_)
  refine lv_if_eq (tgt := 46) hx hb dX1_canRestock_5 (by decide) (fun h3 => ?_) (fun h3 => ?_)
  · have hf := ifp h3 hf
    refine lv_iconst (v := 0) hx hb dX1_canRestock_46 (by decide) ?_
    cases hf
    exact W.zret (ty := .boolean) hx hb hr (by decide) (fun u hu _ => ⟨⟨rfl, by rw [hu]; exact hW⟩, hS.F hu⟩) hS.2.2 dX1_canRestock_47
  · have hf := ifn h3 hf
    refine lv_aload_n hx hb dX1_canRestock_8 rfl (lv_at hl 0 rfl) ?_
    refine getF hx hb hta hown hE.1 hW hc0 11 (by decide) q192 rfl dX1_canRestock_9 ?_
    refine lv_iload_n hx hb dX1_canRestock_12 rfl (lv_at hl 1 rfl) ?_
    obtain ⟨g4, hf⟩ := gd_e hf
    refine sald hx hb hE.1 hW (shF_3 hc0) g4 dX1_canRestock_13 ?_
    obtain ⟨y5, u6, hf⟩ := b1_e hf
    refine mV (k := (sk (c0 + 3) p1)) (q := (3, 0)) (C := RX3) (T := TX3) (N := 11) (ci := 3) (n := 0) (As := []) (rest := []) (c_X3_prizesOnShelf l D t b (sk (c0 + 3) p1) σ y5 (shF_sk hc0 g4) u6) (shF_sk hc0 g4) (by decide) rfl rfl hx hb hml hown hts hE hW hS q499 q500 q501 q37 q502 hy_X3_prizesOnShelf ⟨rfl, rfl⟩ ⟨Nat.le_of_ble_eq_true rfl, Nat.le_of_ble_eq_true rfl⟩ rfl rfl hl.1 (Nat.le_of_ble_eq_true rfl) ⟨Nat.zero_le _, Nat.zero_le _⟩ dX1_canRestock_14 (fun H locs hW hS => ?_)
    refine lv_iload_n hx hb dX1_canRestock_17 rfl (lv_at hl 3 rfl) ?_
    refine lv_iadd hx hb dX1_canRestock_18 ?_
    refine lv_bipush (v := 40) hx hb dX1_canRestock_19 (by decide) ?_
    refine lv_icmp_gt (tgt := 46) hx hb dX1_canRestock_21 (by decide) (fun h7 => ?_) (fun h7 => ?_)
    · have hf := ifp h7 hf
      refine lv_iconst (v := 0) hx hb dX1_canRestock_46 (by decide) ?_
      cases hf
      exact W.zret (ty := .boolean) hx hb hr (by decide) (fun u hu _ => ⟨⟨rfl, by rw [hu]; exact hW⟩, hS.F hu⟩) hS.2.2 dX1_canRestock_47
    · have hf := ifn h7 hf
      refine lv_aload_n hx hb dX1_canRestock_24 rfl (lv_at hl 0 rfl) ?_
      refine getF hx hb hta hown hE.1 hW hc0 11 (by decide) q192 rfl dX1_canRestock_25 ?_
      refine lv_iload_n hx hb dX1_canRestock_28 rfl (lv_at hl 1 rfl) ?_
      refine sald hx hb hE.1 hW (shF_3 hc0) g4 dX1_canRestock_29 ?_
      refine getS hx hb hta hown hE.1 hW (shF_sk hc0 g4) 5 (by decide) q137 rfl dX1_canRestock_30 ?_
      refine lv_iload_n hx hb dX1_canRestock_33 rfl (lv_at hl 2 rfl) ?_
      obtain ⟨y8, u9, hf⟩ := b1_e hf
      refine mSN (n := 1) (As := [.int p2]) (rest := [.int (σ (sk (c0 + 3) p1) 5)]) (c_X4_costOfPrize l D t b σ p2 y8 u9) hx hb hml hown hts hE hW hS ng_503 q504 q34 q505 hs_X4_costOfPrize ⟨rfl, rfl⟩ ⟨Nat.le_of_ble_eq_true rfl, Nat.le_of_ble_eq_true rfl⟩ rfl rfl hl.1 (Nat.le_of_ble_eq_true rfl) ⟨Nat.zero_le _, Nat.zero_le _⟩ dX1_canRestock_34 (fun H locs hW hS => ?_)
      refine lv_iload_n hx hb dX1_canRestock_37 rfl (lv_at hl 3 rfl) ?_
      refine lv_imul hx hb dX1_canRestock_38 ?_
      refine lv_icmp_lt (tgt := 46) hx hb dX1_canRestock_39 (by decide) (fun h10 => ?_) (fun h10 => ?_)
      · have hf := ifp h10 hf
        refine lv_iconst (v := 0) hx hb dX1_canRestock_46 (by decide) ?_
        cases hf
        exact W.zret (ty := .boolean) hx hb hr (by decide) (fun u hu _ => ⟨⟨rfl, by rw [hu]; exact hW⟩, hS.F hu⟩) hS.2.2 dX1_canRestock_47
      · have hf := ifn h10 hf
        refine lv_iconst (v := 1) hx hb dX1_canRestock_42 (by decide) ?_
        refine lv_goto (tgt := 47) hx hb dX1_canRestock_43 (by decide) ?_
        cases hf
        exact W.zret (ty := .boolean) hx hb hr (by decide) (fun u hu _ => ⟨⟨rfl, by rw [hu]; exact hW⟩, hS.F hu⟩) hS.2.2 dX1_canRestock_47
def f_X1_putPrizes (c0 : Nat) (σ : Sg) (p1 : Int32) (p2 : Int32) (p3 : Int32) (p4 : Int32) : Option Sg := b1 (f_X4_costOfPrize σ p2) fun y1 => gd p1 7 (st (u2 σ (sk (c0 + 3) p1) 5 ((σ (sk (c0 + 3) p1) 5) - (y1 * p4))) fun σ4 => st (u2 σ4 c0 2 ((σ4 c0 2) + (y1 * p4))) fun σ6 => gd ((p2 * 4) + p3) 16 (st (u2 σ6 ((sk (c0 + 3) p1) + 1) (((p2 * 4) + p3)).toNatClampNeg ((σ6 ((sk (c0 + 3) p1) + 1) (((p2 * 4) + p3)).toNatClampNeg) + p4)) fun σ9 => some σ9))
set_option maxHeartbeats 4000000 in
set_option maxRecDepth 100000 in
theorem c_X1_putPrizes (l : Launch) (D : va_G) (t : Nat → ClassId) (b : Nat) (c0 : Nat) (σ : Sg) (p1 : Int32) (p2 : Int32) (p3 : Int32) (p4 : Int32) (σr : Sg) (hc0 : sh c0 = (1, 0)) (hf : f_X1_putPrizes c0 σ p1 p2 p3 p4 = some σr) : Met l yX1_putPrizes (Cond.code yX1_putPrizes cX1_putPrizes 6 none :: ALL) ({ frames := 1, cells := 0, slots := 0, locals := 20 }) (PM D t b σ [.ref (b + c0), .int p1, .int p2, .int p3, .int p4]) (QG D t b σr none) 0 0 (geA b) := by
  refine Met.ofW (cc := cX1_putPrizes) (maxL := 6) (ret := none) (by decide) rfl ?_
  intro p e s m args below meth c s₁ B hml hv
  obtain ⟨rfl, hW, hE⟩ := hv
  have hx := B.exec
  have hb := B.bytes
  have hr := B.returns
  have hts := atoms_spec (ws := Cond.code yX1_putPrizes cX1_putPrizes 6 none :: ALL) B.pre
  have hta := fun w h => hts w (List.mem_cons_of_mem _ h)
  have hown : s.vm.findClass RX1 = some m.cls := findClass_of_methodNamed B.named
  have hlocks := B.notSynchronized
  have hS : va_S (geA b) s.heap s.heap [] := va_S.rf
  have hl := lv_entry ([.ref (b + c0), .int p1, .int p2, .int p3, .int p4]) (n := 6) (Nat.le_of_ble_eq_true rfl)
  rw [lg_entry_eq]
  generalize (lg_sl ([.ref (b + c0), .int p1, .int p2, .int p3, .int p4]) ++ List.replicate (6 - (lg_sl ([.ref (b + c0), .int p1, .int p2, .int p3, .int p4])).length) Slot.unset).toArray = ls at hl ⊢
  have hl : lv_has ls 6 [(0, .ref (b + c0)), (1, .int p1), (2, .int p2), (3, .int p3), (4, .int p4)] := hl
  unfold f_X1_putPrizes at hf
  refine lv_iload_n hx hb dX1_putPrizes_0 rfl (lv_at hl 2 rfl) ?_
  obtain ⟨y1, u2, hf⟩ := b1_e hf
  refine mSN (n := 1) (As := [.int p2]) (rest := []) (c_X4_costOfPrize l D t b σ p2 y1 u2) hx hb hml hown hts hE hW hS ng_503 q504 q34 q505 hs_X4_costOfPrize ⟨rfl, rfl⟩ ⟨Nat.le_of_ble_eq_true rfl, Nat.le_of_ble_eq_true rfl⟩ rfl rfl hl.1 (Nat.le_of_ble_eq_true rfl) ⟨Nat.zero_le _, Nat.zero_le _⟩ dX1_putPrizes_1 (fun H locs hW hS => ?_)
  refine lv_iload hx hb dX1_putPrizes_4 (lv_at hl 4 rfl) ?_
  refine lv_imul hx hb dX1_putPrizes_6 ?_
  refine lv_istore (lv' := [(5, .int (y1 * p4)), (0, .ref (b + c0)), (1, .int p1), (2, .int p2), (3, .int p3), (4, .int p4)]) hx hb dX1_putPrizes_7 hl (by decide) rfl (fun ls hl => ?_)
  refine lv_aload_n hx hb dX1_putPrizes_9 rfl (lv_at hl 1 rfl) ?_
  refine getF hx hb hta hown hE.1 hW hc0 11 (by decide) q192 rfl dX1_putPrizes_10 ?_
  refine lv_iload_n hx hb dX1_putPrizes_13 rfl (lv_at hl 2 rfl) ?_
  obtain ⟨g3, hf⟩ := gd_e hf
  refine sald hx hb hE.1 hW (shF_3 hc0) g3 dX1_putPrizes_14 ?_
  refine lv_dup hx hb dX1_putPrizes_15 rfl ?_
  refine getS hx hb hta hown hE.1 hW (shF_sk hc0 g3) 5 (by decide) q137 rfl dX1_putPrizes_16 ?_
  refine lv_iload hx hb dX1_putPrizes_19 (lv_at hl 0 rfl) ?_
  refine lv_isub hx hb dX1_putPrizes_21 ?_
  refine putX (k := (sk (c0 + 3) p1)) (q := (3, 0)) (ci := 3) (x := ((σ (sk (c0 + 3) p1) 5) - (y1 * p4))) inA3 tyX3_ok nmX3 rfl (by decide) rfl hx hb hta hown hE.1 hW hS (shF_sk hc0 g3) 5 (by decide) q137 rfl rfl rfl (Nat.le_of_ble_eq_true rfl) rfl dX1_putPrizes_22 (fun H locs hW hS => ?_)
  obtain ⟨σ4, e5, hf⟩ := st_e hf
  rw [e5] at hW
  refine lv_aload_n hx hb dX1_putPrizes_25 rfl (lv_at hl 1 rfl) ?_
  refine lv_dup hx hb dX1_putPrizes_26 rfl ?_
  refine getF hx hb hta hown hE.1 hW hc0 2 (by decide) q174 rfl dX1_putPrizes_27 ?_
  refine lv_iload hx hb dX1_putPrizes_30 (lv_at hl 0 rfl) ?_
  refine lv_iadd hx hb dX1_putPrizes_32 ?_
  refine putX (k := c0) (q := (1, 0)) (ci := 1) (x := ((σ4 c0 2) + (y1 * p4))) inA1 tyX1_ok nmX1 rfl (by decide) rfl hx hb hta hown hE.1 hW hS hc0 2 (by decide) q174 rfl rfl rfl (Nat.le_of_ble_eq_true rfl) rfl dX1_putPrizes_33 (fun H locs hW hS => ?_)
  obtain ⟨σ6, e7, hf⟩ := st_e hf
  rw [e7] at hW
  refine lv_aload_n hx hb dX1_putPrizes_36 rfl (lv_at hl 1 rfl) ?_
  refine getF hx hb hta hown hE.1 hW hc0 11 (by decide) q192 rfl dX1_putPrizes_37 ?_
  refine lv_iload_n hx hb dX1_putPrizes_40 rfl (lv_at hl 2 rfl) ?_
  refine sald hx hb hE.1 hW (shF_3 hc0) g3 dX1_putPrizes_41 ?_
  refine getS hx hb hta hown hE.1 hW (shF_sk hc0 g3) 10 (by decide) q145 rfl dX1_putPrizes_42 ?_
  refine lv_iload_n hx hb dX1_putPrizes_45 rfl (lv_at hl 3 rfl) ?_
  refine lv_iconst (v := 4) hx hb dX1_putPrizes_46 (by decide) ?_
  refine lv_imul hx hb dX1_putPrizes_47 ?_
  refine lv_iload_n hx hb dX1_putPrizes_48 rfl (lv_at hl 4 rfl) ?_
  refine lv_iadd hx hb dX1_putPrizes_49 ?_
  refine lv_dup2_11 hx hb dX1_putPrizes_50 rfl rfl ?_
  obtain ⟨g8, hf⟩ := gd_e hf
  refine iald hx hb hE.1 hW (shS_1 (shF_sk hc0 g3)) g8 dX1_putPrizes_51 ?_
  refine lv_iload hx hb dX1_putPrizes_52 (lv_at hl 5 rfl) ?_
  refine lv_iadd hx hb dX1_putPrizes_54 ?_
  refine iast (k := ((sk (c0 + 3) p1) + 1)) (i := ((p2 * 4) + p3)) (x := ((σ6 ((sk (c0 + 3) p1) + 1) (((p2 * 4) + p3)).toNatClampNeg) + p4)) hx hb hE.1 hW hS (shS_1 (shF_sk hc0 g3)) g8 dX1_putPrizes_55 (fun H locs hW hS => ?_)
  obtain ⟨σ9, e10, hf⟩ := st_e hf
  rw [e10] at hW
  cases hf
  exact W.vret hx hb hr (fun u hu _ => ⟨⟨rfl, by rw [hu]; exact hW⟩, hS.F hu⟩) hS.2.2 dX1_putPrizes_56
def f_X1_canFund (c0 : Nat) (σ : Sg) (p1 : Int32) (p2 : Int32) : Option Int32 := b1 (f_X1_hasStall c0 σ p1) fun y1 => if y1 = 0 then (some 0) else (if (σ c0 0) < p2 then (some 0) else (some 1))
set_option maxHeartbeats 4000000 in
set_option maxRecDepth 100000 in
theorem c_X1_canFund (l : Launch) (D : va_G) (t : Nat → ClassId) (b : Nat) (c0 : Nat) (σ : Sg) (p1 : Int32) (p2 : Int32) (r : Int32) (hc0 : sh c0 = (1, 0)) (hf : f_X1_canFund c0 σ p1 p2 = some r) : Met l yX1_canFund (Cond.code yX1_canFund cX1_canFund 3 (some .boolean) :: ALL) ({ frames := 1, cells := 0, slots := 0, locals := 21 }) (PM D t b σ [.ref (b + c0), .int p1, .int p2]) (QG D t b σ (some (.int r))) 0 0 (geA b) := by
  refine Met.ofW (cc := cX1_canFund) (maxL := 3) (ret := (some .boolean)) (by decide) rfl ?_
  intro p e s m args below meth c s₁ B hml hv
  obtain ⟨rfl, hW, hE⟩ := hv
  have hx := B.exec
  have hb := B.bytes
  have hr := B.returns
  have hts := atoms_spec (ws := Cond.code yX1_canFund cX1_canFund 3 (some .boolean) :: ALL) B.pre
  have hta := fun w h => hts w (List.mem_cons_of_mem _ h)
  have hown : s.vm.findClass RX1 = some m.cls := findClass_of_methodNamed B.named
  have hlocks := B.notSynchronized
  have hS : va_S (geA b) s.heap s.heap [] := va_S.rf
  have hl := lv_entry ([.ref (b + c0), .int p1, .int p2]) (n := 3) (Nat.le_of_ble_eq_true rfl)
  rw [lg_entry_eq]
  generalize (lg_sl ([.ref (b + c0), .int p1, .int p2]) ++ List.replicate (3 - (lg_sl ([.ref (b + c0), .int p1, .int p2])).length) Slot.unset).toArray = ls at hl ⊢
  have hl : lv_has ls 3 [(0, .ref (b + c0)), (1, .int p1), (2, .int p2)] := hl
  unfold f_X1_canFund at hf
  refine lv_aload_n hx hb dX1_canFund_0 rfl (lv_at hl 0 rfl) ?_
  refine lv_iload_n hx hb dX1_canFund_1 rfl (lv_at hl 1 rfl) ?_
  obtain ⟨y1, u2, hf⟩ := b1_e hf
  refine mV (k := c0) (q := (1, 0)) (C := RX1) (T := TX1) (N := 13) (ci := 1) (n := 1) (As := [.int p1]) (rest := []) (c_X1_hasStall l D t b c0 σ p1 y1 hc0 u2) hc0 (by decide) rfl rfl hx hb hml hown hts hE hW hS q498 q479 q480 q35 q481 hy_X1_hasStall ⟨rfl, rfl⟩ ⟨Nat.le_of_ble_eq_true rfl, Nat.le_of_ble_eq_true rfl⟩ rfl rfl hl.1 (Nat.le_of_ble_eq_true rfl) ⟨Nat.zero_le _, Nat.zero_le _⟩ dX1_canFund_2 (fun H locs hW hS => ?_)
  refine lv_if_eq (tgt := 20) hx hb dX1_canFund_5 (by decide) (fun h3 => ?_) (fun h3 => ?_)
  · have hf := ifp h3 hf
    refine lv_iconst (v := 0) hx hb dX1_canFund_20 (by decide) ?_
    cases hf
    exact W.zret (ty := .boolean) hx hb hr (by decide) (fun u hu _ => ⟨⟨rfl, by rw [hu]; exact hW⟩, hS.F hu⟩) hS.2.2 dX1_canFund_21
  · have hf := ifn h3 hf
    refine lv_aload_n hx hb dX1_canFund_8 rfl (lv_at hl 0 rfl) ?_
    refine getF hx hb hta hown hE.1 hW hc0 0 (by decide) q170 rfl dX1_canFund_9 ?_
    refine lv_iload_n hx hb dX1_canFund_12 rfl (lv_at hl 2 rfl) ?_
    refine lv_icmp_lt (tgt := 20) hx hb dX1_canFund_13 (by decide) (fun h4 => ?_) (fun h4 => ?_)
    · have hf := ifp h4 hf
      refine lv_iconst (v := 0) hx hb dX1_canFund_20 (by decide) ?_
      cases hf
      exact W.zret (ty := .boolean) hx hb hr (by decide) (fun u hu _ => ⟨⟨rfl, by rw [hu]; exact hW⟩, hS.F hu⟩) hS.2.2 dX1_canFund_21
    · have hf := ifn h4 hf
      refine lv_iconst (v := 1) hx hb dX1_canFund_16 (by decide) ?_
      refine lv_goto (tgt := 21) hx hb dX1_canFund_17 (by decide) ?_
      cases hf
      exact W.zret (ty := .boolean) hx hb hr (by decide) (fun u hu _ => ⟨⟨rfl, by rw [hu]; exact hW⟩, hS.F hu⟩) hS.2.2 dX1_canFund_21
def f_X1_giveCoins (c0 : Nat) (σ : Sg) (p1 : Int32) (p2 : Int32) : Option Sg := st (u2 σ c0 0 ((σ c0 0) - p2)) fun σ1 => gd p1 7 (st (u2 σ1 (sk (c0 + 3) p1) 5 ((σ1 (sk (c0 + 3) p1) 5) + p2)) fun σ4 => some σ4)
set_option maxHeartbeats 4000000 in
set_option maxRecDepth 100000 in
theorem c_X1_giveCoins (l : Launch) (D : va_G) (t : Nat → ClassId) (b : Nat) (c0 : Nat) (σ : Sg) (p1 : Int32) (p2 : Int32) (σr : Sg) (hc0 : sh c0 = (1, 0)) (hf : f_X1_giveCoins c0 σ p1 p2 = some σr) : Met l yX1_giveCoins (Cond.code yX1_giveCoins cX1_giveCoins 3 none :: ALL) ({ frames := 0, cells := 0, slots := 0, locals := 0 }) (PM D t b σ [.ref (b + c0), .int p1, .int p2]) (QG D t b σr none) 0 0 (geA b) := by
  refine Met.ofW (cc := cX1_giveCoins) (maxL := 3) (ret := none) (by decide) rfl ?_
  intro p e s m args below meth c s₁ B hml hv
  obtain ⟨rfl, hW, hE⟩ := hv
  have hx := B.exec
  have hb := B.bytes
  have hr := B.returns
  have hts := atoms_spec (ws := Cond.code yX1_giveCoins cX1_giveCoins 3 none :: ALL) B.pre
  have hta := fun w h => hts w (List.mem_cons_of_mem _ h)
  have hown : s.vm.findClass RX1 = some m.cls := findClass_of_methodNamed B.named
  have hlocks := B.notSynchronized
  have hS : va_S (geA b) s.heap s.heap [] := va_S.rf
  have hl := lv_entry ([.ref (b + c0), .int p1, .int p2]) (n := 3) (Nat.le_of_ble_eq_true rfl)
  rw [lg_entry_eq]
  generalize (lg_sl ([.ref (b + c0), .int p1, .int p2]) ++ List.replicate (3 - (lg_sl ([.ref (b + c0), .int p1, .int p2])).length) Slot.unset).toArray = ls at hl ⊢
  have hl : lv_has ls 3 [(0, .ref (b + c0)), (1, .int p1), (2, .int p2)] := hl
  unfold f_X1_giveCoins at hf
  refine lv_aload_n hx hb dX1_giveCoins_0 rfl (lv_at hl 0 rfl) ?_
  refine lv_dup hx hb dX1_giveCoins_1 rfl ?_
  refine getF hx hb hta hown hE.1 hW hc0 0 (by decide) q170 rfl dX1_giveCoins_2 ?_
  refine lv_iload_n hx hb dX1_giveCoins_5 rfl (lv_at hl 2 rfl) ?_
  refine lv_isub hx hb dX1_giveCoins_6 ?_
  refine putX (k := c0) (q := (1, 0)) (ci := 1) (x := ((σ c0 0) - p2)) inA1 tyX1_ok nmX1 rfl (by decide) rfl hx hb hta hown hE.1 hW hS hc0 0 (by decide) q170 rfl rfl rfl (Nat.le_of_ble_eq_true rfl) rfl dX1_giveCoins_7 (fun H locs hW hS => ?_)
  obtain ⟨σ1, e2, hf⟩ := st_e hf
  rw [e2] at hW
  refine lv_aload_n hx hb dX1_giveCoins_10 rfl (lv_at hl 0 rfl) ?_
  refine getF hx hb hta hown hE.1 hW hc0 11 (by decide) q192 rfl dX1_giveCoins_11 ?_
  refine lv_iload_n hx hb dX1_giveCoins_14 rfl (lv_at hl 1 rfl) ?_
  obtain ⟨g3, hf⟩ := gd_e hf
  refine sald hx hb hE.1 hW (shF_3 hc0) g3 dX1_giveCoins_15 ?_
  refine lv_dup hx hb dX1_giveCoins_16 rfl ?_
  refine getS hx hb hta hown hE.1 hW (shF_sk hc0 g3) 5 (by decide) q137 rfl dX1_giveCoins_17 ?_
  refine lv_iload_n hx hb dX1_giveCoins_20 rfl (lv_at hl 2 rfl) ?_
  refine lv_iadd hx hb dX1_giveCoins_21 ?_
  refine putX (k := (sk (c0 + 3) p1)) (q := (3, 0)) (ci := 3) (x := ((σ1 (sk (c0 + 3) p1) 5) + p2)) inA3 tyX3_ok nmX3 rfl (by decide) rfl hx hb hta hown hE.1 hW hS (shF_sk hc0 g3) 5 (by decide) q137 rfl rfl rfl (Nat.le_of_ble_eq_true rfl) rfl dX1_giveCoins_22 (fun H locs hW hS => ?_)
  obtain ⟨σ4, e5, hf⟩ := st_e hf
  rw [e5] at hW
  cases hf
  exact W.vret hx hb hr (fun u hu _ => ⟨⟨rfl, by rw [hu]; exact hW⟩, hS.F hu⟩) hS.2.2 dX1_giveCoins_25
def l_X0_countHere_7 (c0 : Nat) : Nat → Sg → Int32 → Int32 → Option Int32
  | 0, _, _, _ => none
  | n + 1, τ, x1, x2 => if (τ c0 0) ≤ x2 then (some x1) else (gd x2 200 (if (τ (c0 + 5) (x2).toNatClampNeg) = (-1) then (l_X0_countHere_7 c0 n τ x1 (x2 + 1)) else (l_X0_countHere_7 c0 n τ (x1 + 1) (x2 + 1))))
def f_X0_countHere (c0 : Nat) (σ : Sg) : Option Int32 := l_X0_countHere_7 c0 10000 σ 0 (σ c0 1)
set_option maxHeartbeats 4000000 in
set_option maxRecDepth 100000 in
theorem c_X0_countHere (l : Launch) (D : va_G) (t : Nat → ClassId) (b : Nat) (c0 : Nat) (σ : Sg) (r : Int32) (hc0 : sh c0 = (2, 0)) (hf : f_X0_countHere c0 σ = some r) : Met l yX0_countHere (Cond.code yX0_countHere cX0_countHere 3 (some .int) :: ALL) ({ frames := 0, cells := 0, slots := 0, locals := 0 }) (PM D t b σ [.ref (b + c0)]) (QG D t b σ (some (.int r))) 0 0 (geA b) := by
  refine Met.ofW (cc := cX0_countHere) (maxL := 3) (ret := (some .int)) (by decide) rfl ?_
  intro p e s m args below meth c s₁ B hml hv
  obtain ⟨rfl, hW, hE⟩ := hv
  have hx := B.exec
  have hb := B.bytes
  have hr := B.returns
  have hts := atoms_spec (ws := Cond.code yX0_countHere cX0_countHere 3 (some .int) :: ALL) B.pre
  have hta := fun w h => hts w (List.mem_cons_of_mem _ h)
  have hown : s.vm.findClass RX0 = some m.cls := findClass_of_methodNamed B.named
  have hlocks := B.notSynchronized
  have hS : va_S (geA b) s.heap s.heap [] := va_S.rf
  have hl := lv_entry ([.ref (b + c0)]) (n := 3) (Nat.le_of_ble_eq_true rfl)
  rw [lg_entry_eq]
  generalize (lg_sl ([.ref (b + c0)]) ++ List.replicate (3 - (lg_sl ([.ref (b + c0)])).length) Slot.unset).toArray = ls at hl ⊢
  have hl : lv_has ls 3 [(0, .ref (b + c0))] := hl
  unfold f_X0_countHere at hf
  refine lv_iconst (v := 0) hx hb dX0_countHere_0 (by decide) ?_
  refine lv_istore_n (lv' := [(1, .int 0), (0, .ref (b + c0))]) hx hb dX0_countHere_1 rfl hl (by decide) rfl (fun ls hl => ?_)
  refine lv_aload_n hx hb dX0_countHere_2 rfl (lv_at hl 1 rfl) ?_
  refine getC hx hb hta hown hE.1 hW hc0 1 (by decide) q72 rfl dX0_countHere_3 ?_
  refine lv_istore_n (lv' := [(2, .int (σ c0 1)), (1, .int 0), (0, .ref (b + c0))]) hx hb dX0_countHere_6 rfl hl (by decide) rfl (fun ls hl => ?_)
  have key_7 : ∀ (n : Nat) (τ : Sg) (x1 : Int32) (x2 : Int32) (H : Heap) (locs : List Loc) (ls : Array Slot), l_X0_countHere_7 c0 n τ x1 x2 = some r → wd D t b τ H → va_S (geA b) s.heap H locs → lv_has ls 3 [(0, .ref (b + c0)), (1, .int x1), (2, .int x2)] → W p l e (headSpec (Cond.code yX0_countHere cX0_countHere 3 (some .int) :: ALL) ({ frames := 0, cells := 0, slots := 0, locals := 0 })).room s m (([.ref (b + c0)] : List Value).toArray) below meth c H locs 0 0 (MQ below (QG D t b τ (some (.int r))) (([.ref (b + c0)] : List Value).toArray) s 0 0 (geA b)) (F0 m 7 ls []) := by
    intro n
    induction n with
    | zero =>
      intro τ x1 x2 H locs ls hf
      rw [l_X0_countHere_7.eq_1] at hf
      cases hf
    | succ n ih_7 =>
      intro τ x1 x2 H locs ls hf hW hS hl
      rw [l_X0_countHere_7.eq_2] at hf
      refine lv_iload_n hx hb dX0_countHere_7 rfl (lv_at hl 2 rfl) ?_
      refine lv_aload_n hx hb dX0_countHere_8 rfl (lv_at hl 0 rfl) ?_
      refine getC hx hb hta hown hE.1 hW hc0 0 (by decide) q69 rfl dX0_countHere_9 ?_
      refine lv_icmp_ge (tgt := 34) hx hb dX0_countHere_12 (by decide) (fun h1 => ?_) (fun h1 => ?_)
      · have hf := ifp h1 hf
        refine lv_iload_n hx hb dX0_countHere_34 rfl (lv_at hl 1 rfl) ?_
        cases hf
        exact W.iret hx hb hr (fun u hu _ => ⟨⟨rfl, by rw [hu]; exact hW⟩, hS.F hu⟩) hS.2.2 dX0_countHere_35
      · have hf := ifn h1 hf
        refine lv_aload_n hx hb dX0_countHere_15 rfl (lv_at hl 0 rfl) ?_
        refine getC hx hb hta hown hE.1 hW hc0 6 (by decide) q83 rfl dX0_countHere_16 ?_
        refine lv_iload_n hx hb dX0_countHere_19 rfl (lv_at hl 2 rfl) ?_
        obtain ⟨g2, hf⟩ := gd_e hf
        refine iald hx hb hE.1 hW (shC_5 hc0) g2 dX0_countHere_20 ?_
        refine lv_iconst (v := (-1)) hx hb dX0_countHere_21 (by decide) ?_
        refine lv_icmp_eq (tgt := 28) hx hb dX0_countHere_22 (by decide) (fun h3 => ?_) (fun h3 => ?_)
        · have hf := ifp h3 hf
          refine lv_iinc (v := (x2 + 1)) (lv' := [(2, .int (x2 + 1)), (0, .ref (b + c0)), (1, .int x1)]) hx hb dX0_countHere_28 hl (k := 2) rfl (by rfl) (by decide) rfl (fun ls hl => ?_)
          refine lv_goto (tgt := 7) hx hb dX0_countHere_31 (by decide) ?_
          exact ih_7 τ x1 (x2 + 1) _ _ _ hf hW hS (lv_sub hl [1, 2, 0] rfl)
        · have hf := ifn h3 hf
          refine lv_iinc (v := (x1 + 1)) (lv' := [(1, .int (x1 + 1)), (0, .ref (b + c0)), (2, .int x2)]) hx hb dX0_countHere_25 hl (k := 1) rfl (by rfl) (by decide) rfl (fun ls hl => ?_)
          refine lv_iinc (v := (x2 + 1)) (lv' := [(2, .int (x2 + 1)), (1, .int (x1 + 1)), (0, .ref (b + c0))]) hx hb dX0_countHere_28 hl (k := 2) rfl (by rfl) (by decide) rfl (fun ls hl => ?_)
          refine lv_goto (tgt := 7) hx hb dX0_countHere_31 (by decide) ?_
          exact ih_7 τ (x1 + 1) (x2 + 1) _ _ _ hf hW hS (lv_sub hl [2, 1, 0] rfl)
  exact key_7 10000 σ 0 (σ c0 1) _ _ _ hf hW hS (lv_sub hl [2, 1, 0] rfl)
def f_X0_haveRoom (c0 : Nat) (σ : Sg) : Option Int32 := if 200 ≤ (σ c0 0) then (some 0) else (b1 (f_X0_countHere c0 σ) fun y2 => if 40 ≤ y2 then (some 0) else (some 1))
set_option maxHeartbeats 4000000 in
set_option maxRecDepth 100000 in
theorem c_X0_haveRoom (l : Launch) (D : va_G) (t : Nat → ClassId) (b : Nat) (c0 : Nat) (σ : Sg) (r : Int32) (hc0 : sh c0 = (2, 0)) (hf : f_X0_haveRoom c0 σ = some r) : Met l yX0_haveRoom (Cond.code yX0_haveRoom cX0_haveRoom 1 (some .boolean) :: ALL) ({ frames := 1, cells := 0, slots := 0, locals := 22 }) (PM D t b σ [.ref (b + c0)]) (QG D t b σ (some (.int r))) 0 0 (geA b) := by
  refine Met.ofW (cc := cX0_haveRoom) (maxL := 1) (ret := (some .boolean)) (by decide) rfl ?_
  intro p e s m args below meth c s₁ B hml hv
  obtain ⟨rfl, hW, hE⟩ := hv
  have hx := B.exec
  have hb := B.bytes
  have hr := B.returns
  have hts := atoms_spec (ws := Cond.code yX0_haveRoom cX0_haveRoom 1 (some .boolean) :: ALL) B.pre
  have hta := fun w h => hts w (List.mem_cons_of_mem _ h)
  have hown : s.vm.findClass RX0 = some m.cls := findClass_of_methodNamed B.named
  have hlocks := B.notSynchronized
  have hS : va_S (geA b) s.heap s.heap [] := va_S.rf
  have hl := lv_entry ([.ref (b + c0)]) (n := 1) (Nat.le_of_ble_eq_true rfl)
  rw [lg_entry_eq]
  generalize (lg_sl ([.ref (b + c0)]) ++ List.replicate (1 - (lg_sl ([.ref (b + c0)])).length) Slot.unset).toArray = ls at hl ⊢
  have hl : lv_has ls 1 [(0, .ref (b + c0))] := hl
  unfold f_X0_haveRoom at hf
  refine lv_aload_n hx hb dX0_haveRoom_0 rfl (lv_at hl 0 rfl) ?_
  refine getC hx hb hta hown hE.1 hW hc0 0 (by decide) q69 rfl dX0_haveRoom_1 ?_
  refine lv_sipush (v := 200) hx hb dX0_haveRoom_4 (by decide) ?_
  refine lv_icmp_ge (tgt := 23) hx hb dX0_haveRoom_7 (by decide) (fun h1 => ?_) (fun h1 => ?_)
  · have hf := ifp h1 hf
    refine lv_iconst (v := 0) hx hb dX0_haveRoom_23 (by decide) ?_
    cases hf
    exact W.zret (ty := .boolean) hx hb hr (by decide) (fun u hu _ => ⟨⟨rfl, by rw [hu]; exact hW⟩, hS.F hu⟩) hS.2.2 dX0_haveRoom_24
  · have hf := ifn h1 hf
    refine lv_aload_n hx hb dX0_haveRoom_10 rfl (lv_at hl 0 rfl) ?_
    obtain ⟨y2, u3, hf⟩ := b1_e hf
    refine mV (k := c0) (q := (2, 0)) (C := RX0) (T := TX0) (N := 10) (ci := 0) (n := 0) (As := []) (rest := []) (c_X0_countHere l D t b c0 σ y2 hc0 u3) hc0 (by decide) rfl rfl hx hb hml hown hts hE hW hS q534 q535 q536 q36 q537 hy_X0_countHere ⟨rfl, rfl⟩ ⟨Nat.le_of_ble_eq_true rfl, Nat.le_of_ble_eq_true rfl⟩ rfl rfl hl.1 (Nat.le_of_ble_eq_true rfl) ⟨Nat.zero_le _, Nat.zero_le _⟩ dX0_haveRoom_11 (fun H locs hW hS => ?_)
    refine lv_bipush (v := 40) hx hb dX0_haveRoom_14 (by decide) ?_
    refine lv_icmp_ge (tgt := 23) hx hb dX0_haveRoom_16 (by decide) (fun h4 => ?_) (fun h4 => ?_)
    · have hf := ifp h4 hf
      refine lv_iconst (v := 0) hx hb dX0_haveRoom_23 (by decide) ?_
      cases hf
      exact W.zret (ty := .boolean) hx hb hr (by decide) (fun u hu _ => ⟨⟨rfl, by rw [hu]; exact hW⟩, hS.F hu⟩) hS.2.2 dX0_haveRoom_24
    · have hf := ifn h4 hf
      refine lv_iconst (v := 1) hx hb dX0_haveRoom_19 (by decide) ?_
      refine lv_goto (tgt := 24) hx hb dX0_haveRoom_20 (by decide) ?_
      cases hf
      exact W.zret (ty := .boolean) hx hb hr (by decide) (fun u hu _ => ⟨⟨rfl, by rw [hu]; exact hW⟩, hS.F hu⟩) hS.2.2 dX0_haveRoom_24
def f_X0_add (c0 : Nat) (σ : Sg) (p1 : Int32) (p2 : Int32) (p3 : Int32) : Option (Int32 × Sg) := if 200 ≤ (σ c0 0) then (some ((σ c0 0), σ)) else (gd (σ c0 0) 200 (st (u2 σ (c0 + 1) ((σ c0 0)).toNatClampNeg p1) fun σ3 => st (u2 σ3 (c0 + 2) ((σ c0 0)).toNatClampNeg 60) fun σ5 => st (u2 σ5 (c0 + 3) ((σ c0 0)).toNatClampNeg p2) fun σ7 => st (u2 σ7 (c0 + 4) ((σ c0 0)).toNatClampNeg p3) fun σ9 => st (u2 σ9 (c0 + 5) ((σ c0 0)).toNatClampNeg 0) fun σ11 => st (u2 σ11 (c0 + 6) ((σ c0 0)).toNatClampNeg 1) fun σ13 => st (u2 σ13 (c0 + 7) ((σ c0 0)).toNatClampNeg 0) fun σ15 => st (u2 σ15 (c0 + 8) ((σ c0 0)).toNatClampNeg 0) fun σ17 => st (u2 σ17 c0 0 ((σ17 c0 0) + 1)) fun σ19 => some ((σ c0 0), σ19)))
set_option maxHeartbeats 4000000 in
set_option maxRecDepth 100000 in
theorem c_X0_add (l : Launch) (D : va_G) (t : Nat → ClassId) (b : Nat) (c0 : Nat) (σ : Sg) (p1 : Int32) (p2 : Int32) (p3 : Int32) (r : Int32) (σr : Sg) (hc0 : sh c0 = (2, 0)) (hf : f_X0_add c0 σ p1 p2 p3 = some (r, σr)) : Met l yX0_add (Cond.code yX0_add cX0_add 5 (some .int) :: ALL) ({ frames := 0, cells := 0, slots := 0, locals := 0 }) (PM D t b σ [.ref (b + c0), .int p1, .int p2, .int p3]) (QG D t b σr (some (.int r))) 0 0 (geA b) := by
  refine Met.ofW (cc := cX0_add) (maxL := 5) (ret := (some .int)) (by decide) rfl ?_
  intro p e s m args below meth c s₁ B hml hv
  obtain ⟨rfl, hW, hE⟩ := hv
  have hx := B.exec
  have hb := B.bytes
  have hr := B.returns
  have hts := atoms_spec (ws := Cond.code yX0_add cX0_add 5 (some .int) :: ALL) B.pre
  have hta := fun w h => hts w (List.mem_cons_of_mem _ h)
  have hown : s.vm.findClass RX0 = some m.cls := findClass_of_methodNamed B.named
  have hlocks := B.notSynchronized
  have hS : va_S (geA b) s.heap s.heap [] := va_S.rf
  have hl := lv_entry ([.ref (b + c0), .int p1, .int p2, .int p3]) (n := 5) (Nat.le_of_ble_eq_true rfl)
  rw [lg_entry_eq]
  generalize (lg_sl ([.ref (b + c0), .int p1, .int p2, .int p3]) ++ List.replicate (5 - (lg_sl ([.ref (b + c0), .int p1, .int p2, .int p3])).length) Slot.unset).toArray = ls at hl ⊢
  have hl : lv_has ls 5 [(0, .ref (b + c0)), (1, .int p1), (2, .int p2), (3, .int p3)] := hl
  unfold f_X0_add at hf
  refine lv_aload_n hx hb dX0_add_0 rfl (lv_at hl 0 rfl) ?_
  refine getC hx hb hta hown hE.1 hW hc0 0 (by decide) q69 rfl dX0_add_1 ?_
  refine lv_istore (lv' := [(4, .int (σ c0 0)), (0, .ref (b + c0)), (1, .int p1), (2, .int p2), (3, .int p3)]) hx hb dX0_add_4 hl (by decide) rfl (fun ls hl => ?_)
  refine lv_iload hx hb dX0_add_6 (lv_at hl 0 rfl) ?_
  refine lv_sipush (v := 200) hx hb dX0_add_8 (by decide) ?_
  refine lv_icmp_ge (tgt := 89) hx hb dX0_add_11 (by decide) (fun h1 => ?_) (fun h1 => ?_)
  · have hf := ifp h1 hf
    refine lv_iload hx hb dX0_add_89 (lv_at hl 0 rfl) ?_
    cases hf
    exact W.iret hx hb hr (fun u hu _ => ⟨⟨rfl, by rw [hu]; exact hW⟩, hS.F hu⟩) hS.2.2 dX0_add_91
  · have hf := ifn h1 hf
    refine lv_aload_n hx hb dX0_add_14 rfl (lv_at hl 1 rfl) ?_
    refine getC hx hb hta hown hE.1 hW hc0 2 (by decide) q74 rfl dX0_add_15 ?_
    refine lv_iload hx hb dX0_add_18 (lv_at hl 0 rfl) ?_
    refine lv_iload_n hx hb dX0_add_20 rfl (lv_at hl 2 rfl) ?_
    obtain ⟨g2, hf⟩ := gd_e hf
    refine iast (k := (c0 + 1)) (i := (σ c0 0)) (x := p1) hx hb hE.1 hW hS (shC_1 hc0) g2 dX0_add_21 (fun H locs hW hS => ?_)
    obtain ⟨σ3, e4, hf⟩ := st_e hf
    rw [e4] at hW
    refine lv_aload_n hx hb dX0_add_22 rfl (lv_at hl 1 rfl) ?_
    refine getC hx hb hta hown hE.1 hW hc0 3 (by decide) q77 rfl dX0_add_23 ?_
    refine lv_iload hx hb dX0_add_26 (lv_at hl 0 rfl) ?_
    refine lv_bipush (v := 60) hx hb dX0_add_28 (by decide) ?_
    refine iast (k := (c0 + 2)) (i := (σ c0 0)) (x := 60) hx hb hE.1 hW hS (shC_2 hc0) g2 dX0_add_30 (fun H locs hW hS => ?_)
    obtain ⟨σ5, e6, hf⟩ := st_e hf
    rw [e6] at hW
    refine lv_aload_n hx hb dX0_add_31 rfl (lv_at hl 1 rfl) ?_
    refine getC hx hb hta hown hE.1 hW hc0 4 (by decide) q80 rfl dX0_add_32 ?_
    refine lv_iload hx hb dX0_add_35 (lv_at hl 0 rfl) ?_
    refine lv_iload_n hx hb dX0_add_37 rfl (lv_at hl 3 rfl) ?_
    refine iast (k := (c0 + 3)) (i := (σ c0 0)) (x := p2) hx hb hE.1 hW hS (shC_3 hc0) g2 dX0_add_38 (fun H locs hW hS => ?_)
    obtain ⟨σ7, e8, hf⟩ := st_e hf
    rw [e8] at hW
    refine lv_aload_n hx hb dX0_add_39 rfl (lv_at hl 1 rfl) ?_
    refine getC hx hb hta hown hE.1 hW hc0 5 (by decide) q81 rfl dX0_add_40 ?_
    refine lv_iload hx hb dX0_add_43 (lv_at hl 0 rfl) ?_
    refine lv_iload_n hx hb dX0_add_45 rfl (lv_at hl 4 rfl) ?_
    refine iast (k := (c0 + 4)) (i := (σ c0 0)) (x := p3) hx hb hE.1 hW hS (shC_4 hc0) g2 dX0_add_46 (fun H locs hW hS => ?_)
    obtain ⟨σ9, e10, hf⟩ := st_e hf
    rw [e10] at hW
    refine lv_aload_n hx hb dX0_add_47 rfl (lv_at hl 1 rfl) ?_
    refine getC hx hb hta hown hE.1 hW hc0 6 (by decide) q83 rfl dX0_add_48 ?_
    refine lv_iload hx hb dX0_add_51 (lv_at hl 0 rfl) ?_
    refine lv_iconst (v := 0) hx hb dX0_add_53 (by decide) ?_
    refine iast (k := (c0 + 5)) (i := (σ c0 0)) (x := 0) hx hb hE.1 hW hS (shC_5 hc0) g2 dX0_add_54 (fun H locs hW hS => ?_)
    obtain ⟨σ11, e12, hf⟩ := st_e hf
    rw [e12] at hW
    refine lv_aload_n hx hb dX0_add_55 rfl (lv_at hl 1 rfl) ?_
    refine getC hx hb hta hown hE.1 hW hc0 7 (by decide) q86 rfl dX0_add_56 ?_
    refine lv_iload hx hb dX0_add_59 (lv_at hl 0 rfl) ?_
    refine lv_iconst (v := 1) hx hb dX0_add_61 (by decide) ?_
    refine iast (k := (c0 + 6)) (i := (σ c0 0)) (x := 1) hx hb hE.1 hW hS (shC_6 hc0) g2 dX0_add_62 (fun H locs hW hS => ?_)
    obtain ⟨σ13, e14, hf⟩ := st_e hf
    rw [e14] at hW
    refine lv_aload_n hx hb dX0_add_63 rfl (lv_at hl 1 rfl) ?_
    refine getC hx hb hta hown hE.1 hW hc0 8 (by decide) q88 rfl dX0_add_64 ?_
    refine lv_iload hx hb dX0_add_67 (lv_at hl 0 rfl) ?_
    refine lv_iconst (v := 0) hx hb dX0_add_69 (by decide) ?_
    refine iast (k := (c0 + 7)) (i := (σ c0 0)) (x := 0) hx hb hE.1 hW hS (shC_7 hc0) g2 dX0_add_70 (fun H locs hW hS => ?_)
    obtain ⟨σ15, e16, hf⟩ := st_e hf
    rw [e16] at hW
    refine lv_aload_n hx hb dX0_add_71 rfl (lv_at hl 1 rfl) ?_
    refine getC hx hb hta hown hE.1 hW hc0 9 (by decide) q90 rfl dX0_add_72 ?_
    refine lv_iload hx hb dX0_add_75 (lv_at hl 0 rfl) ?_
    refine lv_iconst (v := 0) hx hb dX0_add_77 (by decide) ?_
    refine iast (k := (c0 + 8)) (i := (σ c0 0)) (x := 0) hx hb hE.1 hW hS (shC_8 hc0) g2 dX0_add_78 (fun H locs hW hS => ?_)
    obtain ⟨σ17, e18, hf⟩ := st_e hf
    rw [e18] at hW
    refine lv_aload_n hx hb dX0_add_79 rfl (lv_at hl 1 rfl) ?_
    refine lv_dup hx hb dX0_add_80 rfl ?_
    refine getC hx hb hta hown hE.1 hW hc0 0 (by decide) q69 rfl dX0_add_81 ?_
    refine lv_iconst (v := 1) hx hb dX0_add_84 (by decide) ?_
    refine lv_iadd hx hb dX0_add_85 ?_
    refine putX (k := c0) (q := (2, 0)) (ci := 0) (x := ((σ17 c0 0) + 1)) inA0 tyX0_ok nmX0 rfl (by decide) rfl hx hb hta hown hE.1 hW hS hc0 0 (by decide) q69 rfl rfl rfl (Nat.le_of_ble_eq_true rfl) rfl dX0_add_86 (fun H locs hW hS => ?_)
    obtain ⟨σ19, e20, hf⟩ := st_e hf
    rw [e20] at hW
    refine lv_iload hx hb dX0_add_89 (lv_at hl 0 rfl) ?_
    cases hf
    exact W.iret hx hb hr (fun u hu _ => ⟨⟨rfl, by rw [hu]; exact hW⟩, hS.F hu⟩) hS.2.2 dX0_add_91
def f_X1_letIn (c0 : Nat) (σ : Sg) (p1 : Int32) (p2 : Int32) (p3 : Int32) : Option (Int32 × Sg) := st (u2 σ c0 3 ((σ c0 3) + p1)) fun σ1 => b2 (f_X0_add (c0 + 4) σ1 p1 p2 p3) fun y3 σ5 => some (y3, σ5)
set_option maxHeartbeats 4000000 in
set_option maxRecDepth 100000 in
theorem c_X1_letIn (l : Launch) (D : va_G) (t : Nat → ClassId) (b : Nat) (c0 : Nat) (σ : Sg) (p1 : Int32) (p2 : Int32) (p3 : Int32) (r : Int32) (σr : Sg) (hc0 : sh c0 = (1, 0)) (hf : f_X1_letIn c0 σ p1 p2 p3 = some (r, σr)) : Met l yX1_letIn (Cond.code yX1_letIn cX1_letIn 4 (some .int) :: ALL) ({ frames := 1, cells := 0, slots := 0, locals := 24 }) (PM D t b σ [.ref (b + c0), .int p1, .int p2, .int p3]) (QG D t b σr (some (.int r))) 0 0 (geA b) := by
  refine Met.ofW (cc := cX1_letIn) (maxL := 4) (ret := (some .int)) (by decide) rfl ?_
  intro p e s m args below meth c s₁ B hml hv
  obtain ⟨rfl, hW, hE⟩ := hv
  have hx := B.exec
  have hb := B.bytes
  have hr := B.returns
  have hts := atoms_spec (ws := Cond.code yX1_letIn cX1_letIn 4 (some .int) :: ALL) B.pre
  have hta := fun w h => hts w (List.mem_cons_of_mem _ h)
  have hown : s.vm.findClass RX1 = some m.cls := findClass_of_methodNamed B.named
  have hlocks := B.notSynchronized
  have hS : va_S (geA b) s.heap s.heap [] := va_S.rf
  have hl := lv_entry ([.ref (b + c0), .int p1, .int p2, .int p3]) (n := 4) (Nat.le_of_ble_eq_true rfl)
  rw [lg_entry_eq]
  generalize (lg_sl ([.ref (b + c0), .int p1, .int p2, .int p3]) ++ List.replicate (4 - (lg_sl ([.ref (b + c0), .int p1, .int p2, .int p3])).length) Slot.unset).toArray = ls at hl ⊢
  have hl : lv_has ls 4 [(0, .ref (b + c0)), (1, .int p1), (2, .int p2), (3, .int p3)] := hl
  unfold f_X1_letIn at hf
  refine lv_aload_n hx hb dX1_letIn_0 rfl (lv_at hl 0 rfl) ?_
  refine lv_dup hx hb dX1_letIn_1 rfl ?_
  refine getF hx hb hta hown hE.1 hW hc0 3 (by decide) q176 rfl dX1_letIn_2 ?_
  refine lv_iload_n hx hb dX1_letIn_5 rfl (lv_at hl 1 rfl) ?_
  refine lv_iadd hx hb dX1_letIn_6 ?_
  refine putX (k := c0) (q := (1, 0)) (ci := 1) (x := ((σ c0 3) + p1)) inA1 tyX1_ok nmX1 rfl (by decide) rfl hx hb hta hown hE.1 hW hS hc0 3 (by decide) q176 rfl rfl rfl (Nat.le_of_ble_eq_true rfl) rfl dX1_letIn_7 (fun H locs hW hS => ?_)
  obtain ⟨σ1, e2, hf⟩ := st_e hf
  rw [e2] at hW
  refine lv_aload_n hx hb dX1_letIn_10 rfl (lv_at hl 0 rfl) ?_
  refine getF hx hb hta hown hE.1 hW hc0 12 (by decide) q194 rfl dX1_letIn_11 ?_
  refine lv_iload_n hx hb dX1_letIn_14 rfl (lv_at hl 1 rfl) ?_
  refine lv_iload_n hx hb dX1_letIn_15 rfl (lv_at hl 2 rfl) ?_
  refine lv_iload_n hx hb dX1_letIn_16 rfl (lv_at hl 3 rfl) ?_
  obtain ⟨y3, σ5, u4, hf⟩ := b2_e hf
  refine mV (k := (c0 + 4)) (q := (2, 0)) (C := RX0) (T := TX0) (N := 10) (ci := 0) (n := 3) (As := [.int p1, .int p2, .int p3]) (rest := []) (c_X0_add l D t b (c0 + 4) σ1 p1 p2 p3 y3 σ5 (shF_4 hc0) u4) (shF_4 hc0) (by decide) rfl rfl hx hb hml hown hts hE hW hS q543 q544 q545 q36 q546 hy_X0_add ⟨rfl, rfl⟩ ⟨Nat.le_of_ble_eq_true rfl, Nat.le_of_ble_eq_true rfl⟩ rfl rfl hl.1 (Nat.le_of_ble_eq_true rfl) ⟨Nat.zero_le _, Nat.zero_le _⟩ dX1_letIn_17 (fun H locs hW hS => ?_)
  cases hf
  exact W.iret hx hb hr (fun u hu _ => ⟨⟨rfl, by rw [hu]; exact hW⟩, hS.F hu⟩) hS.2.2 dX1_letIn_20
def f_X1_canPass (c0 : Nat) (σ : Sg) (p1 : Int32) : Option Int32 := if 9999 < ((σ c0 6) + (((σ c0 7) + p1) / 40)) then (some 0) else (some 1)
set_option maxHeartbeats 4000000 in
set_option maxRecDepth 100000 in
theorem c_X1_canPass (l : Launch) (D : va_G) (t : Nat → ClassId) (b : Nat) (c0 : Nat) (σ : Sg) (p1 : Int32) (r : Int32) (hc0 : sh c0 = (1, 0)) (hf : f_X1_canPass c0 σ p1 = some r) : Met l yX1_canPass (Cond.code yX1_canPass cX1_canPass 2 (some .boolean) :: ALL) ({ frames := 0, cells := 0, slots := 0, locals := 0 }) (PM D t b σ [.ref (b + c0), .int p1]) (QG D t b σ (some (.int r))) 0 0 (geA b) := by
  refine Met.ofW (cc := cX1_canPass) (maxL := 2) (ret := (some .boolean)) (by decide) rfl ?_
  intro p e s m args below meth c s₁ B hml hv
  obtain ⟨rfl, hW, hE⟩ := hv
  have hx := B.exec
  have hb := B.bytes
  have hr := B.returns
  have hts := atoms_spec (ws := Cond.code yX1_canPass cX1_canPass 2 (some .boolean) :: ALL) B.pre
  have hta := fun w h => hts w (List.mem_cons_of_mem _ h)
  have hown : s.vm.findClass RX1 = some m.cls := findClass_of_methodNamed B.named
  have hlocks := B.notSynchronized
  have hS : va_S (geA b) s.heap s.heap [] := va_S.rf
  have hl := lv_entry ([.ref (b + c0), .int p1]) (n := 2) (Nat.le_of_ble_eq_true rfl)
  rw [lg_entry_eq]
  generalize (lg_sl ([.ref (b + c0), .int p1]) ++ List.replicate (2 - (lg_sl ([.ref (b + c0), .int p1])).length) Slot.unset).toArray = ls at hl ⊢
  have hl : lv_has ls 2 [(0, .ref (b + c0)), (1, .int p1)] := hl
  unfold f_X1_canPass at hf
  refine lv_aload_n hx hb dX1_canPass_0 rfl (lv_at hl 0 rfl) ?_
  refine getF hx hb hta hown hE.1 hW hc0 6 (by decide) q182 rfl dX1_canPass_1 ?_
  refine lv_aload_n hx hb dX1_canPass_4 rfl (lv_at hl 0 rfl) ?_
  refine getF hx hb hta hown hE.1 hW hc0 7 (by decide) q184 rfl dX1_canPass_5 ?_
  refine lv_iload_n hx hb dX1_canPass_8 rfl (lv_at hl 1 rfl) ?_
  refine lv_iadd hx hb dX1_canPass_9 ?_
  refine lv_bipush (v := 40) hx hb dX1_canPass_10 (by decide) ?_
  refine lv_idiv hx hb dX1_canPass_12 (by decide) ?_
  refine lv_iadd hx hb dX1_canPass_13 ?_
  refine lv_sipush (v := 9999) hx hb dX1_canPass_14 (by decide) ?_
  refine lv_icmp_gt (tgt := 24) hx hb dX1_canPass_17 (by decide) (fun h1 => ?_) (fun h1 => ?_)
  · have hf := ifp h1 hf
    refine lv_iconst (v := 0) hx hb dX1_canPass_24 (by decide) ?_
    cases hf
    exact W.zret (ty := .boolean) hx hb hr (by decide) (fun u hu _ => ⟨⟨rfl, by rw [hu]; exact hW⟩, hS.F hu⟩) hS.2.2 dX1_canPass_25
  · have hf := ifn h1 hf
    refine lv_iconst (v := 1) hx hb dX1_canPass_20 (by decide) ?_
    refine lv_goto (tgt := 25) hx hb dX1_canPass_21 (by decide) ?_
    cases hf
    exact W.zret (ty := .boolean) hx hb hr (by decide) (fun u hu _ => ⟨⟨rfl, by rw [hu]; exact hW⟩, hS.F hu⟩) hS.2.2 dX1_canPass_25
def f_X1_rainToday (c0 : Nat) (σ : Sg) (p1 : Int32) : Option Int32 := if ((σ c0 6) - (σ c0 6) / 7 * 7) = 6 then (gd p1 10 (some (jmin 9 ((σ (c0 + 1) (p1).toNatClampNeg) + 4)))) else (gd p1 10 (some (jmin 9 ((σ (c0 + 1) (p1).toNatClampNeg) + 0))))
set_option maxHeartbeats 4000000 in
set_option maxRecDepth 100000 in
theorem c_X1_rainToday (l : Launch) (D : va_G) (t : Nat → ClassId) (b : Nat) (c0 : Nat) (σ : Sg) (p1 : Int32) (r : Int32) (hc0 : sh c0 = (1, 0)) (hf : f_X1_rainToday c0 σ p1 = some r) : Met l yX1_rainToday (Cond.code yX1_rainToday cX1_rainToday 3 (some .int) :: ALL) ({ frames := 1, cells := 0, slots := 0, locals := 13 }) (PM D t b σ [.ref (b + c0), .int p1]) (QG D t b σ (some (.int r))) 0 0 (geA b) := by
  refine Met.ofW (cc := cX1_rainToday) (maxL := 3) (ret := (some .int)) (by decide) rfl ?_
  intro p e s m args below meth c s₁ B hml hv
  obtain ⟨rfl, hW, hE⟩ := hv
  have hx := B.exec
  have hb := B.bytes
  have hr := B.returns
  have hts := atoms_spec (ws := Cond.code yX1_rainToday cX1_rainToday 3 (some .int) :: ALL) B.pre
  have hta := fun w h => hts w (List.mem_cons_of_mem _ h)
  have hown : s.vm.findClass RX1 = some m.cls := findClass_of_methodNamed B.named
  have hlocks := B.notSynchronized
  have hS : va_S (geA b) s.heap s.heap [] := va_S.rf
  have hl := lv_entry ([.ref (b + c0), .int p1]) (n := 3) (Nat.le_of_ble_eq_true rfl)
  rw [lg_entry_eq]
  generalize (lg_sl ([.ref (b + c0), .int p1]) ++ List.replicate (3 - (lg_sl ([.ref (b + c0), .int p1])).length) Slot.unset).toArray = ls at hl ⊢
  have hl : lv_has ls 3 [(0, .ref (b + c0)), (1, .int p1)] := hl
  unfold f_X1_rainToday at hf
  refine lv_aload_n hx hb dX1_rainToday_0 rfl (lv_at hl 0 rfl) ?_
  refine getF hx hb hta hown hE.1 hW hc0 6 (by decide) q182 rfl dX1_rainToday_1 ?_
  refine lv_bipush (v := 7) hx hb dX1_rainToday_4 (by decide) ?_
  refine lv_irem hx hb dX1_rainToday_6 (by decide) ?_
  refine lv_bipush (v := 6) hx hb dX1_rainToday_7 (by decide) ?_
  refine lv_icmp_ne (tgt := 16) hx hb dX1_rainToday_9 (by decide) (fun h1 => ?_) (fun h1 => ?_)
  · have hf := ifn h1 hf
    refine lv_iconst (v := 0) hx hb dX1_rainToday_16 (by decide) ?_
    refine lv_istore_n (lv' := [(2, .int 0), (0, .ref (b + c0)), (1, .int p1)]) hx hb dX1_rainToday_17 rfl hl (by decide) rfl (fun ls hl => ?_)
    refine lv_bipush (v := 9) hx hb dX1_rainToday_18 (by decide) ?_
    refine lv_aload_n hx hb dX1_rainToday_20 rfl (lv_at hl 1 rfl) ?_
    refine getF hx hb hta hown hE.1 hW hc0 8 (by decide) q186 rfl dX1_rainToday_21 ?_
    refine lv_iload_n hx hb dX1_rainToday_24 rfl (lv_at hl 2 rfl) ?_
    obtain ⟨g3, hf⟩ := gd_e hf
    refine iald hx hb hE.1 hW (shF_1 hc0) g3 dX1_rainToday_25 ?_
    refine lv_iload_n hx hb dX1_rainToday_26 rfl (lv_at hl 0 rfl) ?_
    refine lv_iadd hx hb dX1_rainToday_27 ?_
    refine va_mmin hx hb (hml.trans hl.1.symm) hown (hta _ q638) (hta _ q639) (hta _ q46) (hta _ q640) (Nat.le_of_ble_eq_true rfl) (Nat.le_of_ble_eq_true rfl) (Nat.zero_le _) (Nat.zero_le _) dX1_rainToday_28 ?_
    cases hf
    exact W.iret hx hb hr (fun u hu _ => ⟨⟨rfl, by rw [hu]; exact hW⟩, hS.F hu⟩) hS.2.2 dX1_rainToday_31
  · have hf := ifp h1 hf
    refine lv_iconst (v := 4) hx hb dX1_rainToday_12 (by decide) ?_
    refine lv_goto (tgt := 17) hx hb dX1_rainToday_13 (by decide) ?_
    refine lv_istore_n (lv' := [(2, .int 4), (0, .ref (b + c0)), (1, .int p1)]) hx hb dX1_rainToday_17 rfl hl (by decide) rfl (fun ls hl => ?_)
    refine lv_bipush (v := 9) hx hb dX1_rainToday_18 (by decide) ?_
    refine lv_aload_n hx hb dX1_rainToday_20 rfl (lv_at hl 1 rfl) ?_
    refine getF hx hb hta hown hE.1 hW hc0 8 (by decide) q186 rfl dX1_rainToday_21 ?_
    refine lv_iload_n hx hb dX1_rainToday_24 rfl (lv_at hl 2 rfl) ?_
    obtain ⟨g2, hf⟩ := gd_e hf
    refine iald hx hb hE.1 hW (shF_1 hc0) g2 dX1_rainToday_25 ?_
    refine lv_iload_n hx hb dX1_rainToday_26 rfl (lv_at hl 0 rfl) ?_
    refine lv_iadd hx hb dX1_rainToday_27 ?_
    refine va_mmin hx hb (hml.trans hl.1.symm) hown (hta _ q638) (hta _ q639) (hta _ q46) (hta _ q640) (Nat.le_of_ble_eq_true rfl) (Nat.le_of_ble_eq_true rfl) (Nat.zero_le _) (Nat.zero_le _) dX1_rainToday_28 ?_
    cases hf
    exact W.iret hx hb hr (fun u hu _ => ⟨⟨rfl, by rw [hu]; exact hW⟩, hS.F hu⟩) hS.2.2 dX1_rainToday_31
def f_X1_childComesNext (c0 : Nat) (σ : Sg) : Option Int32 := b1 (f_X1_rainToday c0 σ ((σ c0 7) / 4)) fun y1 => if y1 = 0 then (if ((σ c0 7) - (σ c0 7) / 4 * 4) = 0 then (b1 (f_X0_haveRoom (c0 + 4) σ) fun y6 => if y6 = 0 then (some 0) else (some 1)) else (some 0)) else (if 4 < y1 then (some 0) else (if ((σ c0 7) - (σ c0 7) / 8 * 8) = 0 then (b1 (f_X0_haveRoom (c0 + 4) σ) fun y14 => if y14 = 0 then (some 0) else (some 1)) else (some 0)))
set_option maxHeartbeats 4000000 in
set_option maxRecDepth 100000 in
theorem c_X1_childComesNext (l : Launch) (D : va_G) (t : Nat → ClassId) (b : Nat) (c0 : Nat) (σ : Sg) (r : Int32) (hc0 : sh c0 = (1, 0)) (hf : f_X1_childComesNext c0 σ = some r) : Met l yX1_childComesNext (Cond.code yX1_childComesNext cX1_childComesNext 3 (some .boolean) :: ALL) ({ frames := 2, cells := 0, slots := 0, locals := 42 }) (PM D t b σ [.ref (b + c0)]) (QG D t b σ (some (.int r))) 0 0 (geA b) := by
  refine Met.ofW (cc := cX1_childComesNext) (maxL := 3) (ret := (some .boolean)) (by decide) rfl ?_
  intro p e s m args below meth c s₁ B hml hv
  obtain ⟨rfl, hW, hE⟩ := hv
  have hx := B.exec
  have hb := B.bytes
  have hr := B.returns
  have hts := atoms_spec (ws := Cond.code yX1_childComesNext cX1_childComesNext 3 (some .boolean) :: ALL) B.pre
  have hta := fun w h => hts w (List.mem_cons_of_mem _ h)
  have hown : s.vm.findClass RX1 = some m.cls := findClass_of_methodNamed B.named
  have hlocks := B.notSynchronized
  have hS : va_S (geA b) s.heap s.heap [] := va_S.rf
  have hl := lv_entry ([.ref (b + c0)]) (n := 3) (Nat.le_of_ble_eq_true rfl)
  rw [lg_entry_eq]
  generalize (lg_sl ([.ref (b + c0)]) ++ List.replicate (3 - (lg_sl ([.ref (b + c0)])).length) Slot.unset).toArray = ls at hl ⊢
  have hl : lv_has ls 3 [(0, .ref (b + c0))] := hl
  unfold f_X1_childComesNext at hf
  refine lv_aload_n hx hb dX1_childComesNext_0 rfl (lv_at hl 0 rfl) ?_
  refine lv_aload_n hx hb dX1_childComesNext_1 rfl (lv_at hl 0 rfl) ?_
  refine getF hx hb hta hown hE.1 hW hc0 7 (by decide) q184 rfl dX1_childComesNext_2 ?_
  refine lv_iconst (v := 4) hx hb dX1_childComesNext_5 (by decide) ?_
  refine lv_idiv hx hb dX1_childComesNext_6 (by decide) ?_
  obtain ⟨y1, u2, hf⟩ := b1_e hf
  refine mV (k := c0) (q := (1, 0)) (C := RX1) (T := TX1) (N := 13) (ci := 1) (n := 1) (As := [.int ((σ c0 7) / 4)]) (rest := []) (c_X1_rainToday l D t b c0 σ ((σ c0 7) / 4) y1 hc0 u2) hc0 (by decide) rfl rfl hx hb hml hown hts hE hW hS q634 q635 q636 q35 q637 hy_X1_rainToday ⟨rfl, rfl⟩ ⟨Nat.le_of_ble_eq_true rfl, Nat.le_of_ble_eq_true rfl⟩ rfl rfl hl.1 (Nat.le_of_ble_eq_true rfl) ⟨Nat.zero_le _, Nat.zero_le _⟩ dX1_childComesNext_7 (fun H locs hW hS => ?_)
  refine lv_istore_n (lv' := [(1, .int y1), (0, .ref (b + c0))]) hx hb dX1_childComesNext_10 rfl hl (by decide) rfl (fun ls hl => ?_)
  refine lv_iload_n hx hb dX1_childComesNext_11 rfl (lv_at hl 0 rfl) ?_
  refine lv_if_ne (tgt := 32) hx hb dX1_childComesNext_12 (by decide) (fun h3 => ?_) (fun h3 => ?_)
  · have hf := ifn h3 hf
    refine lv_iload_n hx hb dX1_childComesNext_32 rfl (lv_at hl 0 rfl) ?_
    refine lv_iconst (v := 4) hx hb dX1_childComesNext_33 (by decide) ?_
    refine lv_icmp_gt (tgt := 51) hx hb dX1_childComesNext_34 (by decide) (fun h10 => ?_) (fun h10 => ?_)
    · have hf := ifp h10 hf
      refine lv_iconst (v := 0) hx hb dX1_childComesNext_51 (by decide) ?_
      refine lv_istore_n (lv' := [(2, .int 0), (1, .int y1), (0, .ref (b + c0))]) hx hb dX1_childComesNext_52 rfl hl (by decide) rfl (fun ls hl => ?_)
      refine lv_iload_n hx hb dX1_childComesNext_53 rfl (lv_at hl 0 rfl) ?_
      refine lv_if_eq (tgt := 71) hx hb dX1_childComesNext_54 (by decide) (fun h11 => ?_) (fun h11 => absurd h11 (by decide))
      refine lv_iconst (v := 0) hx hb dX1_childComesNext_71 (by decide) ?_
      cases hf
      exact W.zret (ty := .boolean) hx hb hr (by decide) (fun u hu _ => ⟨⟨rfl, by rw [hu]; exact hW⟩, hS.F hu⟩) hS.2.2 dX1_childComesNext_72
    · have hf := ifn h10 hf
      refine lv_aload_n hx hb dX1_childComesNext_37 rfl (lv_at hl 1 rfl) ?_
      refine getF hx hb hta hown hE.1 hW hc0 7 (by decide) q184 rfl dX1_childComesNext_38 ?_
      refine lv_bipush (v := 8) hx hb dX1_childComesNext_41 (by decide) ?_
      refine lv_irem hx hb dX1_childComesNext_43 (by decide) ?_
      refine lv_if_ne (tgt := 51) hx hb dX1_childComesNext_44 (by decide) (fun h12 => ?_) (fun h12 => ?_)
      · have hf := ifn h12 hf
        refine lv_iconst (v := 0) hx hb dX1_childComesNext_51 (by decide) ?_
        refine lv_istore_n (lv' := [(2, .int 0), (1, .int y1), (0, .ref (b + c0))]) hx hb dX1_childComesNext_52 rfl hl (by decide) rfl (fun ls hl => ?_)
        refine lv_iload_n hx hb dX1_childComesNext_53 rfl (lv_at hl 0 rfl) ?_
        refine lv_if_eq (tgt := 71) hx hb dX1_childComesNext_54 (by decide) (fun h17 => ?_) (fun h17 => absurd h17 (by decide))
        refine lv_iconst (v := 0) hx hb dX1_childComesNext_71 (by decide) ?_
        cases hf
        exact W.zret (ty := .boolean) hx hb hr (by decide) (fun u hu _ => ⟨⟨rfl, by rw [hu]; exact hW⟩, hS.F hu⟩) hS.2.2 dX1_childComesNext_72
      · have hf := ifp h12 hf
        refine lv_iconst (v := 1) hx hb dX1_childComesNext_47 (by decide) ?_
        refine lv_goto (tgt := 52) hx hb dX1_childComesNext_48 (by decide) ?_
        refine lv_istore_n (lv' := [(2, .int 1), (1, .int y1), (0, .ref (b + c0))]) hx hb dX1_childComesNext_52 rfl hl (by decide) rfl (fun ls hl => ?_)
        refine lv_iload_n hx hb dX1_childComesNext_53 rfl (lv_at hl 0 rfl) ?_
        refine lv_if_eq (tgt := 71) hx hb dX1_childComesNext_54 (by decide) (fun h13 => absurd h13 (by decide)) (fun h13 => ?_)
        refine lv_aload_n hx hb dX1_childComesNext_57 rfl (lv_at hl 2 rfl) ?_
        refine getF hx hb hta hown hE.1 hW hc0 12 (by decide) q194 rfl dX1_childComesNext_58 ?_
        obtain ⟨y14, u15, hf⟩ := b1_e hf
        refine mV (k := (c0 + 4)) (q := (2, 0)) (C := RX0) (T := TX0) (N := 10) (ci := 0) (n := 0) (As := []) (rest := []) (c_X0_haveRoom l D t b (c0 + 4) σ y14 (shF_4 hc0) u15) (shF_4 hc0) (by decide) rfl rfl hx hb hml hown hts hE hW hS q641 q531 q532 q36 q533 hy_X0_haveRoom ⟨rfl, rfl⟩ ⟨Nat.le_of_ble_eq_true rfl, Nat.le_of_ble_eq_true rfl⟩ rfl rfl hl.1 (Nat.le_of_ble_eq_true rfl) ⟨Nat.zero_le _, Nat.zero_le _⟩ dX1_childComesNext_61 (fun H locs hW hS => ?_)
        refine lv_if_eq (tgt := 71) hx hb dX1_childComesNext_64 (by decide) (fun h16 => ?_) (fun h16 => ?_)
        · have hf := ifp h16 hf
          refine lv_iconst (v := 0) hx hb dX1_childComesNext_71 (by decide) ?_
          cases hf
          exact W.zret (ty := .boolean) hx hb hr (by decide) (fun u hu _ => ⟨⟨rfl, by rw [hu]; exact hW⟩, hS.F hu⟩) hS.2.2 dX1_childComesNext_72
        · have hf := ifn h16 hf
          refine lv_iconst (v := 1) hx hb dX1_childComesNext_67 (by decide) ?_
          refine lv_goto (tgt := 72) hx hb dX1_childComesNext_68 (by decide) ?_
          cases hf
          exact W.zret (ty := .boolean) hx hb hr (by decide) (fun u hu _ => ⟨⟨rfl, by rw [hu]; exact hW⟩, hS.F hu⟩) hS.2.2 dX1_childComesNext_72
  · have hf := ifp h3 hf
    refine lv_aload_n hx hb dX1_childComesNext_15 rfl (lv_at hl 1 rfl) ?_
    refine getF hx hb hta hown hE.1 hW hc0 7 (by decide) q184 rfl dX1_childComesNext_16 ?_
    refine lv_iconst (v := 4) hx hb dX1_childComesNext_19 (by decide) ?_
    refine lv_irem hx hb dX1_childComesNext_20 (by decide) ?_
    refine lv_if_ne (tgt := 28) hx hb dX1_childComesNext_21 (by decide) (fun h4 => ?_) (fun h4 => ?_)
    · have hf := ifn h4 hf
      refine lv_iconst (v := 0) hx hb dX1_childComesNext_28 (by decide) ?_
      refine lv_goto (tgt := 52) hx hb dX1_childComesNext_29 (by decide) ?_
      refine lv_istore_n (lv' := [(2, .int 0), (1, .int y1), (0, .ref (b + c0))]) hx hb dX1_childComesNext_52 rfl hl (by decide) rfl (fun ls hl => ?_)
      refine lv_iload_n hx hb dX1_childComesNext_53 rfl (lv_at hl 0 rfl) ?_
      refine lv_if_eq (tgt := 71) hx hb dX1_childComesNext_54 (by decide) (fun h9 => ?_) (fun h9 => absurd h9 (by decide))
      refine lv_iconst (v := 0) hx hb dX1_childComesNext_71 (by decide) ?_
      cases hf
      exact W.zret (ty := .boolean) hx hb hr (by decide) (fun u hu _ => ⟨⟨rfl, by rw [hu]; exact hW⟩, hS.F hu⟩) hS.2.2 dX1_childComesNext_72
    · have hf := ifp h4 hf
      refine lv_iconst (v := 1) hx hb dX1_childComesNext_24 (by decide) ?_
      refine lv_goto (tgt := 52) hx hb dX1_childComesNext_25 (by decide) ?_
      refine lv_istore_n (lv' := [(2, .int 1), (1, .int y1), (0, .ref (b + c0))]) hx hb dX1_childComesNext_52 rfl hl (by decide) rfl (fun ls hl => ?_)
      refine lv_iload_n hx hb dX1_childComesNext_53 rfl (lv_at hl 0 rfl) ?_
      refine lv_if_eq (tgt := 71) hx hb dX1_childComesNext_54 (by decide) (fun h5 => absurd h5 (by decide)) (fun h5 => ?_)
      refine lv_aload_n hx hb dX1_childComesNext_57 rfl (lv_at hl 2 rfl) ?_
      refine getF hx hb hta hown hE.1 hW hc0 12 (by decide) q194 rfl dX1_childComesNext_58 ?_
      obtain ⟨y6, u7, hf⟩ := b1_e hf
      refine mV (k := (c0 + 4)) (q := (2, 0)) (C := RX0) (T := TX0) (N := 10) (ci := 0) (n := 0) (As := []) (rest := []) (c_X0_haveRoom l D t b (c0 + 4) σ y6 (shF_4 hc0) u7) (shF_4 hc0) (by decide) rfl rfl hx hb hml hown hts hE hW hS q641 q531 q532 q36 q533 hy_X0_haveRoom ⟨rfl, rfl⟩ ⟨Nat.le_of_ble_eq_true rfl, Nat.le_of_ble_eq_true rfl⟩ rfl rfl hl.1 (Nat.le_of_ble_eq_true rfl) ⟨Nat.zero_le _, Nat.zero_le _⟩ dX1_childComesNext_61 (fun H locs hW hS => ?_)
      refine lv_if_eq (tgt := 71) hx hb dX1_childComesNext_64 (by decide) (fun h8 => ?_) (fun h8 => ?_)
      · have hf := ifp h8 hf
        refine lv_iconst (v := 0) hx hb dX1_childComesNext_71 (by decide) ?_
        cases hf
        exact W.zret (ty := .boolean) hx hb hr (by decide) (fun u hu _ => ⟨⟨rfl, by rw [hu]; exact hW⟩, hS.F hu⟩) hS.2.2 dX1_childComesNext_72
      · have hf := ifn h8 hf
        refine lv_iconst (v := 1) hx hb dX1_childComesNext_67 (by decide) ?_
        refine lv_goto (tgt := 72) hx hb dX1_childComesNext_68 (by decide) ?_
        cases hf
        exact W.zret (ty := .boolean) hx hb hr (by decide) (fun u hu _ => ⟨⟨rfl, by rw [hu]; exact hW⟩, hS.F hu⟩) hS.2.2 dX1_childComesNext_72
def f_X1_letNextIn (c0 : Nat) (σ : Sg) : Option Sg := b2 (f_X1_letIn c0 σ (5 + ((7 * (σ (c0 + 4) 0)) - (7 * (σ (c0 + 4) 0)) / 25 * 25)) ((σ (c0 + 4) 0) - (σ (c0 + 4) 0) / 5 * 5) ((σ (c0 + 4) 0) - (σ (c0 + 4) 0) / 4 * 4)) fun y1 σ3 => some σ3
set_option maxHeartbeats 4000000 in
set_option maxRecDepth 100000 in
theorem c_X1_letNextIn (l : Launch) (D : va_G) (t : Nat → ClassId) (b : Nat) (c0 : Nat) (σ : Sg) (σr : Sg) (hc0 : sh c0 = (1, 0)) (hf : f_X1_letNextIn c0 σ = some σr) : Met l yX1_letNextIn (Cond.code yX1_letNextIn cX1_letNextIn 2 none :: ALL) ({ frames := 2, cells := 0, slots := 0, locals := 47 }) (PM D t b σ [.ref (b + c0)]) (QG D t b σr none) 0 0 (geA b) := by
  refine Met.ofW (cc := cX1_letNextIn) (maxL := 2) (ret := none) (by decide) rfl ?_
  intro p e s m args below meth c s₁ B hml hv
  obtain ⟨rfl, hW, hE⟩ := hv
  have hx := B.exec
  have hb := B.bytes
  have hr := B.returns
  have hts := atoms_spec (ws := Cond.code yX1_letNextIn cX1_letNextIn 2 none :: ALL) B.pre
  have hta := fun w h => hts w (List.mem_cons_of_mem _ h)
  have hown : s.vm.findClass RX1 = some m.cls := findClass_of_methodNamed B.named
  have hlocks := B.notSynchronized
  have hS : va_S (geA b) s.heap s.heap [] := va_S.rf
  have hl := lv_entry ([.ref (b + c0)]) (n := 2) (Nat.le_of_ble_eq_true rfl)
  rw [lg_entry_eq]
  generalize (lg_sl ([.ref (b + c0)]) ++ List.replicate (2 - (lg_sl ([.ref (b + c0)])).length) Slot.unset).toArray = ls at hl ⊢
  have hl : lv_has ls 2 [(0, .ref (b + c0))] := hl
  unfold f_X1_letNextIn at hf
  refine lv_aload_n hx hb dX1_letNextIn_0 rfl (lv_at hl 0 rfl) ?_
  refine getF hx hb hta hown hE.1 hW hc0 12 (by decide) q194 rfl dX1_letNextIn_1 ?_
  refine getC hx hb hta hown hE.1 hW (shF_4 hc0) 0 (by decide) q70 rfl dX1_letNextIn_4 ?_
  refine lv_istore_n (lv' := [(1, .int (σ (c0 + 4) 0)), (0, .ref (b + c0))]) hx hb dX1_letNextIn_7 rfl hl (by decide) rfl (fun ls hl => ?_)
  refine lv_aload_n hx hb dX1_letNextIn_8 rfl (lv_at hl 1 rfl) ?_
  refine lv_iconst (v := 5) hx hb dX1_letNextIn_9 (by decide) ?_
  refine lv_bipush (v := 7) hx hb dX1_letNextIn_10 (by decide) ?_
  refine lv_iload_n hx hb dX1_letNextIn_12 rfl (lv_at hl 0 rfl) ?_
  refine lv_imul hx hb dX1_letNextIn_13 ?_
  refine lv_bipush (v := 25) hx hb dX1_letNextIn_14 (by decide) ?_
  refine lv_irem hx hb dX1_letNextIn_16 (by decide) ?_
  refine lv_iadd hx hb dX1_letNextIn_17 ?_
  refine lv_iload_n hx hb dX1_letNextIn_18 rfl (lv_at hl 0 rfl) ?_
  refine lv_iconst (v := 5) hx hb dX1_letNextIn_19 (by decide) ?_
  refine lv_irem hx hb dX1_letNextIn_20 (by decide) ?_
  refine lv_iload_n hx hb dX1_letNextIn_21 rfl (lv_at hl 0 rfl) ?_
  refine lv_iconst (v := 4) hx hb dX1_letNextIn_22 (by decide) ?_
  refine lv_irem hx hb dX1_letNextIn_23 (by decide) ?_
  obtain ⟨y1, σ3, u2, hf⟩ := b2_e hf
  refine mV (k := c0) (q := (1, 0)) (C := RX1) (T := TX1) (N := 13) (ci := 1) (n := 3) (As := [.int (5 + ((7 * (σ (c0 + 4) 0)) - (7 * (σ (c0 + 4) 0)) / 25 * 25)), .int ((σ (c0 + 4) 0) - (σ (c0 + 4) 0) / 5 * 5), .int ((σ (c0 + 4) 0) - (σ (c0 + 4) 0) / 4 * 4)]) (rest := []) (c_X1_letIn l D t b c0 σ (5 + ((7 * (σ (c0 + 4) 0)) - (7 * (σ (c0 + 4) 0)) / 25 * 25)) ((σ (c0 + 4) 0) - (σ (c0 + 4) 0) / 5 * 5) ((σ (c0 + 4) 0) - (σ (c0 + 4) 0) / 4 * 4) y1 σ3 hc0 u2) hc0 (by decide) rfl rfl hx hb hml hown hts hE hW hS q646 q540 q541 q35 q542 hy_X1_letIn ⟨rfl, rfl⟩ ⟨Nat.le_of_ble_eq_true rfl, Nat.le_of_ble_eq_true rfl⟩ rfl rfl hl.1 (Nat.le_of_ble_eq_true rfl) ⟨Nat.zero_le _, Nat.zero_le _⟩ dX1_letNextIn_24 (fun H locs hW hS => ?_)
  refine lv_pop hx hb dX1_letNextIn_27 rfl ?_
  cases hf
  exact W.vret hx hb hr (fun u hu _ => ⟨⟨rfl, by rw [hu]; exact hW⟩, hS.F hu⟩) hS.2.2 dX1_letNextIn_28
def l_X1_freeStalls_2 (c0 : Nat) : Nat → Sg → Int32 → Option Sg
  | 0, _, _ => none
  | n + 1, τ, x1 => if (τ c0 10) ≤ x1 then (some τ) else (gd x1 7 (st (u2 τ (sk (c0 + 3) x1) 9 0) fun σ3 => l_X1_freeStalls_2 c0 n σ3 (x1 + 1)))
def f_X1_freeStalls (c0 : Nat) (σ : Sg) : Option Sg := l_X1_freeStalls_2 c0 10000 σ 0
set_option maxHeartbeats 4000000 in
set_option maxRecDepth 100000 in
theorem c_X1_freeStalls (l : Launch) (D : va_G) (t : Nat → ClassId) (b : Nat) (c0 : Nat) (σ : Sg) (σr : Sg) (hc0 : sh c0 = (1, 0)) (hf : f_X1_freeStalls c0 σ = some σr) : Met l yX1_freeStalls (Cond.code yX1_freeStalls cX1_freeStalls 2 none :: ALL) ({ frames := 0, cells := 0, slots := 0, locals := 0 }) (PM D t b σ [.ref (b + c0)]) (QG D t b σr none) 0 0 (geA b) := by
  refine Met.ofW (cc := cX1_freeStalls) (maxL := 2) (ret := none) (by decide) rfl ?_
  intro p e s m args below meth c s₁ B hml hv
  obtain ⟨rfl, hW, hE⟩ := hv
  have hx := B.exec
  have hb := B.bytes
  have hr := B.returns
  have hts := atoms_spec (ws := Cond.code yX1_freeStalls cX1_freeStalls 2 none :: ALL) B.pre
  have hta := fun w h => hts w (List.mem_cons_of_mem _ h)
  have hown : s.vm.findClass RX1 = some m.cls := findClass_of_methodNamed B.named
  have hlocks := B.notSynchronized
  have hS : va_S (geA b) s.heap s.heap [] := va_S.rf
  have hl := lv_entry ([.ref (b + c0)]) (n := 2) (Nat.le_of_ble_eq_true rfl)
  rw [lg_entry_eq]
  generalize (lg_sl ([.ref (b + c0)]) ++ List.replicate (2 - (lg_sl ([.ref (b + c0)])).length) Slot.unset).toArray = ls at hl ⊢
  have hl : lv_has ls 2 [(0, .ref (b + c0))] := hl
  unfold f_X1_freeStalls at hf
  refine lv_iconst (v := 0) hx hb dX1_freeStalls_0 (by decide) ?_
  refine lv_istore_n (lv' := [(1, .int 0), (0, .ref (b + c0))]) hx hb dX1_freeStalls_1 rfl hl (by decide) rfl (fun ls hl => ?_)
  have key_2 : ∀ (n : Nat) (τ : Sg) (x1 : Int32) (H : Heap) (locs : List Loc) (ls : Array Slot), l_X1_freeStalls_2 c0 n τ x1 = some σr → wd D t b τ H → va_S (geA b) s.heap H locs → lv_has ls 2 [(0, .ref (b + c0)), (1, .int x1)] → W p l e (headSpec (Cond.code yX1_freeStalls cX1_freeStalls 2 none :: ALL) ({ frames := 0, cells := 0, slots := 0, locals := 0 })).room s m (([.ref (b + c0)] : List Value).toArray) below meth c H locs 0 0 (MQ below (QG D t b σr none) (([.ref (b + c0)] : List Value).toArray) s 0 0 (geA b)) (F0 m 2 ls []) := by
    intro n
    induction n with
    | zero =>
      intro τ x1 H locs ls hf
      rw [l_X1_freeStalls_2.eq_1] at hf
      cases hf
    | succ n ih_2 =>
      intro τ x1 H locs ls hf hW hS hl
      rw [l_X1_freeStalls_2.eq_2] at hf
      refine lv_iload_n hx hb dX1_freeStalls_2 rfl (lv_at hl 1 rfl) ?_
      refine lv_aload_n hx hb dX1_freeStalls_3 rfl (lv_at hl 0 rfl) ?_
      refine getF hx hb hta hown hE.1 hW hc0 10 (by decide) q190 rfl dX1_freeStalls_4 ?_
      refine lv_icmp_ge (tgt := 26) hx hb dX1_freeStalls_7 (by decide) (fun h1 => ?_) (fun h1 => ?_)
      · have hf := ifp h1 hf
        cases hf
        exact W.vret hx hb hr (fun u hu _ => ⟨⟨rfl, by rw [hu]; exact hW⟩, hS.F hu⟩) hS.2.2 dX1_freeStalls_26
      · have hf := ifn h1 hf
        refine lv_aload_n hx hb dX1_freeStalls_10 rfl (lv_at hl 0 rfl) ?_
        refine getF hx hb hta hown hE.1 hW hc0 11 (by decide) q192 rfl dX1_freeStalls_11 ?_
        refine lv_iload_n hx hb dX1_freeStalls_14 rfl (lv_at hl 1 rfl) ?_
        obtain ⟨g2, hf⟩ := gd_e hf
        refine sald hx hb hE.1 hW (shF_3 hc0) g2 dX1_freeStalls_15 ?_
        refine lv_iconst (v := 0) hx hb dX1_freeStalls_16 (by decide) ?_
        refine putX (k := (sk (c0 + 3) x1)) (q := (3, 0)) (ci := 3) (x := 0) inA3 tyX3_ok nmX3 rfl (by decide) rfl hx hb hta hown hE.1 hW hS (shF_sk hc0 g2) 9 (by decide) q143 rfl (by decide) (by decide) (Nat.le_of_ble_eq_true rfl) rfl dX1_freeStalls_17 (fun H locs hW hS => ?_)
        obtain ⟨σ3, e4, hf⟩ := st_e hf
        rw [e4] at hW
        refine lv_iinc (v := (x1 + 1)) (lv' := [(1, .int (x1 + 1)), (0, .ref (b + c0))]) hx hb dX1_freeStalls_20 hl (k := 1) rfl (by rfl) (by decide) rfl (fun ls hl => ?_)
        refine lv_goto (tgt := 2) hx hb dX1_freeStalls_23 (by decide) ?_
        exact ih_2 σ3 (x1 + 1) _ _ _ hf hW hS (lv_sub hl [1, 0] rfl)
  exact key_2 10000 σ 0 _ _ _ hf hW hS (lv_sub hl [1, 0] rfl)
def f_X1_openStallOn (c0 : Nat) (σ : Sg) (p1 : Int32) : Option Nat := b1 (f_X1_findStall c0 σ p1) fun y1 => if y1 = (-1) then (some 0) else (gd y1 7 (if (σ (sk (c0 + 3) y1) 4) = 0 then (some 0) else (some (sk (c0 + 3) y1))))
set_option maxHeartbeats 4000000 in
set_option maxRecDepth 100000 in
theorem c_X1_openStallOn (l : Launch) (D : va_G) (t : Nat → ClassId) (b : Nat) (c0 : Nat) (σ : Sg) (p1 : Int32) (r : Nat) (hc0 : sh c0 = (1, 0)) (hf : f_X1_openStallOn c0 σ p1 = some r) : Met l yX1_openStallOn (Cond.code yX1_openStallOn cX1_openStallOn 3 (some (.object "PrizePurses$Stall")) :: ALL) ({ frames := 1, cells := 0, slots := 0, locals := 22 }) (PM D t b σ [.ref (b + c0), .int p1]) (QG D t b σ (some (nrv b r))) 0 0 (geA b) := by
  refine Met.ofW (cc := cX1_openStallOn) (maxL := 3) (ret := (some (.object "PrizePurses$Stall"))) (by decide) rfl ?_
  intro p e s m args below meth c s₁ B hml hv
  obtain ⟨rfl, hW, hE⟩ := hv
  have hx := B.exec
  have hb := B.bytes
  have hr := B.returns
  have hts := atoms_spec (ws := Cond.code yX1_openStallOn cX1_openStallOn 3 (some (.object "PrizePurses$Stall")) :: ALL) B.pre
  have hta := fun w h => hts w (List.mem_cons_of_mem _ h)
  have hown : s.vm.findClass RX1 = some m.cls := findClass_of_methodNamed B.named
  have hlocks := B.notSynchronized
  have hS : va_S (geA b) s.heap s.heap [] := va_S.rf
  have hl := lv_entry ([.ref (b + c0), .int p1]) (n := 3) (Nat.le_of_ble_eq_true rfl)
  rw [lg_entry_eq]
  generalize (lg_sl ([.ref (b + c0), .int p1]) ++ List.replicate (3 - (lg_sl ([.ref (b + c0), .int p1])).length) Slot.unset).toArray = ls at hl ⊢
  have hl : lv_has ls 3 [(0, .ref (b + c0)), (1, .int p1)] := hl
  unfold f_X1_openStallOn at hf
  refine lv_aload_n hx hb dX1_openStallOn_0 rfl (lv_at hl 0 rfl) ?_
  refine lv_iload_n hx hb dX1_openStallOn_1 rfl (lv_at hl 1 rfl) ?_
  obtain ⟨y1, u2, hf⟩ := b1_e hf
  refine mV (k := c0) (q := (1, 0)) (C := RX1) (T := TX1) (N := 13) (ci := 1) (n := 1) (As := [.int p1]) (rest := []) (c_X1_findStall l D t b c0 σ p1 y1 hc0 u2) hc0 (by decide) rfl rfl hx hb hml hown hts hE hW hS q404 q405 q406 q35 q407 hy_X1_findStall ⟨rfl, rfl⟩ ⟨Nat.le_of_ble_eq_true rfl, Nat.le_of_ble_eq_true rfl⟩ rfl rfl hl.1 (Nat.le_of_ble_eq_true rfl) ⟨Nat.zero_le _, Nat.zero_le _⟩ dX1_openStallOn_2 (fun H locs hW hS => ?_)
  refine lv_istore_n (lv' := [(2, .int y1), (0, .ref (b + c0)), (1, .int p1)]) hx hb dX1_openStallOn_5 rfl hl (by decide) rfl (fun ls hl => ?_)
  refine lv_iload_n hx hb dX1_openStallOn_6 rfl (lv_at hl 0 rfl) ?_
  refine lv_iconst (v := (-1)) hx hb dX1_openStallOn_7 (by decide) ?_
  refine lv_icmp_eq (tgt := 32) hx hb dX1_openStallOn_8 (by decide) (fun h3 => ?_) (fun h3 => ?_)
  · have hf := ifp h3 hf
    refine lv_null hx hb dX1_openStallOn_32 ?_
    cases hf
    exact W.aret (v := .null) hx hb hr (Or.inl ⟨_, rfl⟩) (Or.inl rfl) (fun u hu _ => ⟨⟨rfl, by rw [hu]; exact hW⟩, hS.F hu⟩) hS.2.2 dX1_openStallOn_33
  · have hf := ifn h3 hf
    refine lv_aload_n hx hb dX1_openStallOn_11 rfl (lv_at hl 1 rfl) ?_
    refine getF hx hb hta hown hE.1 hW hc0 11 (by decide) q192 rfl dX1_openStallOn_12 ?_
    refine lv_iload_n hx hb dX1_openStallOn_15 rfl (lv_at hl 0 rfl) ?_
    obtain ⟨g4, hf⟩ := gd_e hf
    refine sald hx hb hE.1 hW (shF_3 hc0) g4 dX1_openStallOn_16 ?_
    refine getS hx hb hta hown hE.1 hW (shF_sk hc0 g4) 4 (by decide) q134 rfl dX1_openStallOn_17 ?_
    refine lv_if_eq (tgt := 32) hx hb dX1_openStallOn_20 (by decide) (fun h5 => ?_) (fun h5 => ?_)
    · have hf := ifp h5 hf
      refine lv_null hx hb dX1_openStallOn_32 ?_
      cases hf
      exact W.aret (v := .null) hx hb hr (Or.inl ⟨_, rfl⟩) (Or.inl rfl) (fun u hu _ => ⟨⟨rfl, by rw [hu]; exact hW⟩, hS.F hu⟩) hS.2.2 dX1_openStallOn_33
    · have hf := ifn h5 hf
      refine lv_aload_n hx hb dX1_openStallOn_23 rfl (lv_at hl 1 rfl) ?_
      refine getF hx hb hta hown hE.1 hW hc0 11 (by decide) q192 rfl dX1_openStallOn_24 ?_
      refine lv_iload_n hx hb dX1_openStallOn_27 rfl (lv_at hl 0 rfl) ?_
      refine sald hx hb hE.1 hW (shF_3 hc0) g4 dX1_openStallOn_28 ?_
      refine lv_goto (tgt := 33) hx hb dX1_openStallOn_29 (by decide) ?_
      cases hf
      exact W.aret hx hb hr (Or.inl ⟨_, rfl⟩) (Or.inr ⟨_, rfl⟩) (fun u hu _ => ⟨⟨by rw [nrv_s (shF_sk hc0 g4)], by rw [hu]; exact hW⟩, hS.F hu⟩) hS.2.2 dX1_openStallOn_33
def f_X0_changeMood (c0 : Nat) (σ : Sg) (p1 : Int32) (p2 : Int32) : Option Sg := gd p1 200 (if 0 ≤ ((σ (c0 + 2) (p1).toNatClampNeg) + p2) then (if ((σ (c0 + 2) (p1).toNatClampNeg) + p2) ≤ 100 then (st (u2 σ (c0 + 2) (p1).toNatClampNeg ((σ (c0 + 2) (p1).toNatClampNeg) + p2)) fun σ4 => some σ4) else (st (u2 σ (c0 + 2) (p1).toNatClampNeg 100) fun σ6 => some σ6)) else (st (u2 σ (c0 + 2) (p1).toNatClampNeg 0) fun σ8 => some σ8))
set_option maxHeartbeats 4000000 in
set_option maxRecDepth 100000 in
theorem c_X0_changeMood (l : Launch) (D : va_G) (t : Nat → ClassId) (b : Nat) (c0 : Nat) (σ : Sg) (p1 : Int32) (p2 : Int32) (σr : Sg) (hc0 : sh c0 = (2, 0)) (hf : f_X0_changeMood c0 σ p1 p2 = some σr) : Met l yX0_changeMood (Cond.code yX0_changeMood cX0_changeMood 4 none :: ALL) ({ frames := 0, cells := 0, slots := 0, locals := 0 }) (PM D t b σ [.ref (b + c0), .int p1, .int p2]) (QG D t b σr none) 0 0 (geA b) := by
  refine Met.ofW (cc := cX0_changeMood) (maxL := 4) (ret := none) (by decide) rfl ?_
  intro p e s m args below meth c s₁ B hml hv
  obtain ⟨rfl, hW, hE⟩ := hv
  have hx := B.exec
  have hb := B.bytes
  have hr := B.returns
  have hts := atoms_spec (ws := Cond.code yX0_changeMood cX0_changeMood 4 none :: ALL) B.pre
  have hta := fun w h => hts w (List.mem_cons_of_mem _ h)
  have hown : s.vm.findClass RX0 = some m.cls := findClass_of_methodNamed B.named
  have hlocks := B.notSynchronized
  have hS : va_S (geA b) s.heap s.heap [] := va_S.rf
  have hl := lv_entry ([.ref (b + c0), .int p1, .int p2]) (n := 4) (Nat.le_of_ble_eq_true rfl)
  rw [lg_entry_eq]
  generalize (lg_sl ([.ref (b + c0), .int p1, .int p2]) ++ List.replicate (4 - (lg_sl ([.ref (b + c0), .int p1, .int p2])).length) Slot.unset).toArray = ls at hl ⊢
  have hl : lv_has ls 4 [(0, .ref (b + c0)), (1, .int p1), (2, .int p2)] := hl
  unfold f_X0_changeMood at hf
  refine lv_aload_n hx hb dX0_changeMood_0 rfl (lv_at hl 0 rfl) ?_
  refine getC hx hb hta hown hE.1 hW hc0 3 (by decide) q77 rfl dX0_changeMood_1 ?_
  refine lv_iload_n hx hb dX0_changeMood_4 rfl (lv_at hl 1 rfl) ?_
  obtain ⟨g1, hf⟩ := gd_e hf
  refine iald hx hb hE.1 hW (shC_2 hc0) g1 dX0_changeMood_5 ?_
  refine lv_iload_n hx hb dX0_changeMood_6 rfl (lv_at hl 2 rfl) ?_
  refine lv_iadd hx hb dX0_changeMood_7 ?_
  refine lv_istore_n (lv' := [(3, .int ((σ (c0 + 2) (p1).toNatClampNeg) + p2)), (0, .ref (b + c0)), (1, .int p1), (2, .int p2)]) hx hb dX0_changeMood_8 rfl hl (by decide) rfl (fun ls hl => ?_)
  refine lv_aload_n hx hb dX0_changeMood_9 rfl (lv_at hl 1 rfl) ?_
  refine getC hx hb hta hown hE.1 hW hc0 3 (by decide) q77 rfl dX0_changeMood_10 ?_
  refine lv_iload_n hx hb dX0_changeMood_13 rfl (lv_at hl 2 rfl) ?_
  refine lv_iload_n hx hb dX0_changeMood_14 rfl (lv_at hl 0 rfl) ?_
  refine lv_if_ge (tgt := 22) hx hb dX0_changeMood_15 (by decide) (fun h2 => ?_) (fun h2 => ?_)
  · have hf := ifp h2 hf
    refine lv_iload_n hx hb dX0_changeMood_22 rfl (lv_at hl 0 rfl) ?_
    refine lv_bipush (v := 100) hx hb dX0_changeMood_23 (by decide) ?_
    refine lv_icmp_le (tgt := 33) hx hb dX0_changeMood_25 (by decide) (fun h3 => ?_) (fun h3 => ?_)
    · have hf := ifp h3 hf
      refine lv_iload_n hx hb dX0_changeMood_33 rfl (lv_at hl 0 rfl) ?_
      refine iast (k := (c0 + 2)) (i := p1) (x := ((σ (c0 + 2) (p1).toNatClampNeg) + p2)) hx hb hE.1 hW hS (shC_2 hc0) g1 dX0_changeMood_34 (fun H locs hW hS => ?_)
      obtain ⟨σ4, e5, hf⟩ := st_e hf
      rw [e5] at hW
      cases hf
      exact W.vret hx hb hr (fun u hu _ => ⟨⟨rfl, by rw [hu]; exact hW⟩, hS.F hu⟩) hS.2.2 dX0_changeMood_35
    · have hf := ifn h3 hf
      refine lv_bipush (v := 100) hx hb dX0_changeMood_28 (by decide) ?_
      refine lv_goto (tgt := 34) hx hb dX0_changeMood_30 (by decide) ?_
      refine iast (k := (c0 + 2)) (i := p1) (x := 100) hx hb hE.1 hW hS (shC_2 hc0) g1 dX0_changeMood_34 (fun H locs hW hS => ?_)
      obtain ⟨σ6, e7, hf⟩ := st_e hf
      rw [e7] at hW
      cases hf
      exact W.vret hx hb hr (fun u hu _ => ⟨⟨rfl, by rw [hu]; exact hW⟩, hS.F hu⟩) hS.2.2 dX0_changeMood_35
  · have hf := ifn h2 hf
    refine lv_iconst (v := 0) hx hb dX0_changeMood_18 (by decide) ?_
    refine lv_goto (tgt := 34) hx hb dX0_changeMood_19 (by decide) ?_
    refine iast (k := (c0 + 2)) (i := p1) (x := 0) hx hb hE.1 hW hS (shC_2 hc0) g1 dX0_changeMood_34 (fun H locs hW hS => ?_)
    obtain ⟨σ8, e9, hf⟩ := st_e hf
    rw [e9] at hW
    cases hf
    exact W.vret hx hb hr (fun u hu _ => ⟨⟨rfl, by rw [hu]; exact hW⟩, hS.F hu⟩) hS.2.2 dX0_changeMood_35
def f_X0_goHome (c0 : Nat) (σ : Sg) (p1 : Int32) : Option Sg := gd p1 200 (st (u2 σ (c0 + 5) (p1).toNatClampNeg (-1)) fun σ2 => st (u2 σ2 (c0 + 6) (p1).toNatClampNeg (-1)) fun σ4 => some σ4)
set_option maxHeartbeats 4000000 in
set_option maxRecDepth 100000 in
theorem c_X0_goHome (l : Launch) (D : va_G) (t : Nat → ClassId) (b : Nat) (c0 : Nat) (σ : Sg) (p1 : Int32) (σr : Sg) (hc0 : sh c0 = (2, 0)) (hf : f_X0_goHome c0 σ p1 = some σr) : Met l yX0_goHome (Cond.code yX0_goHome cX0_goHome 2 none :: ALL) ({ frames := 0, cells := 0, slots := 0, locals := 0 }) (PM D t b σ [.ref (b + c0), .int p1]) (QG D t b σr none) 0 0 (geA b) := by
  refine Met.ofW (cc := cX0_goHome) (maxL := 2) (ret := none) (by decide) rfl ?_
  intro p e s m args below meth c s₁ B hml hv
  obtain ⟨rfl, hW, hE⟩ := hv
  have hx := B.exec
  have hb := B.bytes
  have hr := B.returns
  have hts := atoms_spec (ws := Cond.code yX0_goHome cX0_goHome 2 none :: ALL) B.pre
  have hta := fun w h => hts w (List.mem_cons_of_mem _ h)
  have hown : s.vm.findClass RX0 = some m.cls := findClass_of_methodNamed B.named
  have hlocks := B.notSynchronized
  have hS : va_S (geA b) s.heap s.heap [] := va_S.rf
  have hl := lv_entry ([.ref (b + c0), .int p1]) (n := 2) (Nat.le_of_ble_eq_true rfl)
  rw [lg_entry_eq]
  generalize (lg_sl ([.ref (b + c0), .int p1]) ++ List.replicate (2 - (lg_sl ([.ref (b + c0), .int p1])).length) Slot.unset).toArray = ls at hl ⊢
  have hl : lv_has ls 2 [(0, .ref (b + c0)), (1, .int p1)] := hl
  unfold f_X0_goHome at hf
  refine lv_aload_n hx hb dX0_goHome_0 rfl (lv_at hl 0 rfl) ?_
  refine getC hx hb hta hown hE.1 hW hc0 6 (by decide) q83 rfl dX0_goHome_1 ?_
  refine lv_iload_n hx hb dX0_goHome_4 rfl (lv_at hl 1 rfl) ?_
  refine lv_iconst (v := (-1)) hx hb dX0_goHome_5 (by decide) ?_
  obtain ⟨g1, hf⟩ := gd_e hf
  refine iast (k := (c0 + 5)) (i := p1) (x := (-1)) hx hb hE.1 hW hS (shC_5 hc0) g1 dX0_goHome_6 (fun H locs hW hS => ?_)
  obtain ⟨σ2, e3, hf⟩ := st_e hf
  rw [e3] at hW
  refine lv_aload_n hx hb dX0_goHome_7 rfl (lv_at hl 0 rfl) ?_
  refine getC hx hb hta hown hE.1 hW hc0 7 (by decide) q86 rfl dX0_goHome_8 ?_
  refine lv_iload_n hx hb dX0_goHome_11 rfl (lv_at hl 1 rfl) ?_
  refine lv_iconst (v := (-1)) hx hb dX0_goHome_12 (by decide) ?_
  refine iast (k := (c0 + 6)) (i := p1) (x := (-1)) hx hb hE.1 hW hS (shC_6 hc0) g1 dX0_goHome_13 (fun H locs hW hS => ?_)
  obtain ⟨σ4, e5, hf⟩ := st_e hf
  rw [e5] at hW
  cases hf
  exact W.vret hx hb hr (fun u hu _ => ⟨⟨rfl, by rw [hu]; exact hW⟩, hS.F hu⟩) hS.2.2 dX0_goHome_14
def f_X0_reasonAgainst (c0 : Nat) (d2 : Nat) (σ : Sg) (p1 : Int32) : Option Int32 := gd p1 200 (if (σ d2 2) ≤ (σ (c0 + 1) (p1).toNatClampNeg) then (if (σ (c0 + 7) (p1).toNatClampNeg) < 2 then (if (σ d2 1) = (σ (c0 + 3) (p1).toNatClampNeg) then (some 0) else (if (σ d2 1) = 4 then (some 0) else (if (σ (c0 + 2) (p1).toNatClampNeg) < 50 then (some 5) else (some 0)))) else (some 4)) else (some 3))
set_option maxHeartbeats 4000000 in
set_option maxRecDepth 100000 in
theorem c_X0_reasonAgainst (l : Launch) (D : va_G) (t : Nat → ClassId) (b : Nat) (c0 : Nat) (d2 : Nat) (σ : Sg) (p1 : Int32) (r : Int32) (hc0 : sh c0 = (2, 0)) (hd2 : sh d2 = (3, 0)) (hf : f_X0_reasonAgainst c0 d2 σ p1 = some r) : Met l yX0_reasonAgainst (Cond.code yX0_reasonAgainst cX0_reasonAgainst 4 (some .int) :: ALL) ({ frames := 0, cells := 0, slots := 0, locals := 0 }) (PM D t b σ [.ref (b + c0), .int p1, .ref (b + d2)]) (QG D t b σ (some (.int r))) 0 0 (geA b) := by
  refine Met.ofW (cc := cX0_reasonAgainst) (maxL := 4) (ret := (some .int)) (by decide) rfl ?_
  intro p e s m args below meth c s₁ B hml hv
  obtain ⟨rfl, hW, hE⟩ := hv
  have hx := B.exec
  have hb := B.bytes
  have hr := B.returns
  have hts := atoms_spec (ws := Cond.code yX0_reasonAgainst cX0_reasonAgainst 4 (some .int) :: ALL) B.pre
  have hta := fun w h => hts w (List.mem_cons_of_mem _ h)
  have hown : s.vm.findClass RX0 = some m.cls := findClass_of_methodNamed B.named
  have hlocks := B.notSynchronized
  have hS : va_S (geA b) s.heap s.heap [] := va_S.rf
  have hl := lv_entry ([.ref (b + c0), .int p1, .ref (b + d2)]) (n := 4) (Nat.le_of_ble_eq_true rfl)
  rw [lg_entry_eq]
  generalize (lg_sl ([.ref (b + c0), .int p1, .ref (b + d2)]) ++ List.replicate (4 - (lg_sl ([.ref (b + c0), .int p1, .ref (b + d2)])).length) Slot.unset).toArray = ls at hl ⊢
  have hl : lv_has ls 4 [(0, .ref (b + c0)), (1, .int p1), (2, .ref (b + d2))] := hl
  unfold f_X0_reasonAgainst at hf
  refine lv_aload_n hx hb dX0_reasonAgainst_0 rfl (lv_at hl 0 rfl) ?_
  refine getC hx hb hta hown hE.1 hW hc0 2 (by decide) q74 rfl dX0_reasonAgainst_1 ?_
  refine lv_iload_n hx hb dX0_reasonAgainst_4 rfl (lv_at hl 1 rfl) ?_
  obtain ⟨g1, hf⟩ := gd_e hf
  refine iald hx hb hE.1 hW (shC_1 hc0) g1 dX0_reasonAgainst_5 ?_
  refine lv_aload_n hx hb dX0_reasonAgainst_6 rfl (lv_at hl 2 rfl) ?_
  refine getS hx hb hta hown hE.1 hW hd2 2 (by decide) q128 rfl dX0_reasonAgainst_7 ?_
  refine lv_icmp_ge (tgt := 15) hx hb dX0_reasonAgainst_10 (by decide) (fun h2 => ?_) (fun h2 => ?_)
  · have hf := ifp h2 hf
    refine lv_aload_n hx hb dX0_reasonAgainst_15 rfl (lv_at hl 0 rfl) ?_
    refine getC hx hb hta hown hE.1 hW hc0 8 (by decide) q88 rfl dX0_reasonAgainst_16 ?_
    refine lv_iload_n hx hb dX0_reasonAgainst_19 rfl (lv_at hl 1 rfl) ?_
    refine iald hx hb hE.1 hW (shC_7 hc0) g1 dX0_reasonAgainst_20 ?_
    refine lv_iconst (v := 2) hx hb dX0_reasonAgainst_21 (by decide) ?_
    refine lv_icmp_lt (tgt := 27) hx hb dX0_reasonAgainst_22 (by decide) (fun h3 => ?_) (fun h3 => ?_)
    · have hf := ifp h3 hf
      refine lv_aload_n hx hb dX0_reasonAgainst_27 rfl (lv_at hl 2 rfl) ?_
      refine getS hx hb hta hown hE.1 hW hd2 1 (by decide) q124 rfl dX0_reasonAgainst_28 ?_
      refine lv_aload_n hx hb dX0_reasonAgainst_31 rfl (lv_at hl 0 rfl) ?_
      refine getC hx hb hta hown hE.1 hW hc0 4 (by decide) q80 rfl dX0_reasonAgainst_32 ?_
      refine lv_iload_n hx hb dX0_reasonAgainst_35 rfl (lv_at hl 1 rfl) ?_
      refine iald hx hb hE.1 hW (shC_3 hc0) g1 dX0_reasonAgainst_36 ?_
      refine lv_icmp_eq (tgt := 48) hx hb dX0_reasonAgainst_37 (by decide) (fun h4 => ?_) (fun h4 => ?_)
      · have hf := ifp h4 hf
        refine lv_iconst (v := 1) hx hb dX0_reasonAgainst_48 (by decide) ?_
        refine lv_goto (tgt := 53) hx hb dX0_reasonAgainst_49 (by decide) ?_
        refine lv_istore_n (lv' := [(3, .int 1), (0, .ref (b + c0)), (1, .int p1), (2, .ref (b + d2))]) hx hb dX0_reasonAgainst_53 rfl hl (by decide) rfl (fun ls hl => ?_)
        refine lv_iload_n hx hb dX0_reasonAgainst_54 rfl (lv_at hl 0 rfl) ?_
        refine lv_if_ne (tgt := 69) hx hb dX0_reasonAgainst_55 (by decide) (fun h5 => ?_) (fun h5 => absurd h5 (by decide))
        refine lv_iconst (v := 0) hx hb dX0_reasonAgainst_69 (by decide) ?_
        refine lv_goto (tgt := 74) hx hb dX0_reasonAgainst_70 (by decide) ?_
        cases hf
        exact W.iret hx hb hr (fun u hu _ => ⟨⟨rfl, by rw [hu]; exact hW⟩, hS.F hu⟩) hS.2.2 dX0_reasonAgainst_74
      · have hf := ifn h4 hf
        refine lv_aload_n hx hb dX0_reasonAgainst_40 rfl (lv_at hl 2 rfl) ?_
        refine getS hx hb hta hown hE.1 hW hd2 1 (by decide) q124 rfl dX0_reasonAgainst_41 ?_
        refine lv_iconst (v := 4) hx hb dX0_reasonAgainst_44 (by decide) ?_
        refine lv_icmp_ne (tgt := 52) hx hb dX0_reasonAgainst_45 (by decide) (fun h6 => ?_) (fun h6 => ?_)
        · have hf := ifn h6 hf
          refine lv_iconst (v := 0) hx hb dX0_reasonAgainst_52 (by decide) ?_
          refine lv_istore_n (lv' := [(3, .int 0), (0, .ref (b + c0)), (1, .int p1), (2, .ref (b + d2))]) hx hb dX0_reasonAgainst_53 rfl hl (by decide) rfl (fun ls hl => ?_)
          refine lv_iload_n hx hb dX0_reasonAgainst_54 rfl (lv_at hl 0 rfl) ?_
          refine lv_if_ne (tgt := 69) hx hb dX0_reasonAgainst_55 (by decide) (fun h8 => absurd h8 (by decide)) (fun h8 => ?_)
          refine lv_aload_n hx hb dX0_reasonAgainst_58 rfl (lv_at hl 1 rfl) ?_
          refine getC hx hb hta hown hE.1 hW hc0 3 (by decide) q77 rfl dX0_reasonAgainst_59 ?_
          refine lv_iload_n hx hb dX0_reasonAgainst_62 rfl (lv_at hl 2 rfl) ?_
          refine iald hx hb hE.1 hW (shC_2 hc0) g1 dX0_reasonAgainst_63 ?_
          refine lv_bipush (v := 50) hx hb dX0_reasonAgainst_64 (by decide) ?_
          refine lv_icmp_lt (tgt := 73) hx hb dX0_reasonAgainst_66 (by decide) (fun h9 => ?_) (fun h9 => ?_)
          · have hf := ifp h9 hf
            refine lv_iconst (v := 5) hx hb dX0_reasonAgainst_73 (by decide) ?_
            cases hf
            exact W.iret hx hb hr (fun u hu _ => ⟨⟨rfl, by rw [hu]; exact hW⟩, hS.F hu⟩) hS.2.2 dX0_reasonAgainst_74
          · have hf := ifn h9 hf
            refine lv_iconst (v := 0) hx hb dX0_reasonAgainst_69 (by decide) ?_
            refine lv_goto (tgt := 74) hx hb dX0_reasonAgainst_70 (by decide) ?_
            cases hf
            exact W.iret hx hb hr (fun u hu _ => ⟨⟨rfl, by rw [hu]; exact hW⟩, hS.F hu⟩) hS.2.2 dX0_reasonAgainst_74
        · have hf := ifp h6 hf
          refine lv_iconst (v := 1) hx hb dX0_reasonAgainst_48 (by decide) ?_
          refine lv_goto (tgt := 53) hx hb dX0_reasonAgainst_49 (by decide) ?_
          refine lv_istore_n (lv' := [(3, .int 1), (0, .ref (b + c0)), (1, .int p1), (2, .ref (b + d2))]) hx hb dX0_reasonAgainst_53 rfl hl (by decide) rfl (fun ls hl => ?_)
          refine lv_iload_n hx hb dX0_reasonAgainst_54 rfl (lv_at hl 0 rfl) ?_
          refine lv_if_ne (tgt := 69) hx hb dX0_reasonAgainst_55 (by decide) (fun h7 => ?_) (fun h7 => absurd h7 (by decide))
          refine lv_iconst (v := 0) hx hb dX0_reasonAgainst_69 (by decide) ?_
          refine lv_goto (tgt := 74) hx hb dX0_reasonAgainst_70 (by decide) ?_
          cases hf
          exact W.iret hx hb hr (fun u hu _ => ⟨⟨rfl, by rw [hu]; exact hW⟩, hS.F hu⟩) hS.2.2 dX0_reasonAgainst_74
    · have hf := ifn h3 hf
      refine lv_iconst (v := 4) hx hb dX0_reasonAgainst_25 (by decide) ?_
      cases hf
      exact W.iret hx hb hr (fun u hu _ => ⟨⟨rfl, by rw [hu]; exact hW⟩, hS.F hu⟩) hS.2.2 dX0_reasonAgainst_26
  · have hf := ifn h2 hf
    refine lv_iconst (v := 3) hx hb dX0_reasonAgainst_13 (by decide) ?_
    cases hf
    exact W.iret hx hb hr (fun u hu _ => ⟨⟨rfl, by rw [hu]; exact hW⟩, hS.F hu⟩) hS.2.2 dX0_reasonAgainst_14
def f_X3_playsUntilWin (c0 : Nat) (σ : Sg) : Option Int32 := if (σ c0 7) = 0 then (some (-1)) else (nz (σ c0 7) (some ((σ c0 7) - ((σ c0 6) - (σ c0 6) / (σ c0 7) * (σ c0 7)))))
set_option maxHeartbeats 4000000 in
set_option maxRecDepth 100000 in
theorem c_X3_playsUntilWin (l : Launch) (D : va_G) (t : Nat → ClassId) (b : Nat) (c0 : Nat) (σ : Sg) (r : Int32) (hc0 : sh c0 = (3, 0)) (hf : f_X3_playsUntilWin c0 σ = some r) : Met l yX3_playsUntilWin (Cond.code yX3_playsUntilWin cX3_playsUntilWin 1 (some .int) :: ALL) ({ frames := 0, cells := 0, slots := 0, locals := 0 }) (PM D t b σ [.ref (b + c0)]) (QG D t b σ (some (.int r))) 0 0 (geA b) := by
  refine Met.ofW (cc := cX3_playsUntilWin) (maxL := 1) (ret := (some .int)) (by decide) rfl ?_
  intro p e s m args below meth c s₁ B hml hv
  obtain ⟨rfl, hW, hE⟩ := hv
  have hx := B.exec
  have hb := B.bytes
  have hr := B.returns
  have hts := atoms_spec (ws := Cond.code yX3_playsUntilWin cX3_playsUntilWin 1 (some .int) :: ALL) B.pre
  have hta := fun w h => hts w (List.mem_cons_of_mem _ h)
  have hown : s.vm.findClass RX3 = some m.cls := findClass_of_methodNamed B.named
  have hlocks := B.notSynchronized
  have hS : va_S (geA b) s.heap s.heap [] := va_S.rf
  have hl := lv_entry ([.ref (b + c0)]) (n := 1) (Nat.le_of_ble_eq_true rfl)
  rw [lg_entry_eq]
  generalize (lg_sl ([.ref (b + c0)]) ++ List.replicate (1 - (lg_sl ([.ref (b + c0)])).length) Slot.unset).toArray = ls at hl ⊢
  have hl : lv_has ls 1 [(0, .ref (b + c0))] := hl
  unfold f_X3_playsUntilWin at hf
  refine lv_aload_n hx hb dX3_playsUntilWin_0 rfl (lv_at hl 0 rfl) ?_
  refine getS hx hb hta hown hE.1 hW hc0 7 (by decide) q141 rfl dX3_playsUntilWin_1 ?_
  refine lv_if_ne (tgt := 11) hx hb dX3_playsUntilWin_4 (by decide) (fun h1 => ?_) (fun h1 => ?_)
  · have hf := ifn h1 hf
    refine lv_aload_n hx hb dX3_playsUntilWin_11 rfl (lv_at hl 0 rfl) ?_
    refine getS hx hb hta hown hE.1 hW hc0 7 (by decide) q141 rfl dX3_playsUntilWin_12 ?_
    refine lv_aload_n hx hb dX3_playsUntilWin_15 rfl (lv_at hl 0 rfl) ?_
    refine getS hx hb hta hown hE.1 hW hc0 6 (by decide) q138 rfl dX3_playsUntilWin_16 ?_
    refine lv_aload_n hx hb dX3_playsUntilWin_19 rfl (lv_at hl 0 rfl) ?_
    refine getS hx hb hta hown hE.1 hW hc0 7 (by decide) q141 rfl dX3_playsUntilWin_20 ?_
    obtain ⟨g2, hf⟩ := nz_e hf
    refine lv_irem hx hb dX3_playsUntilWin_23 g2 ?_
    refine lv_isub hx hb dX3_playsUntilWin_24 ?_
    cases hf
    exact W.iret hx hb hr (fun u hu _ => ⟨⟨rfl, by rw [hu]; exact hW⟩, hS.F hu⟩) hS.2.2 dX3_playsUntilWin_25
  · have hf := ifp h1 hf
    refine lv_iconst (v := (-1)) hx hb dX3_playsUntilWin_7 (by decide) ?_
    refine lv_goto (tgt := 25) hx hb dX3_playsUntilWin_8 (by decide) ?_
    cases hf
    exact W.iret hx hb hr (fun u hu _ => ⟨⟨rfl, by rw [hu]; exact hW⟩, hS.F hu⟩) hS.2.2 dX3_playsUntilWin_25
def f_X1_pay (c0 : Nat) (d2 : Nat) (σ : Sg) (p1 : Int32) : Option Sg := gd p1 200 (st (u2 σ ((c0 + 4) + 1) (p1).toNatClampNeg ((σ ((c0 + 4) + 1) (p1).toNatClampNeg) - (σ d2 2))) fun σ2 => st (u2 σ2 ((c0 + 4) + 7) (p1).toNatClampNeg ((σ2 ((c0 + 4) + 7) (p1).toNatClampNeg) + 1)) fun σ4 => st (u2 σ4 d2 5 ((σ4 d2 5) + (σ4 d2 2))) fun σ6 => st (u2 σ6 d2 6 ((σ6 d2 6) + 1)) fun σ8 => st (u2 σ8 d2 9 1) fun σ10 => st (u2 σ10 c0 4 ((σ10 c0 4) + (σ10 d2 2))) fun σ12 => st (u2 σ12 c0 5 ((σ12 c0 5) + 1)) fun σ14 => some σ14)
set_option maxHeartbeats 4000000 in
set_option maxRecDepth 100000 in
theorem c_X1_pay (l : Launch) (D : va_G) (t : Nat → ClassId) (b : Nat) (c0 : Nat) (d2 : Nat) (σ : Sg) (p1 : Int32) (σr : Sg) (hc0 : sh c0 = (1, 0)) (hd2 : sh d2 = (3, 0)) (hf : f_X1_pay c0 d2 σ p1 = some σr) : Met l yX1_pay (Cond.code yX1_pay cX1_pay 3 none :: ALL) ({ frames := 0, cells := 0, slots := 0, locals := 0 }) (PM D t b σ [.ref (b + c0), .int p1, .ref (b + d2)]) (QG D t b σr none) 0 0 (geA b) := by
  refine Met.ofW (cc := cX1_pay) (maxL := 3) (ret := none) (by decide) rfl ?_
  intro p e s m args below meth c s₁ B hml hv
  obtain ⟨rfl, hW, hE⟩ := hv
  have hx := B.exec
  have hb := B.bytes
  have hr := B.returns
  have hts := atoms_spec (ws := Cond.code yX1_pay cX1_pay 3 none :: ALL) B.pre
  have hta := fun w h => hts w (List.mem_cons_of_mem _ h)
  have hown : s.vm.findClass RX1 = some m.cls := findClass_of_methodNamed B.named
  have hlocks := B.notSynchronized
  have hS : va_S (geA b) s.heap s.heap [] := va_S.rf
  have hl := lv_entry ([.ref (b + c0), .int p1, .ref (b + d2)]) (n := 3) (Nat.le_of_ble_eq_true rfl)
  rw [lg_entry_eq]
  generalize (lg_sl ([.ref (b + c0), .int p1, .ref (b + d2)]) ++ List.replicate (3 - (lg_sl ([.ref (b + c0), .int p1, .ref (b + d2)])).length) Slot.unset).toArray = ls at hl ⊢
  have hl : lv_has ls 3 [(0, .ref (b + c0)), (1, .int p1), (2, .ref (b + d2))] := hl
  unfold f_X1_pay at hf
  refine lv_aload_n hx hb dX1_pay_0 rfl (lv_at hl 0 rfl) ?_
  refine getF hx hb hta hown hE.1 hW hc0 12 (by decide) q194 rfl dX1_pay_1 ?_
  refine getC hx hb hta hown hE.1 hW (shF_4 hc0) 2 (by decide) q75 rfl dX1_pay_4 ?_
  refine lv_iload_n hx hb dX1_pay_7 rfl (lv_at hl 1 rfl) ?_
  refine lv_dup2_11 hx hb dX1_pay_8 rfl rfl ?_
  obtain ⟨g1, hf⟩ := gd_e hf
  refine iald hx hb hE.1 hW (shC_1 (shF_4 hc0)) g1 dX1_pay_9 ?_
  refine lv_aload_n hx hb dX1_pay_10 rfl (lv_at hl 2 rfl) ?_
  refine getS hx hb hta hown hE.1 hW hd2 2 (by decide) q129 rfl dX1_pay_11 ?_
  refine lv_isub hx hb dX1_pay_14 ?_
  refine iast (k := ((c0 + 4) + 1)) (i := p1) (x := ((σ ((c0 + 4) + 1) (p1).toNatClampNeg) - (σ d2 2))) hx hb hE.1 hW hS (shC_1 (shF_4 hc0)) g1 dX1_pay_15 (fun H locs hW hS => ?_)
  obtain ⟨σ2, e3, hf⟩ := st_e hf
  rw [e3] at hW
  refine lv_aload_n hx hb dX1_pay_16 rfl (lv_at hl 0 rfl) ?_
  refine getF hx hb hta hown hE.1 hW hc0 12 (by decide) q194 rfl dX1_pay_17 ?_
  refine getC hx hb hta hown hE.1 hW (shF_4 hc0) 8 (by decide) q89 rfl dX1_pay_20 ?_
  refine lv_iload_n hx hb dX1_pay_23 rfl (lv_at hl 1 rfl) ?_
  refine lv_dup2_11 hx hb dX1_pay_24 rfl rfl ?_
  refine iald hx hb hE.1 hW (shC_7 (shF_4 hc0)) g1 dX1_pay_25 ?_
  refine lv_iconst (v := 1) hx hb dX1_pay_26 (by decide) ?_
  refine lv_iadd hx hb dX1_pay_27 ?_
  refine iast (k := ((c0 + 4) + 7)) (i := p1) (x := ((σ2 ((c0 + 4) + 7) (p1).toNatClampNeg) + 1)) hx hb hE.1 hW hS (shC_7 (shF_4 hc0)) g1 dX1_pay_28 (fun H locs hW hS => ?_)
  obtain ⟨σ4, e5, hf⟩ := st_e hf
  rw [e5] at hW
  refine lv_aload_n hx hb dX1_pay_29 rfl (lv_at hl 2 rfl) ?_
  refine lv_dup hx hb dX1_pay_30 rfl ?_
  refine getS hx hb hta hown hE.1 hW hd2 5 (by decide) q137 rfl dX1_pay_31 ?_
  refine lv_aload_n hx hb dX1_pay_34 rfl (lv_at hl 2 rfl) ?_
  refine getS hx hb hta hown hE.1 hW hd2 2 (by decide) q129 rfl dX1_pay_35 ?_
  refine lv_iadd hx hb dX1_pay_38 ?_
  refine putX (k := d2) (q := (3, 0)) (ci := 3) (x := ((σ4 d2 5) + (σ4 d2 2))) inA3 tyX3_ok nmX3 rfl (by decide) rfl hx hb hta hown hE.1 hW hS hd2 5 (by decide) q137 rfl rfl rfl (Nat.le_of_ble_eq_true rfl) rfl dX1_pay_39 (fun H locs hW hS => ?_)
  obtain ⟨σ6, e7, hf⟩ := st_e hf
  rw [e7] at hW
  refine lv_aload_n hx hb dX1_pay_42 rfl (lv_at hl 2 rfl) ?_
  refine lv_dup hx hb dX1_pay_43 rfl ?_
  refine getS hx hb hta hown hE.1 hW hd2 6 (by decide) q140 rfl dX1_pay_44 ?_
  refine lv_iconst (v := 1) hx hb dX1_pay_47 (by decide) ?_
  refine lv_iadd hx hb dX1_pay_48 ?_
  refine putX (k := d2) (q := (3, 0)) (ci := 3) (x := ((σ6 d2 6) + 1)) inA3 tyX3_ok nmX3 rfl (by decide) rfl hx hb hta hown hE.1 hW hS hd2 6 (by decide) q140 rfl rfl rfl (Nat.le_of_ble_eq_true rfl) rfl dX1_pay_49 (fun H locs hW hS => ?_)
  obtain ⟨σ8, e9, hf⟩ := st_e hf
  rw [e9] at hW
  refine lv_aload_n hx hb dX1_pay_52 rfl (lv_at hl 2 rfl) ?_
  refine lv_iconst (v := 1) hx hb dX1_pay_53 (by decide) ?_
  refine putX (k := d2) (q := (3, 0)) (ci := 3) (x := 1) inA3 tyX3_ok nmX3 rfl (by decide) rfl hx hb hta hown hE.1 hW hS hd2 9 (by decide) q143 rfl (by decide) (by decide) (Nat.le_of_ble_eq_true rfl) rfl dX1_pay_54 (fun H locs hW hS => ?_)
  obtain ⟨σ10, e11, hf⟩ := st_e hf
  rw [e11] at hW
  refine lv_aload_n hx hb dX1_pay_57 rfl (lv_at hl 0 rfl) ?_
  refine lv_dup hx hb dX1_pay_58 rfl ?_
  refine getF hx hb hta hown hE.1 hW hc0 4 (by decide) q178 rfl dX1_pay_59 ?_
  refine lv_aload_n hx hb dX1_pay_62 rfl (lv_at hl 2 rfl) ?_
  refine getS hx hb hta hown hE.1 hW hd2 2 (by decide) q129 rfl dX1_pay_63 ?_
  refine lv_iadd hx hb dX1_pay_66 ?_
  refine putX (k := c0) (q := (1, 0)) (ci := 1) (x := ((σ10 c0 4) + (σ10 d2 2))) inA1 tyX1_ok nmX1 rfl (by decide) rfl hx hb hta hown hE.1 hW hS hc0 4 (by decide) q178 rfl rfl rfl (Nat.le_of_ble_eq_true rfl) rfl dX1_pay_67 (fun H locs hW hS => ?_)
  obtain ⟨σ12, e13, hf⟩ := st_e hf
  rw [e13] at hW
  refine lv_aload_n hx hb dX1_pay_70 rfl (lv_at hl 0 rfl) ?_
  refine lv_dup hx hb dX1_pay_71 rfl ?_
  refine getF hx hb hta hown hE.1 hW hc0 5 (by decide) q180 rfl dX1_pay_72 ?_
  refine lv_iconst (v := 1) hx hb dX1_pay_75 (by decide) ?_
  refine lv_iadd hx hb dX1_pay_76 ?_
  refine putX (k := c0) (q := (1, 0)) (ci := 1) (x := ((σ12 c0 5) + 1)) inA1 tyX1_ok nmX1 rfl (by decide) rfl hx hb hta hown hE.1 hW hS hc0 5 (by decide) q180 rfl rfl rfl (Nat.le_of_ble_eq_true rfl) rfl dX1_pay_77 (fun H locs hW hS => ?_)
  obtain ⟨σ14, e15, hf⟩ := st_e hf
  rw [e15] at hW
  cases hf
  exact W.vret hx hb hr (fun u hu _ => ⟨⟨rfl, by rw [hu]; exact hW⟩, hS.F hu⟩) hS.2.2 dX1_pay_80
def l_X3_levelOnOffer_3 (c0 : Nat) : Nat → Sg → Int32 → Option Int32
  | 0, _, _ => none
  | n + 1, τ, x1 => if x1 < 0 then (some (-1)) else (gd x1 16 (if (τ (c0 + 1) (x1).toNatClampNeg) ≤ 0 then (l_X3_levelOnOffer_3 c0 n τ (x1 + (-1))) else (if (τ c0 8) < (x1 / 4) then (l_X3_levelOnOffer_3 c0 n τ (x1 + (-1))) else (some (x1 / 4)))))
def f_X3_levelOnOffer (c0 : Nat) (σ : Sg) : Option Int32 := l_X3_levelOnOffer_3 c0 10000 σ 15
set_option maxHeartbeats 4000000 in
set_option maxRecDepth 100000 in
theorem c_X3_levelOnOffer (l : Launch) (D : va_G) (t : Nat → ClassId) (b : Nat) (c0 : Nat) (σ : Sg) (r : Int32) (hc0 : sh c0 = (3, 0)) (hf : f_X3_levelOnOffer c0 σ = some r) : Met l yX3_levelOnOffer (Cond.code yX3_levelOnOffer cX3_levelOnOffer 2 (some .int) :: ALL) ({ frames := 0, cells := 0, slots := 0, locals := 0 }) (PM D t b σ [.ref (b + c0)]) (QG D t b σ (some (.int r))) 0 0 (geA b) := by
  refine Met.ofW (cc := cX3_levelOnOffer) (maxL := 2) (ret := (some .int)) (by decide) rfl ?_
  intro p e s m args below meth c s₁ B hml hv
  obtain ⟨rfl, hW, hE⟩ := hv
  have hx := B.exec
  have hb := B.bytes
  have hr := B.returns
  have hts := atoms_spec (ws := Cond.code yX3_levelOnOffer cX3_levelOnOffer 2 (some .int) :: ALL) B.pre
  have hta := fun w h => hts w (List.mem_cons_of_mem _ h)
  have hown : s.vm.findClass RX3 = some m.cls := findClass_of_methodNamed B.named
  have hlocks := B.notSynchronized
  have hS : va_S (geA b) s.heap s.heap [] := va_S.rf
  have hl := lv_entry ([.ref (b + c0)]) (n := 2) (Nat.le_of_ble_eq_true rfl)
  rw [lg_entry_eq]
  generalize (lg_sl ([.ref (b + c0)]) ++ List.replicate (2 - (lg_sl ([.ref (b + c0)])).length) Slot.unset).toArray = ls at hl ⊢
  have hl : lv_has ls 2 [(0, .ref (b + c0))] := hl
  unfold f_X3_levelOnOffer at hf
  refine lv_bipush (v := 15) hx hb dX3_levelOnOffer_0 (by decide) ?_
  refine lv_istore_n (lv' := [(1, .int 15), (0, .ref (b + c0))]) hx hb dX3_levelOnOffer_2 rfl hl (by decide) rfl (fun ls hl => ?_)
  have key_3 : ∀ (n : Nat) (τ : Sg) (x1 : Int32) (H : Heap) (locs : List Loc) (ls : Array Slot), l_X3_levelOnOffer_3 c0 n τ x1 = some r → wd D t b τ H → va_S (geA b) s.heap H locs → lv_has ls 2 [(0, .ref (b + c0)), (1, .int x1)] → W p l e (headSpec (Cond.code yX3_levelOnOffer cX3_levelOnOffer 2 (some .int) :: ALL) ({ frames := 0, cells := 0, slots := 0, locals := 0 })).room s m (([.ref (b + c0)] : List Value).toArray) below meth c H locs 0 0 (MQ below (QG D t b τ (some (.int r))) (([.ref (b + c0)] : List Value).toArray) s 0 0 (geA b)) (F0 m 3 ls []) := by
    intro n
    induction n with
    | zero =>
      intro τ x1 H locs ls hf
      rw [l_X3_levelOnOffer_3.eq_1] at hf
      cases hf
    | succ n ih_3 =>
      intro τ x1 H locs ls hf hW hS hl
      rw [l_X3_levelOnOffer_3.eq_2] at hf
      refine lv_iload_n hx hb dX3_levelOnOffer_3 rfl (lv_at hl 1 rfl) ?_
      refine lv_if_lt (tgt := 36) hx hb dX3_levelOnOffer_4 (by decide) (fun h1 => ?_) (fun h1 => ?_)
      · have hf := ifp h1 hf
        refine lv_iconst (v := (-1)) hx hb dX3_levelOnOffer_36 (by decide) ?_
        cases hf
        exact W.iret hx hb hr (fun u hu _ => ⟨⟨rfl, by rw [hu]; exact hW⟩, hS.F hu⟩) hS.2.2 dX3_levelOnOffer_37
      · have hf := ifn h1 hf
        refine lv_aload_n hx hb dX3_levelOnOffer_7 rfl (lv_at hl 0 rfl) ?_
        refine getS hx hb hta hown hE.1 hW hc0 10 (by decide) q144 rfl dX3_levelOnOffer_8 ?_
        refine lv_iload_n hx hb dX3_levelOnOffer_11 rfl (lv_at hl 1 rfl) ?_
        obtain ⟨g2, hf⟩ := gd_e hf
        refine iald hx hb hE.1 hW (shS_1 hc0) g2 dX3_levelOnOffer_12 ?_
        refine lv_if_le (tgt := 30) hx hb dX3_levelOnOffer_13 (by decide) (fun h3 => ?_) (fun h3 => ?_)
        · have hf := ifp h3 hf
          refine lv_iinc (v := (x1 + (-1))) (lv' := [(1, .int (x1 + (-1))), (0, .ref (b + c0))]) hx hb dX3_levelOnOffer_30 hl (k := 1) rfl (by rfl) (by decide) rfl (fun ls hl => ?_)
          refine lv_goto (tgt := 3) hx hb dX3_levelOnOffer_33 (by decide) ?_
          exact ih_3 τ (x1 + (-1)) _ _ _ hf hW hS (lv_sub hl [1, 0] rfl)
        · have hf := ifn h3 hf
          refine lv_iload_n hx hb dX3_levelOnOffer_16 rfl (lv_at hl 1 rfl) ?_
          refine lv_iconst (v := 4) hx hb dX3_levelOnOffer_17 (by decide) ?_
          refine lv_idiv hx hb dX3_levelOnOffer_18 (by decide) ?_
          refine lv_aload_n hx hb dX3_levelOnOffer_19 rfl (lv_at hl 0 rfl) ?_
          refine getS hx hb hta hown hE.1 hW hc0 8 (by decide) q142 rfl dX3_levelOnOffer_20 ?_
          refine lv_icmp_gt (tgt := 30) hx hb dX3_levelOnOffer_23 (by decide) (fun h4 => ?_) (fun h4 => ?_)
          · have hf := ifp h4 hf
            refine lv_iinc (v := (x1 + (-1))) (lv' := [(1, .int (x1 + (-1))), (0, .ref (b + c0))]) hx hb dX3_levelOnOffer_30 hl (k := 1) rfl (by rfl) (by decide) rfl (fun ls hl => ?_)
            refine lv_goto (tgt := 3) hx hb dX3_levelOnOffer_33 (by decide) ?_
            exact ih_3 τ (x1 + (-1)) _ _ _ hf hW hS (lv_sub hl [1, 0] rfl)
          · have hf := ifn h4 hf
            refine lv_iload_n hx hb dX3_levelOnOffer_26 rfl (lv_at hl 1 rfl) ?_
            refine lv_iconst (v := 4) hx hb dX3_levelOnOffer_27 (by decide) ?_
            refine lv_idiv hx hb dX3_levelOnOffer_28 (by decide) ?_
            cases hf
            exact W.iret hx hb hr (fun u hu _ => ⟨⟨rfl, by rw [hu]; exact hW⟩, hS.F hu⟩) hS.2.2 dX3_levelOnOffer_29
  exact key_3 10000 σ 15 _ _ _ hf hW hS (lv_sub hl [1, 0] rfl)
def l_X3_colourOnOffer_17 (c0 : Nat) : Nat → Sg → Int32 → Int32 → Option Int32
  | 0, _, _, _ => none
  | n + 1, τ, x1, x3 => if 4 ≤ x3 then (some (-1)) else (gd ((x1 * 4) + x3) 16 (if (τ (c0 + 1) (((x1 * 4) + x3)).toNatClampNeg) ≤ 0 then (l_X3_colourOnOffer_17 c0 n τ x1 (x3 + 1)) else (some x3)))
def f_X3_colourOnOffer (c0 : Nat) (σ : Sg) (p1 : Int32) (p2 : Int32) : Option Int32 := gd ((p1 * 4) + p2) 16 (if (σ (c0 + 1) (((p1 * 4) + p2)).toNatClampNeg) ≤ 0 then (l_X3_colourOnOffer_17 c0 10000 σ p1 0) else (some p2))
set_option maxHeartbeats 4000000 in
set_option maxRecDepth 100000 in
theorem c_X3_colourOnOffer (l : Launch) (D : va_G) (t : Nat → ClassId) (b : Nat) (c0 : Nat) (σ : Sg) (p1 : Int32) (p2 : Int32) (r : Int32) (hc0 : sh c0 = (3, 0)) (hf : f_X3_colourOnOffer c0 σ p1 p2 = some r) : Met l yX3_colourOnOffer (Cond.code yX3_colourOnOffer cX3_colourOnOffer 4 (some .int) :: ALL) ({ frames := 0, cells := 0, slots := 0, locals := 0 }) (PM D t b σ [.ref (b + c0), .int p1, .int p2]) (QG D t b σ (some (.int r))) 0 0 (geA b) := by
  refine Met.ofW (cc := cX3_colourOnOffer) (maxL := 4) (ret := (some .int)) (by decide) rfl ?_
  intro p e s m args below meth c s₁ B hml hv
  obtain ⟨rfl, hW, hE⟩ := hv
  have hx := B.exec
  have hb := B.bytes
  have hr := B.returns
  have hts := atoms_spec (ws := Cond.code yX3_colourOnOffer cX3_colourOnOffer 4 (some .int) :: ALL) B.pre
  have hta := fun w h => hts w (List.mem_cons_of_mem _ h)
  have hown : s.vm.findClass RX3 = some m.cls := findClass_of_methodNamed B.named
  have hlocks := B.notSynchronized
  have hS : va_S (geA b) s.heap s.heap [] := va_S.rf
  have hl := lv_entry ([.ref (b + c0), .int p1, .int p2]) (n := 4) (Nat.le_of_ble_eq_true rfl)
  rw [lg_entry_eq]
  generalize (lg_sl ([.ref (b + c0), .int p1, .int p2]) ++ List.replicate (4 - (lg_sl ([.ref (b + c0), .int p1, .int p2])).length) Slot.unset).toArray = ls at hl ⊢
  have hl : lv_has ls 4 [(0, .ref (b + c0)), (1, .int p1), (2, .int p2)] := hl
  unfold f_X3_colourOnOffer at hf
  refine lv_aload_n hx hb dX3_colourOnOffer_0 rfl (lv_at hl 0 rfl) ?_
  refine getS hx hb hta hown hE.1 hW hc0 10 (by decide) q144 rfl dX3_colourOnOffer_1 ?_
  refine lv_iload_n hx hb dX3_colourOnOffer_4 rfl (lv_at hl 1 rfl) ?_
  refine lv_iconst (v := 4) hx hb dX3_colourOnOffer_5 (by decide) ?_
  refine lv_imul hx hb dX3_colourOnOffer_6 ?_
  refine lv_iload_n hx hb dX3_colourOnOffer_7 rfl (lv_at hl 2 rfl) ?_
  refine lv_iadd hx hb dX3_colourOnOffer_8 ?_
  obtain ⟨g1, hf⟩ := gd_e hf
  refine iald hx hb hE.1 hW (shS_1 hc0) g1 dX3_colourOnOffer_9 ?_
  refine lv_if_le (tgt := 15) hx hb dX3_colourOnOffer_10 (by decide) (fun h2 => ?_) (fun h2 => ?_)
  · have hf := ifp h2 hf
    refine lv_iconst (v := 0) hx hb dX3_colourOnOffer_15 (by decide) ?_
    refine lv_istore_n (lv' := [(3, .int 0), (0, .ref (b + c0)), (1, .int p1), (2, .int p2)]) hx hb dX3_colourOnOffer_16 rfl hl (by decide) rfl (fun ls hl => ?_)
    have key_17 : ∀ (n : Nat) (τ : Sg) (x1 : Int32) (x3 : Int32) (H : Heap) (locs : List Loc) (ls : Array Slot), l_X3_colourOnOffer_17 c0 n τ x1 x3 = some r → wd D t b τ H → va_S (geA b) s.heap H locs → lv_has ls 4 [(0, .ref (b + c0)), (1, .int x1), (3, .int x3)] → W p l e (headSpec (Cond.code yX3_colourOnOffer cX3_colourOnOffer 4 (some .int) :: ALL) ({ frames := 0, cells := 0, slots := 0, locals := 0 })).room s m (([.ref (b + c0), .int p1, .int p2] : List Value).toArray) below meth c H locs 0 0 (MQ below (QG D t b τ (some (.int r))) (([.ref (b + c0), .int p1, .int p2] : List Value).toArray) s 0 0 (geA b)) (F0 m 17 ls []) := by
      intro n
      induction n with
      | zero =>
        intro τ x1 x3 H locs ls hf
        rw [l_X3_colourOnOffer_17.eq_1] at hf
        cases hf
      | succ n ih_17 =>
        intro τ x1 x3 H locs ls hf hW hS hl
        rw [l_X3_colourOnOffer_17.eq_2] at hf
        refine lv_iload_n hx hb dX3_colourOnOffer_17 rfl (lv_at hl 2 rfl) ?_
        refine lv_iconst (v := 4) hx hb dX3_colourOnOffer_18 (by decide) ?_
        refine lv_icmp_ge (tgt := 43) hx hb dX3_colourOnOffer_19 (by decide) (fun h3 => ?_) (fun h3 => ?_)
        · have hf := ifp h3 hf
          refine lv_iconst (v := (-1)) hx hb dX3_colourOnOffer_43 (by decide) ?_
          cases hf
          exact W.iret hx hb hr (fun u hu _ => ⟨⟨rfl, by rw [hu]; exact hW⟩, hS.F hu⟩) hS.2.2 dX3_colourOnOffer_44
        · have hf := ifn h3 hf
          refine lv_aload_n hx hb dX3_colourOnOffer_22 rfl (lv_at hl 0 rfl) ?_
          refine getS hx hb hta hown hE.1 hW hc0 10 (by decide) q144 rfl dX3_colourOnOffer_23 ?_
          refine lv_iload_n hx hb dX3_colourOnOffer_26 rfl (lv_at hl 1 rfl) ?_
          refine lv_iconst (v := 4) hx hb dX3_colourOnOffer_27 (by decide) ?_
          refine lv_imul hx hb dX3_colourOnOffer_28 ?_
          refine lv_iload_n hx hb dX3_colourOnOffer_29 rfl (lv_at hl 2 rfl) ?_
          refine lv_iadd hx hb dX3_colourOnOffer_30 ?_
          obtain ⟨g4, hf⟩ := gd_e hf
          refine iald hx hb hE.1 hW (shS_1 hc0) g4 dX3_colourOnOffer_31 ?_
          refine lv_if_le (tgt := 37) hx hb dX3_colourOnOffer_32 (by decide) (fun h5 => ?_) (fun h5 => ?_)
          · have hf := ifp h5 hf
            refine lv_iinc (v := (x3 + 1)) (lv' := [(3, .int (x3 + 1)), (0, .ref (b + c0)), (1, .int x1)]) hx hb dX3_colourOnOffer_37 hl (k := 2) rfl (by rfl) (by decide) rfl (fun ls hl => ?_)
            refine lv_goto (tgt := 17) hx hb dX3_colourOnOffer_40 (by decide) ?_
            exact ih_17 τ x1 (x3 + 1) _ _ _ hf hW hS (lv_sub hl [1, 2, 0] rfl)
          · have hf := ifn h5 hf
            refine lv_iload_n hx hb dX3_colourOnOffer_35 rfl (lv_at hl 2 rfl) ?_
            cases hf
            exact W.iret hx hb hr (fun u hu _ => ⟨⟨rfl, by rw [hu]; exact hW⟩, hS.F hu⟩) hS.2.2 dX3_colourOnOffer_36
    exact key_17 10000 σ p1 0 _ _ _ hf hW hS (lv_sub hl [1, 2, 0] rfl)
  · have hf := ifn h2 hf
    refine lv_iload_n hx hb dX3_colourOnOffer_13 rfl (lv_at hl 2 rfl) ?_
    cases hf
    exact W.iret hx hb hr (fun u hu _ => ⟨⟨rfl, by rw [hu]; exact hW⟩, hS.F hu⟩) hS.2.2 dX3_colourOnOffer_14
def f_X1_handOver (c0 : Nat) (d2 : Nat) (σ : Sg) (p1 : Int32) (p3 : Int32) (p4 : Int32) : Option Sg := gd ((p3 * 4) + p4) 16 (st (u2 σ (d2 + 1) (((p3 * 4) + p4)).toNatClampNeg ((σ (d2 + 1) (((p3 * 4) + p4)).toNatClampNeg) - 1)) fun σ2 => gd p1 200 (st (u2 σ2 ((c0 + 4) + 8) (p1).toNatClampNeg ((σ2 ((c0 + 4) + 8) (p1).toNatClampNeg) + 1)) fun σ5 => gd p3 4 (st (u2 σ5 (c0 + 2) (p3).toNatClampNeg ((σ5 (c0 + 2) (p3).toNatClampNeg) + 1)) fun σ8 => some σ8)))
set_option maxHeartbeats 4000000 in
set_option maxRecDepth 100000 in
theorem c_X1_handOver (l : Launch) (D : va_G) (t : Nat → ClassId) (b : Nat) (c0 : Nat) (d2 : Nat) (σ : Sg) (p1 : Int32) (p3 : Int32) (p4 : Int32) (σr : Sg) (hc0 : sh c0 = (1, 0)) (hd2 : sh d2 = (3, 0)) (hf : f_X1_handOver c0 d2 σ p1 p3 p4 = some σr) : Met l yX1_handOver (Cond.code yX1_handOver cX1_handOver 5 none :: ALL) ({ frames := 0, cells := 0, slots := 0, locals := 0 }) (PM D t b σ [.ref (b + c0), .int p1, .ref (b + d2), .int p3, .int p4]) (QG D t b σr none) 0 0 (geA b) := by
  refine Met.ofW (cc := cX1_handOver) (maxL := 5) (ret := none) (by decide) rfl ?_
  intro p e s m args below meth c s₁ B hml hv
  obtain ⟨rfl, hW, hE⟩ := hv
  have hx := B.exec
  have hb := B.bytes
  have hr := B.returns
  have hts := atoms_spec (ws := Cond.code yX1_handOver cX1_handOver 5 none :: ALL) B.pre
  have hta := fun w h => hts w (List.mem_cons_of_mem _ h)
  have hown : s.vm.findClass RX1 = some m.cls := findClass_of_methodNamed B.named
  have hlocks := B.notSynchronized
  have hS : va_S (geA b) s.heap s.heap [] := va_S.rf
  have hl := lv_entry ([.ref (b + c0), .int p1, .ref (b + d2), .int p3, .int p4]) (n := 5) (Nat.le_of_ble_eq_true rfl)
  rw [lg_entry_eq]
  generalize (lg_sl ([.ref (b + c0), .int p1, .ref (b + d2), .int p3, .int p4]) ++ List.replicate (5 - (lg_sl ([.ref (b + c0), .int p1, .ref (b + d2), .int p3, .int p4])).length) Slot.unset).toArray = ls at hl ⊢
  have hl : lv_has ls 5 [(0, .ref (b + c0)), (1, .int p1), (2, .ref (b + d2)), (3, .int p3), (4, .int p4)] := hl
  unfold f_X1_handOver at hf
  refine lv_aload_n hx hb dX1_handOver_0 rfl (lv_at hl 2 rfl) ?_
  refine getS hx hb hta hown hE.1 hW hd2 10 (by decide) q145 rfl dX1_handOver_1 ?_
  refine lv_iload_n hx hb dX1_handOver_4 rfl (lv_at hl 3 rfl) ?_
  refine lv_iconst (v := 4) hx hb dX1_handOver_5 (by decide) ?_
  refine lv_imul hx hb dX1_handOver_6 ?_
  refine lv_iload hx hb dX1_handOver_7 (lv_at hl 4 rfl) ?_
  refine lv_iadd hx hb dX1_handOver_9 ?_
  refine lv_dup2_11 hx hb dX1_handOver_10 rfl rfl ?_
  obtain ⟨g1, hf⟩ := gd_e hf
  refine iald hx hb hE.1 hW (shS_1 hd2) g1 dX1_handOver_11 ?_
  refine lv_iconst (v := 1) hx hb dX1_handOver_12 (by decide) ?_
  refine lv_isub hx hb dX1_handOver_13 ?_
  refine iast (k := (d2 + 1)) (i := ((p3 * 4) + p4)) (x := ((σ (d2 + 1) (((p3 * 4) + p4)).toNatClampNeg) - 1)) hx hb hE.1 hW hS (shS_1 hd2) g1 dX1_handOver_14 (fun H locs hW hS => ?_)
  obtain ⟨σ2, e3, hf⟩ := st_e hf
  rw [e3] at hW
  refine lv_aload_n hx hb dX1_handOver_15 rfl (lv_at hl 0 rfl) ?_
  refine getF hx hb hta hown hE.1 hW hc0 12 (by decide) q194 rfl dX1_handOver_16 ?_
  refine getC hx hb hta hown hE.1 hW (shF_4 hc0) 9 (by decide) q91 rfl dX1_handOver_19 ?_
  refine lv_iload_n hx hb dX1_handOver_22 rfl (lv_at hl 1 rfl) ?_
  refine lv_dup2_11 hx hb dX1_handOver_23 rfl rfl ?_
  obtain ⟨g4, hf⟩ := gd_e hf
  refine iald hx hb hE.1 hW (shC_8 (shF_4 hc0)) g4 dX1_handOver_24 ?_
  refine lv_iconst (v := 1) hx hb dX1_handOver_25 (by decide) ?_
  refine lv_iadd hx hb dX1_handOver_26 ?_
  refine iast (k := ((c0 + 4) + 8)) (i := p1) (x := ((σ2 ((c0 + 4) + 8) (p1).toNatClampNeg) + 1)) hx hb hE.1 hW hS (shC_8 (shF_4 hc0)) g4 dX1_handOver_27 (fun H locs hW hS => ?_)
  obtain ⟨σ5, e6, hf⟩ := st_e hf
  rw [e6] at hW
  refine lv_aload_n hx hb dX1_handOver_28 rfl (lv_at hl 0 rfl) ?_
  refine getF hx hb hta hown hE.1 hW hc0 9 (by decide) q188 rfl dX1_handOver_29 ?_
  refine lv_iload_n hx hb dX1_handOver_32 rfl (lv_at hl 3 rfl) ?_
  refine lv_dup2_11 hx hb dX1_handOver_33 rfl rfl ?_
  obtain ⟨g7, hf⟩ := gd_e hf
  refine iald hx hb hE.1 hW (shF_2 hc0) g7 dX1_handOver_34 ?_
  refine lv_iconst (v := 1) hx hb dX1_handOver_35 (by decide) ?_
  refine lv_iadd hx hb dX1_handOver_36 ?_
  refine iast (k := (c0 + 2)) (i := p3) (x := ((σ5 (c0 + 2) (p3).toNatClampNeg) + 1)) hx hb hE.1 hW hS (shF_2 hc0) g7 dX1_handOver_37 (fun H locs hW hS => ?_)
  obtain ⟨σ8, e9, hf⟩ := st_e hf
  rw [e9] at hW
  cases hf
  exact W.vret hx hb hr (fun u hu _ => ⟨⟨rfl, by rw [hu]; exact hW⟩, hS.F hu⟩) hS.2.2 dX1_handOver_38
def f_X1_play (c0 : Nat) (d2 : Nat) (σ : Sg) (p1 : Int32) : Option Sg := b1 (f_X3_playsUntilWin d2 σ) fun y1 => if y1 = 1 then (b1 (f_X1_pay c0 d2 σ p1) fun σ6 => b1 (f_X3_levelOnOffer d2 σ6) fun y8 => gd p1 200 (if y8 = (-1) then (if (σ6 d2 1) = 4 then (b1 (f_X0_changeMood (c0 + 4) σ6 p1 15) fun σ16 => some σ16) else (b1 (f_X0_changeMood (c0 + 4) σ6 p1 (-8)) fun σ19 => some σ19)) else (b1 (f_X3_colourOnOffer d2 σ6 y8 (σ6 ((c0 + 4) + 4) (p1).toNatClampNeg)) fun y20 => if y20 = (-1) then (if (σ6 d2 1) = 4 then (b1 (f_X0_changeMood (c0 + 4) σ6 p1 15) fun σ26 => some σ26) else (b1 (f_X0_changeMood (c0 + 4) σ6 p1 (-8)) fun σ29 => some σ29)) else (b1 (f_X1_handOver c0 d2 σ6 p1 y8 y20) fun σ32 => if y20 = (σ6 ((c0 + 4) + 4) (p1).toNatClampNeg) then (b1 (f_X0_changeMood (c0 + 4) σ32 p1 (20 + 10)) fun σ36 => some σ36) else (b1 (f_X0_changeMood (c0 + 4) σ32 p1 (20 + 0)) fun σ39 => some σ39))))) else (b1 (f_X1_pay c0 d2 σ p1) fun σ42 => gd p1 200 (if (σ42 d2 1) = 4 then (b1 (f_X0_changeMood (c0 + 4) σ42 p1 15) fun σ50 => some σ50) else (b1 (f_X0_changeMood (c0 + 4) σ42 p1 (-8)) fun σ53 => some σ53)))
set_option maxHeartbeats 4000000 in
set_option maxRecDepth 100000 in
theorem c_X1_play (l : Launch) (D : va_G) (t : Nat → ClassId) (b : Nat) (c0 : Nat) (d2 : Nat) (σ : Sg) (p1 : Int32) (σr : Sg) (hc0 : sh c0 = (1, 0)) (hd2 : sh d2 = (3, 0)) (hf : f_X1_play c0 d2 σ p1 = some σr) : Met l yX1_play (Cond.code yX1_play cX1_play 7 none :: ALL) ({ frames := 1, cells := 0, slots := 0, locals := 24 }) (PM D t b σ [.ref (b + c0), .int p1, .ref (b + d2)]) (QG D t b σr none) 0 0 (geA b) := by
  refine Met.ofW (cc := cX1_play) (maxL := 7) (ret := none) (by decide) rfl ?_
  intro p e s m args below meth c s₁ B hml hv
  obtain ⟨rfl, hW, hE⟩ := hv
  have hx := B.exec
  have hb := B.bytes
  have hr := B.returns
  have hts := atoms_spec (ws := Cond.code yX1_play cX1_play 7 none :: ALL) B.pre
  have hta := fun w h => hts w (List.mem_cons_of_mem _ h)
  have hown : s.vm.findClass RX1 = some m.cls := findClass_of_methodNamed B.named
  have hlocks := B.notSynchronized
  have hS : va_S (geA b) s.heap s.heap [] := va_S.rf
  have hl := lv_entry ([.ref (b + c0), .int p1, .ref (b + d2)]) (n := 7) (Nat.le_of_ble_eq_true rfl)
  rw [lg_entry_eq]
  generalize (lg_sl ([.ref (b + c0), .int p1, .ref (b + d2)]) ++ List.replicate (7 - (lg_sl ([.ref (b + c0), .int p1, .ref (b + d2)])).length) Slot.unset).toArray = ls at hl ⊢
  have hl : lv_has ls 7 [(0, .ref (b + c0)), (1, .int p1), (2, .ref (b + d2))] := hl
  unfold f_X1_play at hf
  refine lv_aload_n hx hb dX1_play_0 rfl (lv_at hl 2 rfl) ?_
  obtain ⟨y1, u2, hf⟩ := b1_e hf
  refine mV (k := d2) (q := (3, 0)) (C := RX3) (T := TX3) (N := 11) (ci := 3) (n := 0) (As := []) (rest := []) (c_X3_playsUntilWin l D t b d2 σ y1 hd2 u2) hd2 (by decide) rfl rfl hx hb hml hown hts hE hW hS q675 q676 q677 q37 q678 hy_X3_playsUntilWin ⟨rfl, rfl⟩ ⟨Nat.le_of_ble_eq_true rfl, Nat.le_of_ble_eq_true rfl⟩ rfl rfl hl.1 (Nat.le_of_ble_eq_true rfl) ⟨Nat.zero_le _, Nat.zero_le _⟩ dX1_play_1 (fun H locs hW hS => ?_)
  refine lv_iconst (v := 1) hx hb dX1_play_4 (by decide) ?_
  refine lv_icmp_ne (tgt := 12) hx hb dX1_play_5 (by decide) (fun h3 => ?_) (fun h3 => ?_)
  · have hf := ifn h3 hf
    refine lv_iconst (v := 0) hx hb dX1_play_12 (by decide) ?_
    refine lv_istore_n (lv' := [(3, .int 0), (0, .ref (b + c0)), (1, .int p1), (2, .ref (b + d2))]) hx hb dX1_play_13 rfl hl (by decide) rfl (fun ls hl => ?_)
    refine lv_aload_n hx hb dX1_play_14 rfl (lv_at hl 1 rfl) ?_
    refine lv_iload_n hx hb dX1_play_15 rfl (lv_at hl 2 rfl) ?_
    refine lv_aload_n hx hb dX1_play_16 rfl (lv_at hl 3 rfl) ?_
    obtain ⟨σ42, u41, hf⟩ := b1_e hf
    refine mV (k := c0) (q := (1, 0)) (C := RX1) (T := TX1) (N := 13) (ci := 1) (n := 2) (As := [.int p1, .ref (b + d2)]) (rest := []) (c_X1_pay l D t b c0 d2 σ p1 σ42 hc0 hd2 u41) hc0 (by decide) rfl rfl hx hb hml hown hts hE hW hS q679 q681 q14 q35 q682 hy_X1_pay ⟨rfl, rfl⟩ ⟨Nat.le_of_ble_eq_true rfl, Nat.le_of_ble_eq_true rfl⟩ rfl rfl hl.1 (Nat.le_of_ble_eq_true rfl) ⟨Nat.zero_le _, Nat.zero_le _⟩ dX1_play_17 (fun H locs hW hS => ?_)
    refine lv_iload_n hx hb dX1_play_20 rfl (lv_at hl 0 rfl) ?_
    refine lv_if_eq (tgt := 31) hx hb dX1_play_21 (by decide) (fun h43 => ?_) (fun h43 => absurd h43 (by decide))
    refine lv_iconst (v := (-1)) hx hb dX1_play_31 (by decide) ?_
    refine lv_istore (lv' := [(4, .int (-1)), (3, .int 0), (0, .ref (b + c0)), (1, .int p1), (2, .ref (b + d2))]) hx hb dX1_play_32 hl (by decide) rfl (fun ls hl => ?_)
    refine lv_aload_n hx hb dX1_play_34 rfl (lv_at hl 2 rfl) ?_
    refine getF hx hb hta hown hE.1 hW hc0 12 (by decide) q194 rfl dX1_play_35 ?_
    refine getC hx hb hta hown hE.1 hW (shF_4 hc0) 5 (by decide) q82 rfl dX1_play_38 ?_
    refine lv_iload_n hx hb dX1_play_41 rfl (lv_at hl 3 rfl) ?_
    obtain ⟨g44, hf⟩ := gd_e hf
    refine iald hx hb hE.1 hW (shC_4 (shF_4 hc0)) g44 dX1_play_42 ?_
    refine lv_istore (lv' := [(5, .int (σ42 ((c0 + 4) + 4) (p1).toNatClampNeg)), (4, .int (-1)), (3, .int 0), (0, .ref (b + c0)), (1, .int p1), (2, .ref (b + d2))]) hx hb dX1_play_43 hl (by decide) rfl (fun ls hl => ?_)
    refine lv_iload hx hb dX1_play_45 (lv_at hl 1 rfl) ?_
    refine lv_iconst (v := (-1)) hx hb dX1_play_47 (by decide) ?_
    refine lv_icmp_ne (tgt := 55) hx hb dX1_play_48 (by decide) (fun h45 => absurd h45 (by decide)) (fun h45 => ?_)
    refine lv_iconst (v := (-1)) hx hb dX1_play_51 (by decide) ?_
    refine lv_goto (tgt := 63) hx hb dX1_play_52 (by decide) ?_
    refine lv_istore (lv' := [(6, .int (-1)), (5, .int (σ42 ((c0 + 4) + 4) (p1).toNatClampNeg)), (4, .int (-1)), (3, .int 0), (0, .ref (b + c0)), (1, .int p1), (2, .ref (b + d2))]) hx hb dX1_play_63 hl (by decide) rfl (fun ls hl => ?_)
    refine lv_iload hx hb dX1_play_65 (lv_at hl 0 rfl) ?_
    refine lv_iconst (v := (-1)) hx hb dX1_play_67 (by decide) ?_
    refine lv_icmp_eq (tgt := 108) hx hb dX1_play_68 (by decide) (fun h46 => ?_) (fun h46 => absurd h46 (by decide))
    refine lv_aload_n hx hb dX1_play_108 rfl (lv_at hl 4 rfl) ?_
    refine getF hx hb hta hown hE.1 hW hc0 12 (by decide) q194 rfl dX1_play_109 ?_
    refine lv_iload_n hx hb dX1_play_112 rfl (lv_at hl 5 rfl) ?_
    refine lv_aload_n hx hb dX1_play_113 rfl (lv_at hl 6 rfl) ?_
    refine getS hx hb hta hown hE.1 hW hd2 1 (by decide) q125 rfl dX1_play_114 ?_
    refine lv_iconst (v := 4) hx hb dX1_play_117 (by decide) ?_
    refine lv_icmp_ne (tgt := 126) hx hb dX1_play_118 (by decide) (fun h47 => ?_) (fun h47 => ?_)
    · have hf := ifn h47 hf
      refine lv_bipush (v := (-8)) hx hb dX1_play_126 (by decide) ?_
      obtain ⟨σ53, u52, hf⟩ := b1_e hf
      refine mV (k := (c0 + 4)) (q := (2, 0)) (C := RX0) (T := TX0) (N := 10) (ci := 0) (n := 2) (As := [.int p1, .int (-8)]) (rest := []) (c_X0_changeMood l D t b (c0 + 4) σ42 p1 (-8) σ53 (shF_4 hc0) u52) (shF_4 hc0) (by decide) rfl rfl hx hb hml hown hts hE hW hS q659 q660 q661 q36 q662 hy_X0_changeMood ⟨rfl, rfl⟩ ⟨Nat.le_of_ble_eq_true rfl, Nat.le_of_ble_eq_true rfl⟩ rfl rfl hl.1 (Nat.le_of_ble_eq_true rfl) ⟨Nat.zero_le _, Nat.zero_le _⟩ dX1_play_128 (fun H locs hW hS => ?_)
      cases hf
      exact W.vret hx hb hr (fun u hu _ => ⟨⟨rfl, by rw [hu]; exact hW⟩, hS.F hu⟩) hS.2.2 dX1_play_131
    · have hf := ifp h47 hf
      refine lv_bipush (v := 15) hx hb dX1_play_121 (by decide) ?_
      refine lv_goto (tgt := 128) hx hb dX1_play_123 (by decide) ?_
      obtain ⟨σ50, u49, hf⟩ := b1_e hf
      refine mV (k := (c0 + 4)) (q := (2, 0)) (C := RX0) (T := TX0) (N := 10) (ci := 0) (n := 2) (As := [.int p1, .int 15]) (rest := []) (c_X0_changeMood l D t b (c0 + 4) σ42 p1 15 σ50 (shF_4 hc0) u49) (shF_4 hc0) (by decide) rfl rfl hx hb hml hown hts hE hW hS q659 q660 q661 q36 q662 hy_X0_changeMood ⟨rfl, rfl⟩ ⟨Nat.le_of_ble_eq_true rfl, Nat.le_of_ble_eq_true rfl⟩ rfl rfl hl.1 (Nat.le_of_ble_eq_true rfl) ⟨Nat.zero_le _, Nat.zero_le _⟩ dX1_play_128 (fun H locs hW hS => ?_)
      cases hf
      exact W.vret hx hb hr (fun u hu _ => ⟨⟨rfl, by rw [hu]; exact hW⟩, hS.F hu⟩) hS.2.2 dX1_play_131
  · have hf := ifp h3 hf
    refine lv_iconst (v := 1) hx hb dX1_play_8 (by decide) ?_
    refine lv_goto (tgt := 13) hx hb dX1_play_9 (by decide) ?_
    refine lv_istore_n (lv' := [(3, .int 1), (0, .ref (b + c0)), (1, .int p1), (2, .ref (b + d2))]) hx hb dX1_play_13 rfl hl (by decide) rfl (fun ls hl => ?_)
    refine lv_aload_n hx hb dX1_play_14 rfl (lv_at hl 1 rfl) ?_
    refine lv_iload_n hx hb dX1_play_15 rfl (lv_at hl 2 rfl) ?_
    refine lv_aload_n hx hb dX1_play_16 rfl (lv_at hl 3 rfl) ?_
    obtain ⟨σ6, u5, hf⟩ := b1_e hf
    refine mV (k := c0) (q := (1, 0)) (C := RX1) (T := TX1) (N := 13) (ci := 1) (n := 2) (As := [.int p1, .ref (b + d2)]) (rest := []) (c_X1_pay l D t b c0 d2 σ p1 σ6 hc0 hd2 u5) hc0 (by decide) rfl rfl hx hb hml hown hts hE hW hS q679 q681 q14 q35 q682 hy_X1_pay ⟨rfl, rfl⟩ ⟨Nat.le_of_ble_eq_true rfl, Nat.le_of_ble_eq_true rfl⟩ rfl rfl hl.1 (Nat.le_of_ble_eq_true rfl) ⟨Nat.zero_le _, Nat.zero_le _⟩ dX1_play_17 (fun H locs hW hS => ?_)
    refine lv_iload_n hx hb dX1_play_20 rfl (lv_at hl 0 rfl) ?_
    refine lv_if_eq (tgt := 31) hx hb dX1_play_21 (by decide) (fun h7 => absurd h7 (by decide)) (fun h7 => ?_)
    refine lv_aload_n hx hb dX1_play_24 rfl (lv_at hl 3 rfl) ?_
    obtain ⟨y8, u9, hf⟩ := b1_e hf
    refine mV (k := d2) (q := (3, 0)) (C := RX3) (T := TX3) (N := 11) (ci := 3) (n := 0) (As := []) (rest := []) (c_X3_levelOnOffer l D t b d2 σ6 y8 hd2 u9) hd2 (by decide) rfl rfl hx hb hml hown hts hE hW hS q683 q684 q685 q37 q686 hy_X3_levelOnOffer ⟨rfl, rfl⟩ ⟨Nat.le_of_ble_eq_true rfl, Nat.le_of_ble_eq_true rfl⟩ rfl rfl hl.1 (Nat.le_of_ble_eq_true rfl) ⟨Nat.zero_le _, Nat.zero_le _⟩ dX1_play_25 (fun H locs hW hS => ?_)
    refine lv_goto (tgt := 32) hx hb dX1_play_28 (by decide) ?_
    refine lv_istore (lv' := [(4, .int y8), (3, .int 1), (0, .ref (b + c0)), (1, .int p1), (2, .ref (b + d2))]) hx hb dX1_play_32 hl (by decide) rfl (fun ls hl => ?_)
    refine lv_aload_n hx hb dX1_play_34 rfl (lv_at hl 2 rfl) ?_
    refine getF hx hb hta hown hE.1 hW hc0 12 (by decide) q194 rfl dX1_play_35 ?_
    refine getC hx hb hta hown hE.1 hW (shF_4 hc0) 5 (by decide) q82 rfl dX1_play_38 ?_
    refine lv_iload_n hx hb dX1_play_41 rfl (lv_at hl 3 rfl) ?_
    obtain ⟨g10, hf⟩ := gd_e hf
    refine iald hx hb hE.1 hW (shC_4 (shF_4 hc0)) g10 dX1_play_42 ?_
    refine lv_istore (lv' := [(5, .int (σ6 ((c0 + 4) + 4) (p1).toNatClampNeg)), (4, .int y8), (3, .int 1), (0, .ref (b + c0)), (1, .int p1), (2, .ref (b + d2))]) hx hb dX1_play_43 hl (by decide) rfl (fun ls hl => ?_)
    refine lv_iload hx hb dX1_play_45 (lv_at hl 1 rfl) ?_
    refine lv_iconst (v := (-1)) hx hb dX1_play_47 (by decide) ?_
    refine lv_icmp_ne (tgt := 55) hx hb dX1_play_48 (by decide) (fun h11 => ?_) (fun h11 => ?_)
    · have hf := ifn h11 hf
      refine lv_aload_n hx hb dX1_play_55 rfl (lv_at hl 5 rfl) ?_
      refine lv_iload hx hb dX1_play_56 (lv_at hl 1 rfl) ?_
      refine lv_iload hx hb dX1_play_58 (lv_at hl 0 rfl) ?_
      obtain ⟨y20, u21, hf⟩ := b1_e hf
      refine mV (k := d2) (q := (3, 0)) (C := RX3) (T := TX3) (N := 11) (ci := 3) (n := 2) (As := [.int y8, .int (σ6 ((c0 + 4) + 4) (p1).toNatClampNeg)]) (rest := []) (c_X3_colourOnOffer l D t b d2 σ6 y8 (σ6 ((c0 + 4) + 4) (p1).toNatClampNeg) y20 hd2 u21) hd2 (by decide) rfl rfl hx hb hml hown hts hE hW hS q687 q688 q689 q37 q690 hy_X3_colourOnOffer ⟨rfl, rfl⟩ ⟨Nat.le_of_ble_eq_true rfl, Nat.le_of_ble_eq_true rfl⟩ rfl rfl hl.1 (Nat.le_of_ble_eq_true rfl) ⟨Nat.zero_le _, Nat.zero_le _⟩ dX1_play_60 (fun H locs hW hS => ?_)
      refine lv_istore (lv' := [(6, .int y20), (5, .int (σ6 ((c0 + 4) + 4) (p1).toNatClampNeg)), (4, .int y8), (3, .int 1), (0, .ref (b + c0)), (1, .int p1), (2, .ref (b + d2))]) hx hb dX1_play_63 hl (by decide) rfl (fun ls hl => ?_)
      refine lv_iload hx hb dX1_play_65 (lv_at hl 0 rfl) ?_
      refine lv_iconst (v := (-1)) hx hb dX1_play_67 (by decide) ?_
      refine lv_icmp_eq (tgt := 108) hx hb dX1_play_68 (by decide) (fun h22 => ?_) (fun h22 => ?_)
      · have hf := ifp h22 hf
        refine lv_aload_n hx hb dX1_play_108 rfl (lv_at hl 4 rfl) ?_
        refine getF hx hb hta hown hE.1 hW hc0 12 (by decide) q194 rfl dX1_play_109 ?_
        refine lv_iload_n hx hb dX1_play_112 rfl (lv_at hl 5 rfl) ?_
        refine lv_aload_n hx hb dX1_play_113 rfl (lv_at hl 6 rfl) ?_
        refine getS hx hb hta hown hE.1 hW hd2 1 (by decide) q125 rfl dX1_play_114 ?_
        refine lv_iconst (v := 4) hx hb dX1_play_117 (by decide) ?_
        refine lv_icmp_ne (tgt := 126) hx hb dX1_play_118 (by decide) (fun h23 => ?_) (fun h23 => ?_)
        · have hf := ifn h23 hf
          refine lv_bipush (v := (-8)) hx hb dX1_play_126 (by decide) ?_
          obtain ⟨σ29, u28, hf⟩ := b1_e hf
          refine mV (k := (c0 + 4)) (q := (2, 0)) (C := RX0) (T := TX0) (N := 10) (ci := 0) (n := 2) (As := [.int p1, .int (-8)]) (rest := []) (c_X0_changeMood l D t b (c0 + 4) σ6 p1 (-8) σ29 (shF_4 hc0) u28) (shF_4 hc0) (by decide) rfl rfl hx hb hml hown hts hE hW hS q659 q660 q661 q36 q662 hy_X0_changeMood ⟨rfl, rfl⟩ ⟨Nat.le_of_ble_eq_true rfl, Nat.le_of_ble_eq_true rfl⟩ rfl rfl hl.1 (Nat.le_of_ble_eq_true rfl) ⟨Nat.zero_le _, Nat.zero_le _⟩ dX1_play_128 (fun H locs hW hS => ?_)
          cases hf
          exact W.vret hx hb hr (fun u hu _ => ⟨⟨rfl, by rw [hu]; exact hW⟩, hS.F hu⟩) hS.2.2 dX1_play_131
        · have hf := ifp h23 hf
          refine lv_bipush (v := 15) hx hb dX1_play_121 (by decide) ?_
          refine lv_goto (tgt := 128) hx hb dX1_play_123 (by decide) ?_
          obtain ⟨σ26, u25, hf⟩ := b1_e hf
          refine mV (k := (c0 + 4)) (q := (2, 0)) (C := RX0) (T := TX0) (N := 10) (ci := 0) (n := 2) (As := [.int p1, .int 15]) (rest := []) (c_X0_changeMood l D t b (c0 + 4) σ6 p1 15 σ26 (shF_4 hc0) u25) (shF_4 hc0) (by decide) rfl rfl hx hb hml hown hts hE hW hS q659 q660 q661 q36 q662 hy_X0_changeMood ⟨rfl, rfl⟩ ⟨Nat.le_of_ble_eq_true rfl, Nat.le_of_ble_eq_true rfl⟩ rfl rfl hl.1 (Nat.le_of_ble_eq_true rfl) ⟨Nat.zero_le _, Nat.zero_le _⟩ dX1_play_128 (fun H locs hW hS => ?_)
          cases hf
          exact W.vret hx hb hr (fun u hu _ => ⟨⟨rfl, by rw [hu]; exact hW⟩, hS.F hu⟩) hS.2.2 dX1_play_131
      · have hf := ifn h22 hf
        refine lv_aload_n hx hb dX1_play_71 rfl (lv_at hl 4 rfl) ?_
        refine lv_iload_n hx hb dX1_play_72 rfl (lv_at hl 5 rfl) ?_
        refine lv_aload_n hx hb dX1_play_73 rfl (lv_at hl 6 rfl) ?_
        refine lv_iload hx hb dX1_play_74 (lv_at hl 2 rfl) ?_
        refine lv_iload hx hb dX1_play_76 (lv_at hl 0 rfl) ?_
        obtain ⟨σ32, u31, hf⟩ := b1_e hf
        refine mV (k := c0) (q := (1, 0)) (C := RX1) (T := TX1) (N := 13) (ci := 1) (n := 4) (As := [.int p1, .ref (b + d2), .int y8, .int y20]) (rest := []) (c_X1_handOver l D t b c0 d2 σ6 p1 y8 y20 σ32 hc0 hd2 u31) hc0 (by decide) rfl rfl hx hb hml hown hts hE hW hS q691 q693 q15 q35 q694 hy_X1_handOver ⟨rfl, rfl⟩ ⟨Nat.le_of_ble_eq_true rfl, Nat.le_of_ble_eq_true rfl⟩ rfl rfl hl.1 (Nat.le_of_ble_eq_true rfl) ⟨Nat.zero_le _, Nat.zero_le _⟩ dX1_play_78 (fun H locs hW hS => ?_)
        refine lv_aload_n hx hb dX1_play_81 rfl (lv_at hl 4 rfl) ?_
        refine getF hx hb hta hown hE.1 hW hc0 12 (by decide) q194 rfl dX1_play_82 ?_
        refine lv_iload_n hx hb dX1_play_85 rfl (lv_at hl 5 rfl) ?_
        refine lv_bipush (v := 20) hx hb dX1_play_86 (by decide) ?_
        refine lv_iload hx hb dX1_play_88 (lv_at hl 0 rfl) ?_
        refine lv_iload hx hb dX1_play_90 (lv_at hl 1 rfl) ?_
        refine lv_icmp_ne (tgt := 100) hx hb dX1_play_92 (by decide) (fun h33 => ?_) (fun h33 => ?_)
        · have hf := ifn h33 hf
          refine lv_iconst (v := 0) hx hb dX1_play_100 (by decide) ?_
          refine lv_iadd hx hb dX1_play_101 ?_
          obtain ⟨σ39, u38, hf⟩ := b1_e hf
          refine mV (k := (c0 + 4)) (q := (2, 0)) (C := RX0) (T := TX0) (N := 10) (ci := 0) (n := 2) (As := [.int p1, .int (20 + 0)]) (rest := []) (c_X0_changeMood l D t b (c0 + 4) σ32 p1 (20 + 0) σ39 (shF_4 hc0) u38) (shF_4 hc0) (by decide) rfl rfl hx hb hml hown hts hE hW hS q659 q660 q661 q36 q662 hy_X0_changeMood ⟨rfl, rfl⟩ ⟨Nat.le_of_ble_eq_true rfl, Nat.le_of_ble_eq_true rfl⟩ rfl rfl hl.1 (Nat.le_of_ble_eq_true rfl) ⟨Nat.zero_le _, Nat.zero_le _⟩ dX1_play_102 (fun H locs hW hS => ?_)
          refine lv_goto (tgt := 131) hx hb dX1_play_105 (by decide) ?_
          cases hf
          exact W.vret hx hb hr (fun u hu _ => ⟨⟨rfl, by rw [hu]; exact hW⟩, hS.F hu⟩) hS.2.2 dX1_play_131
        · have hf := ifp h33 hf
          refine lv_bipush (v := 10) hx hb dX1_play_95 (by decide) ?_
          refine lv_goto (tgt := 101) hx hb dX1_play_97 (by decide) ?_
          refine lv_iadd hx hb dX1_play_101 ?_
          obtain ⟨σ36, u35, hf⟩ := b1_e hf
          refine mV (k := (c0 + 4)) (q := (2, 0)) (C := RX0) (T := TX0) (N := 10) (ci := 0) (n := 2) (As := [.int p1, .int (20 + 10)]) (rest := []) (c_X0_changeMood l D t b (c0 + 4) σ32 p1 (20 + 10) σ36 (shF_4 hc0) u35) (shF_4 hc0) (by decide) rfl rfl hx hb hml hown hts hE hW hS q659 q660 q661 q36 q662 hy_X0_changeMood ⟨rfl, rfl⟩ ⟨Nat.le_of_ble_eq_true rfl, Nat.le_of_ble_eq_true rfl⟩ rfl rfl hl.1 (Nat.le_of_ble_eq_true rfl) ⟨Nat.zero_le _, Nat.zero_le _⟩ dX1_play_102 (fun H locs hW hS => ?_)
          refine lv_goto (tgt := 131) hx hb dX1_play_105 (by decide) ?_
          cases hf
          exact W.vret hx hb hr (fun u hu _ => ⟨⟨rfl, by rw [hu]; exact hW⟩, hS.F hu⟩) hS.2.2 dX1_play_131
    · have hf := ifp h11 hf
      refine lv_iconst (v := (-1)) hx hb dX1_play_51 (by decide) ?_
      refine lv_goto (tgt := 63) hx hb dX1_play_52 (by decide) ?_
      refine lv_istore (lv' := [(6, .int (-1)), (5, .int (σ6 ((c0 + 4) + 4) (p1).toNatClampNeg)), (4, .int y8), (3, .int 1), (0, .ref (b + c0)), (1, .int p1), (2, .ref (b + d2))]) hx hb dX1_play_63 hl (by decide) rfl (fun ls hl => ?_)
      refine lv_iload hx hb dX1_play_65 (lv_at hl 0 rfl) ?_
      refine lv_iconst (v := (-1)) hx hb dX1_play_67 (by decide) ?_
      refine lv_icmp_eq (tgt := 108) hx hb dX1_play_68 (by decide) (fun h12 => ?_) (fun h12 => absurd h12 (by decide))
      refine lv_aload_n hx hb dX1_play_108 rfl (lv_at hl 4 rfl) ?_
      refine getF hx hb hta hown hE.1 hW hc0 12 (by decide) q194 rfl dX1_play_109 ?_
      refine lv_iload_n hx hb dX1_play_112 rfl (lv_at hl 5 rfl) ?_
      refine lv_aload_n hx hb dX1_play_113 rfl (lv_at hl 6 rfl) ?_
      refine getS hx hb hta hown hE.1 hW hd2 1 (by decide) q125 rfl dX1_play_114 ?_
      refine lv_iconst (v := 4) hx hb dX1_play_117 (by decide) ?_
      refine lv_icmp_ne (tgt := 126) hx hb dX1_play_118 (by decide) (fun h13 => ?_) (fun h13 => ?_)
      · have hf := ifn h13 hf
        refine lv_bipush (v := (-8)) hx hb dX1_play_126 (by decide) ?_
        obtain ⟨σ19, u18, hf⟩ := b1_e hf
        refine mV (k := (c0 + 4)) (q := (2, 0)) (C := RX0) (T := TX0) (N := 10) (ci := 0) (n := 2) (As := [.int p1, .int (-8)]) (rest := []) (c_X0_changeMood l D t b (c0 + 4) σ6 p1 (-8) σ19 (shF_4 hc0) u18) (shF_4 hc0) (by decide) rfl rfl hx hb hml hown hts hE hW hS q659 q660 q661 q36 q662 hy_X0_changeMood ⟨rfl, rfl⟩ ⟨Nat.le_of_ble_eq_true rfl, Nat.le_of_ble_eq_true rfl⟩ rfl rfl hl.1 (Nat.le_of_ble_eq_true rfl) ⟨Nat.zero_le _, Nat.zero_le _⟩ dX1_play_128 (fun H locs hW hS => ?_)
        cases hf
        exact W.vret hx hb hr (fun u hu _ => ⟨⟨rfl, by rw [hu]; exact hW⟩, hS.F hu⟩) hS.2.2 dX1_play_131
      · have hf := ifp h13 hf
        refine lv_bipush (v := 15) hx hb dX1_play_121 (by decide) ?_
        refine lv_goto (tgt := 128) hx hb dX1_play_123 (by decide) ?_
        obtain ⟨σ16, u15, hf⟩ := b1_e hf
        refine mV (k := (c0 + 4)) (q := (2, 0)) (C := RX0) (T := TX0) (N := 10) (ci := 0) (n := 2) (As := [.int p1, .int 15]) (rest := []) (c_X0_changeMood l D t b (c0 + 4) σ6 p1 15 σ16 (shF_4 hc0) u15) (shF_4 hc0) (by decide) rfl rfl hx hb hml hown hts hE hW hS q659 q660 q661 q36 q662 hy_X0_changeMood ⟨rfl, rfl⟩ ⟨Nat.le_of_ble_eq_true rfl, Nat.le_of_ble_eq_true rfl⟩ rfl rfl hl.1 (Nat.le_of_ble_eq_true rfl) ⟨Nat.zero_le _, Nat.zero_le _⟩ dX1_play_128 (fun H locs hW hS => ?_)
        cases hf
        exact W.vret hx hb hr (fun u hu _ => ⟨⟨rfl, by rw [hu]; exact hW⟩, hS.F hu⟩) hS.2.2 dX1_play_131
def f_X0_moveOn (c0 : Nat) (σ : Sg) (p1 : Int32) : Option Sg := gd p1 200 (st (u2 σ (c0 + 7) (p1).toNatClampNeg 0) fun σ2 => if (σ2 (c0 + 5) (p1).toNatClampNeg) = 11 then (st (u2 σ2 (c0 + 6) (p1).toNatClampNeg (-1)) fun σ5 => if 0 ≤ ((σ5 (c0 + 5) (p1).toNatClampNeg) + (σ5 (c0 + 6) (p1).toNatClampNeg)) then (st (u2 σ5 (c0 + 5) (p1).toNatClampNeg ((σ5 (c0 + 5) (p1).toNatClampNeg) + (σ5 (c0 + 6) (p1).toNatClampNeg))) fun σ8 => some σ8) else (b1 (f_X0_goHome c0 σ5 p1) fun σ12 => some σ12)) else (if 0 ≤ ((σ2 (c0 + 5) (p1).toNatClampNeg) + (σ2 (c0 + 6) (p1).toNatClampNeg)) then (st (u2 σ2 (c0 + 5) (p1).toNatClampNeg ((σ2 (c0 + 5) (p1).toNatClampNeg) + (σ2 (c0 + 6) (p1).toNatClampNeg))) fun σ14 => some σ14) else (b1 (f_X0_goHome c0 σ2 p1) fun σ18 => some σ18)))
set_option maxHeartbeats 4000000 in
set_option maxRecDepth 100000 in
theorem c_X0_moveOn (l : Launch) (D : va_G) (t : Nat → ClassId) (b : Nat) (c0 : Nat) (σ : Sg) (p1 : Int32) (σr : Sg) (hc0 : sh c0 = (2, 0)) (hf : f_X0_moveOn c0 σ p1 = some σr) : Met l yX0_moveOn (Cond.code yX0_moveOn cX0_moveOn 3 none :: ALL) ({ frames := 1, cells := 0, slots := 0, locals := 21 }) (PM D t b σ [.ref (b + c0), .int p1]) (QG D t b σr none) 0 0 (geA b) := by
  refine Met.ofW (cc := cX0_moveOn) (maxL := 3) (ret := none) (by decide) rfl ?_
  intro p e s m args below meth c s₁ B hml hv
  obtain ⟨rfl, hW, hE⟩ := hv
  have hx := B.exec
  have hb := B.bytes
  have hr := B.returns
  have hts := atoms_spec (ws := Cond.code yX0_moveOn cX0_moveOn 3 none :: ALL) B.pre
  have hta := fun w h => hts w (List.mem_cons_of_mem _ h)
  have hown : s.vm.findClass RX0 = some m.cls := findClass_of_methodNamed B.named
  have hlocks := B.notSynchronized
  have hS : va_S (geA b) s.heap s.heap [] := va_S.rf
  have hl := lv_entry ([.ref (b + c0), .int p1]) (n := 3) (Nat.le_of_ble_eq_true rfl)
  rw [lg_entry_eq]
  generalize (lg_sl ([.ref (b + c0), .int p1]) ++ List.replicate (3 - (lg_sl ([.ref (b + c0), .int p1])).length) Slot.unset).toArray = ls at hl ⊢
  have hl : lv_has ls 3 [(0, .ref (b + c0)), (1, .int p1)] := hl
  unfold f_X0_moveOn at hf
  refine lv_aload_n hx hb dX0_moveOn_0 rfl (lv_at hl 0 rfl) ?_
  refine getC hx hb hta hown hE.1 hW hc0 8 (by decide) q88 rfl dX0_moveOn_1 ?_
  refine lv_iload_n hx hb dX0_moveOn_4 rfl (lv_at hl 1 rfl) ?_
  refine lv_iconst (v := 0) hx hb dX0_moveOn_5 (by decide) ?_
  obtain ⟨g1, hf⟩ := gd_e hf
  refine iast (k := (c0 + 7)) (i := p1) (x := 0) hx hb hE.1 hW hS (shC_7 hc0) g1 dX0_moveOn_6 (fun H locs hW hS => ?_)
  obtain ⟨σ2, e3, hf⟩ := st_e hf
  rw [e3] at hW
  refine lv_aload_n hx hb dX0_moveOn_7 rfl (lv_at hl 0 rfl) ?_
  refine getC hx hb hta hown hE.1 hW hc0 6 (by decide) q83 rfl dX0_moveOn_8 ?_
  refine lv_iload_n hx hb dX0_moveOn_11 rfl (lv_at hl 1 rfl) ?_
  refine iald hx hb hE.1 hW (shC_5 hc0) g1 dX0_moveOn_12 ?_
  refine lv_bipush (v := 11) hx hb dX0_moveOn_13 (by decide) ?_
  refine lv_icmp_ne (tgt := 25) hx hb dX0_moveOn_15 (by decide) (fun h4 => ?_) (fun h4 => ?_)
  · have hf := ifn h4 hf
    refine lv_aload_n hx hb dX0_moveOn_25 rfl (lv_at hl 0 rfl) ?_
    refine getC hx hb hta hown hE.1 hW hc0 6 (by decide) q83 rfl dX0_moveOn_26 ?_
    refine lv_iload_n hx hb dX0_moveOn_29 rfl (lv_at hl 1 rfl) ?_
    refine iald hx hb hE.1 hW (shC_5 hc0) g1 dX0_moveOn_30 ?_
    refine lv_aload_n hx hb dX0_moveOn_31 rfl (lv_at hl 0 rfl) ?_
    refine getC hx hb hta hown hE.1 hW hc0 7 (by decide) q86 rfl dX0_moveOn_32 ?_
    refine lv_iload_n hx hb dX0_moveOn_35 rfl (lv_at hl 1 rfl) ?_
    refine iald hx hb hE.1 hW (shC_6 hc0) g1 dX0_moveOn_36 ?_
    refine lv_iadd hx hb dX0_moveOn_37 ?_
    refine lv_istore_n (lv' := [(2, .int ((σ2 (c0 + 5) (p1).toNatClampNeg) + (σ2 (c0 + 6) (p1).toNatClampNeg))), (0, .ref (b + c0)), (1, .int p1)]) hx hb dX0_moveOn_38 rfl hl (by decide) rfl (fun ls hl => ?_)
    refine lv_iload_n hx hb dX0_moveOn_39 rfl (lv_at hl 0 rfl) ?_
    refine lv_if_ge (tgt := 51) hx hb dX0_moveOn_40 (by decide) (fun h13 => ?_) (fun h13 => ?_)
    · have hf := ifp h13 hf
      refine lv_aload_n hx hb dX0_moveOn_51 rfl (lv_at hl 1 rfl) ?_
      refine getC hx hb hta hown hE.1 hW hc0 6 (by decide) q83 rfl dX0_moveOn_52 ?_
      refine lv_iload_n hx hb dX0_moveOn_55 rfl (lv_at hl 2 rfl) ?_
      refine lv_iload_n hx hb dX0_moveOn_56 rfl (lv_at hl 0 rfl) ?_
      refine iast (k := (c0 + 5)) (i := p1) (x := ((σ2 (c0 + 5) (p1).toNatClampNeg) + (σ2 (c0 + 6) (p1).toNatClampNeg))) hx hb hE.1 hW hS (shC_5 hc0) g1 dX0_moveOn_57 (fun H locs hW hS => ?_)
      obtain ⟨σ14, e15, hf⟩ := st_e hf
      rw [e15] at hW
      cases hf
      exact W.vret hx hb hr (fun u hu _ => ⟨⟨rfl, by rw [hu]; exact hW⟩, hS.F hu⟩) hS.2.2 dX0_moveOn_58
    · have hf := ifn h13 hf
      refine lv_aload_n hx hb dX0_moveOn_43 rfl (lv_at hl 1 rfl) ?_
      refine lv_iload_n hx hb dX0_moveOn_44 rfl (lv_at hl 2 rfl) ?_
      obtain ⟨σ18, u17, hf⟩ := b1_e hf
      refine mV (k := c0) (q := (2, 0)) (C := RX0) (T := TX0) (N := 10) (ci := 0) (n := 1) (As := [.int p1]) (rest := []) (c_X0_goHome l D t b c0 σ2 p1 σ18 hc0 u17) hc0 (by decide) rfl rfl hx hb hml hown hts hE hW hS q699 q664 q665 q36 q666 hy_X0_goHome ⟨rfl, rfl⟩ ⟨Nat.le_of_ble_eq_true rfl, Nat.le_of_ble_eq_true rfl⟩ rfl rfl hl.1 (Nat.le_of_ble_eq_true rfl) ⟨Nat.zero_le _, Nat.zero_le _⟩ dX0_moveOn_45 (fun H locs hW hS => ?_)
      refine lv_goto (tgt := 58) hx hb dX0_moveOn_48 (by decide) ?_
      cases hf
      exact W.vret hx hb hr (fun u hu _ => ⟨⟨rfl, by rw [hu]; exact hW⟩, hS.F hu⟩) hS.2.2 dX0_moveOn_58
  · have hf := ifp h4 hf
    refine lv_aload_n hx hb dX0_moveOn_18 rfl (lv_at hl 0 rfl) ?_
    refine getC hx hb hta hown hE.1 hW hc0 7 (by decide) q86 rfl dX0_moveOn_19 ?_
    refine lv_iload_n hx hb dX0_moveOn_22 rfl (lv_at hl 1 rfl) ?_
    refine lv_iconst (v := (-1)) hx hb dX0_moveOn_23 (by decide) ?_
    refine iast (k := (c0 + 6)) (i := p1) (x := (-1)) hx hb hE.1 hW hS (shC_6 hc0) g1 dX0_moveOn_24 (fun H locs hW hS => ?_)
    obtain ⟨σ5, e6, hf⟩ := st_e hf
    rw [e6] at hW
    refine lv_aload_n hx hb dX0_moveOn_25 rfl (lv_at hl 0 rfl) ?_
    refine getC hx hb hta hown hE.1 hW hc0 6 (by decide) q83 rfl dX0_moveOn_26 ?_
    refine lv_iload_n hx hb dX0_moveOn_29 rfl (lv_at hl 1 rfl) ?_
    refine iald hx hb hE.1 hW (shC_5 hc0) g1 dX0_moveOn_30 ?_
    refine lv_aload_n hx hb dX0_moveOn_31 rfl (lv_at hl 0 rfl) ?_
    refine getC hx hb hta hown hE.1 hW hc0 7 (by decide) q86 rfl dX0_moveOn_32 ?_
    refine lv_iload_n hx hb dX0_moveOn_35 rfl (lv_at hl 1 rfl) ?_
    refine iald hx hb hE.1 hW (shC_6 hc0) g1 dX0_moveOn_36 ?_
    refine lv_iadd hx hb dX0_moveOn_37 ?_
    refine lv_istore_n (lv' := [(2, .int ((σ5 (c0 + 5) (p1).toNatClampNeg) + (σ5 (c0 + 6) (p1).toNatClampNeg))), (0, .ref (b + c0)), (1, .int p1)]) hx hb dX0_moveOn_38 rfl hl (by decide) rfl (fun ls hl => ?_)
    refine lv_iload_n hx hb dX0_moveOn_39 rfl (lv_at hl 0 rfl) ?_
    refine lv_if_ge (tgt := 51) hx hb dX0_moveOn_40 (by decide) (fun h7 => ?_) (fun h7 => ?_)
    · have hf := ifp h7 hf
      refine lv_aload_n hx hb dX0_moveOn_51 rfl (lv_at hl 1 rfl) ?_
      refine getC hx hb hta hown hE.1 hW hc0 6 (by decide) q83 rfl dX0_moveOn_52 ?_
      refine lv_iload_n hx hb dX0_moveOn_55 rfl (lv_at hl 2 rfl) ?_
      refine lv_iload_n hx hb dX0_moveOn_56 rfl (lv_at hl 0 rfl) ?_
      refine iast (k := (c0 + 5)) (i := p1) (x := ((σ5 (c0 + 5) (p1).toNatClampNeg) + (σ5 (c0 + 6) (p1).toNatClampNeg))) hx hb hE.1 hW hS (shC_5 hc0) g1 dX0_moveOn_57 (fun H locs hW hS => ?_)
      obtain ⟨σ8, e9, hf⟩ := st_e hf
      rw [e9] at hW
      cases hf
      exact W.vret hx hb hr (fun u hu _ => ⟨⟨rfl, by rw [hu]; exact hW⟩, hS.F hu⟩) hS.2.2 dX0_moveOn_58
    · have hf := ifn h7 hf
      refine lv_aload_n hx hb dX0_moveOn_43 rfl (lv_at hl 1 rfl) ?_
      refine lv_iload_n hx hb dX0_moveOn_44 rfl (lv_at hl 2 rfl) ?_
      obtain ⟨σ12, u11, hf⟩ := b1_e hf
      refine mV (k := c0) (q := (2, 0)) (C := RX0) (T := TX0) (N := 10) (ci := 0) (n := 1) (As := [.int p1]) (rest := []) (c_X0_goHome l D t b c0 σ5 p1 σ12 hc0 u11) hc0 (by decide) rfl rfl hx hb hml hown hts hE hW hS q699 q664 q665 q36 q666 hy_X0_goHome ⟨rfl, rfl⟩ ⟨Nat.le_of_ble_eq_true rfl, Nat.le_of_ble_eq_true rfl⟩ rfl rfl hl.1 (Nat.le_of_ble_eq_true rfl) ⟨Nat.zero_le _, Nat.zero_le _⟩ dX0_moveOn_45 (fun H locs hW hS => ?_)
      refine lv_goto (tgt := 58) hx hb dX0_moveOn_48 (by decide) ?_
      cases hf
      exact W.vret hx hb hr (fun u hu _ => ⟨⟨rfl, by rw [hu]; exact hW⟩, hS.F hu⟩) hS.2.2 dX0_moveOn_58
def f_X1_takeTurn (c0 : Nat) (σ : Sg) (p1 : Int32) (p2 : Int32) : Option Sg := gd p1 200 (b1 (f_X1_openStallOn c0 σ (σ ((c0 + 4) + 5) (p1).toNatClampNeg)) fun y2 => if y2 = 0 then (b1 (f_X0_changeMood (c0 + 4) σ p1 (-(p2 / 2))) fun σ8 => if (σ8 ((c0 + 4) + 2) (p1).toNatClampNeg) = 0 then (b1 (f_X0_goHome (c0 + 4) σ8 p1) fun σ12 => some σ12) else (b1 (f_X0_moveOn (c0 + 4) σ8 p1) fun σ15 => some σ15)) else (sg y2 3 (if (σ y2 3) = 0 then (b1 (f_X0_changeMood (c0 + 4) σ p1 (-(p2 / 2))) fun σ19 => if (σ19 ((c0 + 4) + 2) (p1).toNatClampNeg) = 0 then (b1 (f_X0_goHome (c0 + 4) σ19 p1) fun σ23 => some σ23) else (if (σ19 y2 9) = 0 then (b1 (f_X0_reasonAgainst (c0 + 4) y2 σ19 p1) fun y25 => if y25 = 0 then (b1 (f_X1_play c0 y2 σ19 p1) fun σ30 => some σ30) else (b1 (f_X0_moveOn (c0 + 4) σ19 p1) fun σ33 => some σ33)) else (b1 (f_X0_moveOn (c0 + 4) σ19 p1) fun σ36 => some σ36))) else (if (σ ((c0 + 4) + 2) (p1).toNatClampNeg) = 0 then (b1 (f_X0_goHome (c0 + 4) σ p1) fun σ40 => some σ40) else (if (σ y2 9) = 0 then (b1 (f_X0_reasonAgainst (c0 + 4) y2 σ p1) fun y42 => if y42 = 0 then (b1 (f_X1_play c0 y2 σ p1) fun σ47 => some σ47) else (b1 (f_X0_moveOn (c0 + 4) σ p1) fun σ50 => some σ50)) else (b1 (f_X0_moveOn (c0 + 4) σ p1) fun σ53 => some σ53))))))
set_option maxHeartbeats 4000000 in
set_option maxRecDepth 100000 in
theorem c_X1_takeTurn (l : Launch) (D : va_G) (t : Nat → ClassId) (b : Nat) (c0 : Nat) (σ : Sg) (p1 : Int32) (p2 : Int32) (σr : Sg) (hc0 : sh c0 = (1, 0)) (hf : f_X1_takeTurn c0 σ p1 p2 = some σr) : Met l yX1_takeTurn (Cond.code yX1_takeTurn cX1_takeTurn 4 none :: ALL) ({ frames := 2, cells := 0, slots := 0, locals := 50 }) (PM D t b σ [.ref (b + c0), .int p1, .int p2]) (QG D t b σr none) 0 0 (geA b) := by
  refine Met.ofW (cc := cX1_takeTurn) (maxL := 4) (ret := none) (by decide) rfl ?_
  intro p e s m args below meth c s₁ B hml hv
  obtain ⟨rfl, hW, hE⟩ := hv
  have hx := B.exec
  have hb := B.bytes
  have hr := B.returns
  have hts := atoms_spec (ws := Cond.code yX1_takeTurn cX1_takeTurn 4 none :: ALL) B.pre
  have hta := fun w h => hts w (List.mem_cons_of_mem _ h)
  have hown : s.vm.findClass RX1 = some m.cls := findClass_of_methodNamed B.named
  have hlocks := B.notSynchronized
  have hS : va_S (geA b) s.heap s.heap [] := va_S.rf
  have hl := lv_entry ([.ref (b + c0), .int p1, .int p2]) (n := 4) (Nat.le_of_ble_eq_true rfl)
  rw [lg_entry_eq]
  generalize (lg_sl ([.ref (b + c0), .int p1, .int p2]) ++ List.replicate (4 - (lg_sl ([.ref (b + c0), .int p1, .int p2])).length) Slot.unset).toArray = ls at hl ⊢
  have hl : lv_has ls 4 [(0, .ref (b + c0)), (1, .int p1), (2, .int p2)] := hl
  unfold f_X1_takeTurn at hf
  refine lv_aload_n hx hb dX1_takeTurn_0 rfl (lv_at hl 0 rfl) ?_
  refine lv_aload_n hx hb dX1_takeTurn_1 rfl (lv_at hl 0 rfl) ?_
  refine getF hx hb hta hown hE.1 hW hc0 12 (by decide) q194 rfl dX1_takeTurn_2 ?_
  refine getC hx hb hta hown hE.1 hW (shF_4 hc0) 6 (by decide) q84 rfl dX1_takeTurn_5 ?_
  refine lv_iload_n hx hb dX1_takeTurn_8 rfl (lv_at hl 1 rfl) ?_
  obtain ⟨g1, hf⟩ := gd_e hf
  refine iald hx hb hE.1 hW (shC_5 (shF_4 hc0)) g1 dX1_takeTurn_9 ?_
  obtain ⟨y2, u3, hf⟩ := b1_e hf
  refine mV (k := c0) (q := (1, 0)) (C := RX1) (T := TX1) (N := 13) (ci := 1) (n := 1) (As := [.int (σ ((c0 + 4) + 5) (p1).toNatClampNeg)]) (rest := []) (c_X1_openStallOn l D t b c0 σ (σ ((c0 + 4) + 5) (p1).toNatClampNeg) y2 hc0 u3) hc0 (by decide) rfl rfl hx hb hml hown hts hE hW hS q655 q656 q657 q35 q658 hy_X1_openStallOn ⟨rfl, rfl⟩ ⟨Nat.le_of_ble_eq_true rfl, Nat.le_of_ble_eq_true rfl⟩ rfl rfl hl.1 (Nat.le_of_ble_eq_true rfl) ⟨Nat.zero_le _, Nat.zero_le _⟩ dX1_takeTurn_10 (fun H locs hW hS => ?_)
  by_cases h4 : y2 = 0
  · have hf := ifp h4 hf
    rw [show (nrv b y2) = .null from if_pos h4]
    refine lv_astore_nN (lv' := [(3, .null), (0, .ref (b + c0)), (1, .int p1), (2, .int p2)]) hx hb dX1_takeTurn_13 rfl hl (by decide) rfl (fun ls hl => ?_)
    refine lv_aload_nN hx hb dX1_takeTurn_14 rfl (lv_at hl 0 rfl) ?_
    refine lv_ifnullN (tgt := 25) hx hb dX1_takeTurn_15 (by decide) ?_
    refine lv_aload_n hx hb dX1_takeTurn_25 rfl (lv_at hl 1 rfl) ?_
    refine getF hx hb hta hown hE.1 hW hc0 12 (by decide) q194 rfl dX1_takeTurn_26 ?_
    refine lv_iload_n hx hb dX1_takeTurn_29 rfl (lv_at hl 2 rfl) ?_
    refine lv_iload_n hx hb dX1_takeTurn_30 rfl (lv_at hl 3 rfl) ?_
    refine lv_iconst (v := 2) hx hb dX1_takeTurn_31 (by decide) ?_
    refine lv_idiv hx hb dX1_takeTurn_32 (by decide) ?_
    refine lv_ineg hx hb dX1_takeTurn_33 ?_
    obtain ⟨σ8, u7, hf⟩ := b1_e hf
    refine mV (k := (c0 + 4)) (q := (2, 0)) (C := RX0) (T := TX0) (N := 10) (ci := 0) (n := 2) (As := [.int p1, .int (-(p2 / 2))]) (rest := []) (c_X0_changeMood l D t b (c0 + 4) σ p1 (-(p2 / 2)) σ8 (shF_4 hc0) u7) (shF_4 hc0) (by decide) rfl rfl hx hb hml hown hts hE hW hS q659 q660 q661 q36 q662 hy_X0_changeMood ⟨rfl, rfl⟩ ⟨Nat.le_of_ble_eq_true rfl, Nat.le_of_ble_eq_true rfl⟩ rfl rfl hl.1 (Nat.le_of_ble_eq_true rfl) ⟨Nat.zero_le _, Nat.zero_le _⟩ dX1_takeTurn_34 (fun H locs hW hS => ?_)
    refine lv_aload_n hx hb dX1_takeTurn_37 rfl (lv_at hl 1 rfl) ?_
    refine getF hx hb hta hown hE.1 hW hc0 12 (by decide) q194 rfl dX1_takeTurn_38 ?_
    refine getC hx hb hta hown hE.1 hW (shF_4 hc0) 3 (by decide) q78 rfl dX1_takeTurn_41 ?_
    refine lv_iload_n hx hb dX1_takeTurn_44 rfl (lv_at hl 2 rfl) ?_
    refine iald hx hb hE.1 hW (shC_2 (shF_4 hc0)) g1 dX1_takeTurn_45 ?_
    refine lv_if_ne (tgt := 60) hx hb dX1_takeTurn_46 (by decide) (fun h9 => ?_) (fun h9 => ?_)
    · have hf := ifn h9 hf
      refine lv_aload_nN hx hb dX1_takeTurn_60 rfl (lv_at hl 0 rfl) ?_
      refine lv_ifnullN (tgt := 92) hx hb dX1_takeTurn_61 (by decide) ?_
      refine lv_aload_n hx hb dX1_takeTurn_92 rfl (lv_at hl 1 rfl) ?_
      refine getF hx hb hta hown hE.1 hW hc0 12 (by decide) q194 rfl dX1_takeTurn_93 ?_
      refine lv_iload_n hx hb dX1_takeTurn_96 rfl (lv_at hl 2 rfl) ?_
      obtain ⟨σ15, u14, hf⟩ := b1_e hf
      refine mV (k := (c0 + 4)) (q := (2, 0)) (C := RX0) (T := TX0) (N := 10) (ci := 0) (n := 1) (As := [.int p1]) (rest := []) (c_X0_moveOn l D t b (c0 + 4) σ8 p1 σ15 (shF_4 hc0) u14) (shF_4 hc0) (by decide) rfl rfl hx hb hml hown hts hE hW hS q695 q696 q697 q36 q698 hy_X0_moveOn ⟨rfl, rfl⟩ ⟨Nat.le_of_ble_eq_true rfl, Nat.le_of_ble_eq_true rfl⟩ rfl rfl hl.1 (Nat.le_of_ble_eq_true rfl) ⟨Nat.zero_le _, Nat.zero_le _⟩ dX1_takeTurn_97 (fun H locs hW hS => ?_)
      cases hf
      exact W.vret hx hb hr (fun u hu _ => ⟨⟨rfl, by rw [hu]; exact hW⟩, hS.F hu⟩) hS.2.2 dX1_takeTurn_100
    · have hf := ifp h9 hf
      refine lv_aload_n hx hb dX1_takeTurn_49 rfl (lv_at hl 1 rfl) ?_
      refine getF hx hb hta hown hE.1 hW hc0 12 (by decide) q194 rfl dX1_takeTurn_50 ?_
      refine lv_iload_n hx hb dX1_takeTurn_53 rfl (lv_at hl 2 rfl) ?_
      obtain ⟨σ12, u11, hf⟩ := b1_e hf
      refine mV (k := (c0 + 4)) (q := (2, 0)) (C := RX0) (T := TX0) (N := 10) (ci := 0) (n := 1) (As := [.int p1]) (rest := []) (c_X0_goHome l D t b (c0 + 4) σ8 p1 σ12 (shF_4 hc0) u11) (shF_4 hc0) (by decide) rfl rfl hx hb hml hown hts hE hW hS q663 q664 q665 q36 q666 hy_X0_goHome ⟨rfl, rfl⟩ ⟨Nat.le_of_ble_eq_true rfl, Nat.le_of_ble_eq_true rfl⟩ rfl rfl hl.1 (Nat.le_of_ble_eq_true rfl) ⟨Nat.zero_le _, Nat.zero_le _⟩ dX1_takeTurn_54 (fun H locs hW hS => ?_)
      refine lv_goto (tgt := 100) hx hb dX1_takeTurn_57 (by decide) ?_
      cases hf
      exact W.vret hx hb hr (fun u hu _ => ⟨⟨rfl, by rw [hu]; exact hW⟩, hS.F hu⟩) hS.2.2 dX1_takeTurn_100
  · have hf := ifn h4 hf
    obtain ⟨g5, hf⟩ := sg_e hf
    rw [show (nrv b y2) = .ref (b + y2) from if_neg h4]
    refine lv_astore_n (lv' := [(3, .ref (b + y2)), (0, .ref (b + c0)), (1, .int p1), (2, .int p2)]) hx hb dX1_takeTurn_13 rfl hl (by decide) rfl (fun ls hl => ?_)
    refine lv_aload_n hx hb dX1_takeTurn_14 rfl (lv_at hl 0 rfl) ?_
    refine lv_ifnull hx hb dX1_takeTurn_15 ?_
    refine lv_aload_n hx hb dX1_takeTurn_18 rfl (lv_at hl 0 rfl) ?_
    refine getS hx hb hta hown hE.1 hW g5 3 (by decide) q131 rfl dX1_takeTurn_19 ?_
    refine lv_if_ne (tgt := 37) hx hb dX1_takeTurn_22 (by decide) (fun h16 => ?_) (fun h16 => ?_)
    · have hf := ifn h16 hf
      refine lv_aload_n hx hb dX1_takeTurn_37 rfl (lv_at hl 1 rfl) ?_
      refine getF hx hb hta hown hE.1 hW hc0 12 (by decide) q194 rfl dX1_takeTurn_38 ?_
      refine getC hx hb hta hown hE.1 hW (shF_4 hc0) 3 (by decide) q78 rfl dX1_takeTurn_41 ?_
      refine lv_iload_n hx hb dX1_takeTurn_44 rfl (lv_at hl 2 rfl) ?_
      refine iald hx hb hE.1 hW (shC_2 (shF_4 hc0)) g1 dX1_takeTurn_45 ?_
      refine lv_if_ne (tgt := 60) hx hb dX1_takeTurn_46 (by decide) (fun h37 => ?_) (fun h37 => ?_)
      · have hf := ifn h37 hf
        refine lv_aload_n hx hb dX1_takeTurn_60 rfl (lv_at hl 0 rfl) ?_
        refine lv_ifnull hx hb dX1_takeTurn_61 ?_
        refine lv_aload_n hx hb dX1_takeTurn_64 rfl (lv_at hl 0 rfl) ?_
        refine getS hx hb hta hown hE.1 hW g5 9 (by decide) q143 rfl dX1_takeTurn_65 ?_
        refine lv_if_ne (tgt := 92) hx hb dX1_takeTurn_68 (by decide) (fun h41 => ?_) (fun h41 => ?_)
        · have hf := ifn h41 hf
          refine lv_aload_n hx hb dX1_takeTurn_92 rfl (lv_at hl 1 rfl) ?_
          refine getF hx hb hta hown hE.1 hW hc0 12 (by decide) q194 rfl dX1_takeTurn_93 ?_
          refine lv_iload_n hx hb dX1_takeTurn_96 rfl (lv_at hl 2 rfl) ?_
          obtain ⟨σ53, u52, hf⟩ := b1_e hf
          refine mV (k := (c0 + 4)) (q := (2, 0)) (C := RX0) (T := TX0) (N := 10) (ci := 0) (n := 1) (As := [.int p1]) (rest := []) (c_X0_moveOn l D t b (c0 + 4) σ p1 σ53 (shF_4 hc0) u52) (shF_4 hc0) (by decide) rfl rfl hx hb hml hown hts hE hW hS q695 q696 q697 q36 q698 hy_X0_moveOn ⟨rfl, rfl⟩ ⟨Nat.le_of_ble_eq_true rfl, Nat.le_of_ble_eq_true rfl⟩ rfl rfl hl.1 (Nat.le_of_ble_eq_true rfl) ⟨Nat.zero_le _, Nat.zero_le _⟩ dX1_takeTurn_97 (fun H locs hW hS => ?_)
          cases hf
          exact W.vret hx hb hr (fun u hu _ => ⟨⟨rfl, by rw [hu]; exact hW⟩, hS.F hu⟩) hS.2.2 dX1_takeTurn_100
        · have hf := ifp h41 hf
          refine lv_aload_n hx hb dX1_takeTurn_71 rfl (lv_at hl 1 rfl) ?_
          refine getF hx hb hta hown hE.1 hW hc0 12 (by decide) q194 rfl dX1_takeTurn_72 ?_
          refine lv_iload_n hx hb dX1_takeTurn_75 rfl (lv_at hl 2 rfl) ?_
          refine lv_aload_n hx hb dX1_takeTurn_76 rfl (lv_at hl 0 rfl) ?_
          obtain ⟨y42, u43, hf⟩ := b1_e hf
          refine mV (k := (c0 + 4)) (q := (2, 0)) (C := RX0) (T := TX0) (N := 10) (ci := 0) (n := 2) (As := [.int p1, .ref (b + y2)]) (rest := []) (c_X0_reasonAgainst l D t b (c0 + 4) y2 σ p1 y42 (shF_4 hc0) g5 u43) (shF_4 hc0) (by decide) rfl rfl hx hb hml hown hts hE hW hS q667 q668 q669 q36 q670 hy_X0_reasonAgainst ⟨rfl, rfl⟩ ⟨Nat.le_of_ble_eq_true rfl, Nat.le_of_ble_eq_true rfl⟩ rfl rfl hl.1 (Nat.le_of_ble_eq_true rfl) ⟨Nat.zero_le _, Nat.zero_le _⟩ dX1_takeTurn_77 (fun H locs hW hS => ?_)
          refine lv_if_ne (tgt := 92) hx hb dX1_takeTurn_80 (by decide) (fun h44 => ?_) (fun h44 => ?_)
          · have hf := ifn h44 hf
            refine lv_aload_n hx hb dX1_takeTurn_92 rfl (lv_at hl 1 rfl) ?_
            refine getF hx hb hta hown hE.1 hW hc0 12 (by decide) q194 rfl dX1_takeTurn_93 ?_
            refine lv_iload_n hx hb dX1_takeTurn_96 rfl (lv_at hl 2 rfl) ?_
            obtain ⟨σ50, u49, hf⟩ := b1_e hf
            refine mV (k := (c0 + 4)) (q := (2, 0)) (C := RX0) (T := TX0) (N := 10) (ci := 0) (n := 1) (As := [.int p1]) (rest := []) (c_X0_moveOn l D t b (c0 + 4) σ p1 σ50 (shF_4 hc0) u49) (shF_4 hc0) (by decide) rfl rfl hx hb hml hown hts hE hW hS q695 q696 q697 q36 q698 hy_X0_moveOn ⟨rfl, rfl⟩ ⟨Nat.le_of_ble_eq_true rfl, Nat.le_of_ble_eq_true rfl⟩ rfl rfl hl.1 (Nat.le_of_ble_eq_true rfl) ⟨Nat.zero_le _, Nat.zero_le _⟩ dX1_takeTurn_97 (fun H locs hW hS => ?_)
            cases hf
            exact W.vret hx hb hr (fun u hu _ => ⟨⟨rfl, by rw [hu]; exact hW⟩, hS.F hu⟩) hS.2.2 dX1_takeTurn_100
          · have hf := ifp h44 hf
            refine lv_aload_n hx hb dX1_takeTurn_83 rfl (lv_at hl 1 rfl) ?_
            refine lv_iload_n hx hb dX1_takeTurn_84 rfl (lv_at hl 2 rfl) ?_
            refine lv_aload_n hx hb dX1_takeTurn_85 rfl (lv_at hl 0 rfl) ?_
            obtain ⟨σ47, u46, hf⟩ := b1_e hf
            refine mV (k := c0) (q := (1, 0)) (C := RX1) (T := TX1) (N := 13) (ci := 1) (n := 2) (As := [.int p1, .ref (b + y2)]) (rest := []) (c_X1_play l D t b c0 y2 σ p1 σ47 hc0 g5 u46) hc0 (by decide) rfl rfl hx hb hml hown hts hE hW hS q671 q673 q13 q35 q674 hy_X1_play ⟨rfl, rfl⟩ ⟨Nat.le_of_ble_eq_true rfl, Nat.le_of_ble_eq_true rfl⟩ rfl rfl hl.1 (Nat.le_of_ble_eq_true rfl) ⟨Nat.zero_le _, Nat.zero_le _⟩ dX1_takeTurn_86 (fun H locs hW hS => ?_)
            refine lv_goto (tgt := 100) hx hb dX1_takeTurn_89 (by decide) ?_
            cases hf
            exact W.vret hx hb hr (fun u hu _ => ⟨⟨rfl, by rw [hu]; exact hW⟩, hS.F hu⟩) hS.2.2 dX1_takeTurn_100
      · have hf := ifp h37 hf
        refine lv_aload_n hx hb dX1_takeTurn_49 rfl (lv_at hl 1 rfl) ?_
        refine getF hx hb hta hown hE.1 hW hc0 12 (by decide) q194 rfl dX1_takeTurn_50 ?_
        refine lv_iload_n hx hb dX1_takeTurn_53 rfl (lv_at hl 2 rfl) ?_
        obtain ⟨σ40, u39, hf⟩ := b1_e hf
        refine mV (k := (c0 + 4)) (q := (2, 0)) (C := RX0) (T := TX0) (N := 10) (ci := 0) (n := 1) (As := [.int p1]) (rest := []) (c_X0_goHome l D t b (c0 + 4) σ p1 σ40 (shF_4 hc0) u39) (shF_4 hc0) (by decide) rfl rfl hx hb hml hown hts hE hW hS q663 q664 q665 q36 q666 hy_X0_goHome ⟨rfl, rfl⟩ ⟨Nat.le_of_ble_eq_true rfl, Nat.le_of_ble_eq_true rfl⟩ rfl rfl hl.1 (Nat.le_of_ble_eq_true rfl) ⟨Nat.zero_le _, Nat.zero_le _⟩ dX1_takeTurn_54 (fun H locs hW hS => ?_)
        refine lv_goto (tgt := 100) hx hb dX1_takeTurn_57 (by decide) ?_
        cases hf
        exact W.vret hx hb hr (fun u hu _ => ⟨⟨rfl, by rw [hu]; exact hW⟩, hS.F hu⟩) hS.2.2 dX1_takeTurn_100
    · have hf := ifp h16 hf
      refine lv_aload_n hx hb dX1_takeTurn_25 rfl (lv_at hl 1 rfl) ?_
      refine getF hx hb hta hown hE.1 hW hc0 12 (by decide) q194 rfl dX1_takeTurn_26 ?_
      refine lv_iload_n hx hb dX1_takeTurn_29 rfl (lv_at hl 2 rfl) ?_
      refine lv_iload_n hx hb dX1_takeTurn_30 rfl (lv_at hl 3 rfl) ?_
      refine lv_iconst (v := 2) hx hb dX1_takeTurn_31 (by decide) ?_
      refine lv_idiv hx hb dX1_takeTurn_32 (by decide) ?_
      refine lv_ineg hx hb dX1_takeTurn_33 ?_
      obtain ⟨σ19, u18, hf⟩ := b1_e hf
      refine mV (k := (c0 + 4)) (q := (2, 0)) (C := RX0) (T := TX0) (N := 10) (ci := 0) (n := 2) (As := [.int p1, .int (-(p2 / 2))]) (rest := []) (c_X0_changeMood l D t b (c0 + 4) σ p1 (-(p2 / 2)) σ19 (shF_4 hc0) u18) (shF_4 hc0) (by decide) rfl rfl hx hb hml hown hts hE hW hS q659 q660 q661 q36 q662 hy_X0_changeMood ⟨rfl, rfl⟩ ⟨Nat.le_of_ble_eq_true rfl, Nat.le_of_ble_eq_true rfl⟩ rfl rfl hl.1 (Nat.le_of_ble_eq_true rfl) ⟨Nat.zero_le _, Nat.zero_le _⟩ dX1_takeTurn_34 (fun H locs hW hS => ?_)
      refine lv_aload_n hx hb dX1_takeTurn_37 rfl (lv_at hl 1 rfl) ?_
      refine getF hx hb hta hown hE.1 hW hc0 12 (by decide) q194 rfl dX1_takeTurn_38 ?_
      refine getC hx hb hta hown hE.1 hW (shF_4 hc0) 3 (by decide) q78 rfl dX1_takeTurn_41 ?_
      refine lv_iload_n hx hb dX1_takeTurn_44 rfl (lv_at hl 2 rfl) ?_
      refine iald hx hb hE.1 hW (shC_2 (shF_4 hc0)) g1 dX1_takeTurn_45 ?_
      refine lv_if_ne (tgt := 60) hx hb dX1_takeTurn_46 (by decide) (fun h20 => ?_) (fun h20 => ?_)
      · have hf := ifn h20 hf
        refine lv_aload_n hx hb dX1_takeTurn_60 rfl (lv_at hl 0 rfl) ?_
        refine lv_ifnull hx hb dX1_takeTurn_61 ?_
        refine lv_aload_n hx hb dX1_takeTurn_64 rfl (lv_at hl 0 rfl) ?_
        refine getS hx hb hta hown hE.1 hW g5 9 (by decide) q143 rfl dX1_takeTurn_65 ?_
        refine lv_if_ne (tgt := 92) hx hb dX1_takeTurn_68 (by decide) (fun h24 => ?_) (fun h24 => ?_)
        · have hf := ifn h24 hf
          refine lv_aload_n hx hb dX1_takeTurn_92 rfl (lv_at hl 1 rfl) ?_
          refine getF hx hb hta hown hE.1 hW hc0 12 (by decide) q194 rfl dX1_takeTurn_93 ?_
          refine lv_iload_n hx hb dX1_takeTurn_96 rfl (lv_at hl 2 rfl) ?_
          obtain ⟨σ36, u35, hf⟩ := b1_e hf
          refine mV (k := (c0 + 4)) (q := (2, 0)) (C := RX0) (T := TX0) (N := 10) (ci := 0) (n := 1) (As := [.int p1]) (rest := []) (c_X0_moveOn l D t b (c0 + 4) σ19 p1 σ36 (shF_4 hc0) u35) (shF_4 hc0) (by decide) rfl rfl hx hb hml hown hts hE hW hS q695 q696 q697 q36 q698 hy_X0_moveOn ⟨rfl, rfl⟩ ⟨Nat.le_of_ble_eq_true rfl, Nat.le_of_ble_eq_true rfl⟩ rfl rfl hl.1 (Nat.le_of_ble_eq_true rfl) ⟨Nat.zero_le _, Nat.zero_le _⟩ dX1_takeTurn_97 (fun H locs hW hS => ?_)
          cases hf
          exact W.vret hx hb hr (fun u hu _ => ⟨⟨rfl, by rw [hu]; exact hW⟩, hS.F hu⟩) hS.2.2 dX1_takeTurn_100
        · have hf := ifp h24 hf
          refine lv_aload_n hx hb dX1_takeTurn_71 rfl (lv_at hl 1 rfl) ?_
          refine getF hx hb hta hown hE.1 hW hc0 12 (by decide) q194 rfl dX1_takeTurn_72 ?_
          refine lv_iload_n hx hb dX1_takeTurn_75 rfl (lv_at hl 2 rfl) ?_
          refine lv_aload_n hx hb dX1_takeTurn_76 rfl (lv_at hl 0 rfl) ?_
          obtain ⟨y25, u26, hf⟩ := b1_e hf
          refine mV (k := (c0 + 4)) (q := (2, 0)) (C := RX0) (T := TX0) (N := 10) (ci := 0) (n := 2) (As := [.int p1, .ref (b + y2)]) (rest := []) (c_X0_reasonAgainst l D t b (c0 + 4) y2 σ19 p1 y25 (shF_4 hc0) g5 u26) (shF_4 hc0) (by decide) rfl rfl hx hb hml hown hts hE hW hS q667 q668 q669 q36 q670 hy_X0_reasonAgainst ⟨rfl, rfl⟩ ⟨Nat.le_of_ble_eq_true rfl, Nat.le_of_ble_eq_true rfl⟩ rfl rfl hl.1 (Nat.le_of_ble_eq_true rfl) ⟨Nat.zero_le _, Nat.zero_le _⟩ dX1_takeTurn_77 (fun H locs hW hS => ?_)
          refine lv_if_ne (tgt := 92) hx hb dX1_takeTurn_80 (by decide) (fun h27 => ?_) (fun h27 => ?_)
          · have hf := ifn h27 hf
            refine lv_aload_n hx hb dX1_takeTurn_92 rfl (lv_at hl 1 rfl) ?_
            refine getF hx hb hta hown hE.1 hW hc0 12 (by decide) q194 rfl dX1_takeTurn_93 ?_
            refine lv_iload_n hx hb dX1_takeTurn_96 rfl (lv_at hl 2 rfl) ?_
            obtain ⟨σ33, u32, hf⟩ := b1_e hf
            refine mV (k := (c0 + 4)) (q := (2, 0)) (C := RX0) (T := TX0) (N := 10) (ci := 0) (n := 1) (As := [.int p1]) (rest := []) (c_X0_moveOn l D t b (c0 + 4) σ19 p1 σ33 (shF_4 hc0) u32) (shF_4 hc0) (by decide) rfl rfl hx hb hml hown hts hE hW hS q695 q696 q697 q36 q698 hy_X0_moveOn ⟨rfl, rfl⟩ ⟨Nat.le_of_ble_eq_true rfl, Nat.le_of_ble_eq_true rfl⟩ rfl rfl hl.1 (Nat.le_of_ble_eq_true rfl) ⟨Nat.zero_le _, Nat.zero_le _⟩ dX1_takeTurn_97 (fun H locs hW hS => ?_)
            cases hf
            exact W.vret hx hb hr (fun u hu _ => ⟨⟨rfl, by rw [hu]; exact hW⟩, hS.F hu⟩) hS.2.2 dX1_takeTurn_100
          · have hf := ifp h27 hf
            refine lv_aload_n hx hb dX1_takeTurn_83 rfl (lv_at hl 1 rfl) ?_
            refine lv_iload_n hx hb dX1_takeTurn_84 rfl (lv_at hl 2 rfl) ?_
            refine lv_aload_n hx hb dX1_takeTurn_85 rfl (lv_at hl 0 rfl) ?_
            obtain ⟨σ30, u29, hf⟩ := b1_e hf
            refine mV (k := c0) (q := (1, 0)) (C := RX1) (T := TX1) (N := 13) (ci := 1) (n := 2) (As := [.int p1, .ref (b + y2)]) (rest := []) (c_X1_play l D t b c0 y2 σ19 p1 σ30 hc0 g5 u29) hc0 (by decide) rfl rfl hx hb hml hown hts hE hW hS q671 q673 q13 q35 q674 hy_X1_play ⟨rfl, rfl⟩ ⟨Nat.le_of_ble_eq_true rfl, Nat.le_of_ble_eq_true rfl⟩ rfl rfl hl.1 (Nat.le_of_ble_eq_true rfl) ⟨Nat.zero_le _, Nat.zero_le _⟩ dX1_takeTurn_86 (fun H locs hW hS => ?_)
            refine lv_goto (tgt := 100) hx hb dX1_takeTurn_89 (by decide) ?_
            cases hf
            exact W.vret hx hb hr (fun u hu _ => ⟨⟨rfl, by rw [hu]; exact hW⟩, hS.F hu⟩) hS.2.2 dX1_takeTurn_100
      · have hf := ifp h20 hf
        refine lv_aload_n hx hb dX1_takeTurn_49 rfl (lv_at hl 1 rfl) ?_
        refine getF hx hb hta hown hE.1 hW hc0 12 (by decide) q194 rfl dX1_takeTurn_50 ?_
        refine lv_iload_n hx hb dX1_takeTurn_53 rfl (lv_at hl 2 rfl) ?_
        obtain ⟨σ23, u22, hf⟩ := b1_e hf
        refine mV (k := (c0 + 4)) (q := (2, 0)) (C := RX0) (T := TX0) (N := 10) (ci := 0) (n := 1) (As := [.int p1]) (rest := []) (c_X0_goHome l D t b (c0 + 4) σ19 p1 σ23 (shF_4 hc0) u22) (shF_4 hc0) (by decide) rfl rfl hx hb hml hown hts hE hW hS q663 q664 q665 q36 q666 hy_X0_goHome ⟨rfl, rfl⟩ ⟨Nat.le_of_ble_eq_true rfl, Nat.le_of_ble_eq_true rfl⟩ rfl rfl hl.1 (Nat.le_of_ble_eq_true rfl) ⟨Nat.zero_le _, Nat.zero_le _⟩ dX1_takeTurn_54 (fun H locs hW hS => ?_)
        refine lv_goto (tgt := 100) hx hb dX1_takeTurn_57 (by decide) ?_
        cases hf
        exact W.vret hx hb hr (fun u hu _ => ⟨⟨rfl, by rw [hu]; exact hW⟩, hS.F hu⟩) hS.2.2 dX1_takeTurn_100
def l_X0_allGoHome_5 (c0 : Nat) : Nat → Sg → Int32 → Option Sg
  | 0, _, _ => none
  | n + 1, τ, x1 => if (τ c0 0) ≤ x1 then (st (u2 τ c0 1 (τ c0 0)) fun σ2 => some σ2) else (b1 (f_X0_goHome c0 τ x1) fun σ6 => l_X0_allGoHome_5 c0 n σ6 (x1 + 1))
def f_X0_allGoHome (c0 : Nat) (σ : Sg) : Option Sg := l_X0_allGoHome_5 c0 10000 σ (σ c0 1)
set_option maxHeartbeats 4000000 in
set_option maxRecDepth 100000 in
theorem c_X0_allGoHome (l : Launch) (D : va_G) (t : Nat → ClassId) (b : Nat) (c0 : Nat) (σ : Sg) (σr : Sg) (hc0 : sh c0 = (2, 0)) (hf : f_X0_allGoHome c0 σ = some σr) : Met l yX0_allGoHome (Cond.code yX0_allGoHome cX0_allGoHome 2 none :: ALL) ({ frames := 1, cells := 0, slots := 0, locals := 21 }) (PM D t b σ [.ref (b + c0)]) (QG D t b σr none) 0 0 (geA b) := by
  refine Met.ofW (cc := cX0_allGoHome) (maxL := 2) (ret := none) (by decide) rfl ?_
  intro p e s m args below meth c s₁ B hml hv
  obtain ⟨rfl, hW, hE⟩ := hv
  have hx := B.exec
  have hb := B.bytes
  have hr := B.returns
  have hts := atoms_spec (ws := Cond.code yX0_allGoHome cX0_allGoHome 2 none :: ALL) B.pre
  have hta := fun w h => hts w (List.mem_cons_of_mem _ h)
  have hown : s.vm.findClass RX0 = some m.cls := findClass_of_methodNamed B.named
  have hlocks := B.notSynchronized
  have hS : va_S (geA b) s.heap s.heap [] := va_S.rf
  have hl := lv_entry ([.ref (b + c0)]) (n := 2) (Nat.le_of_ble_eq_true rfl)
  rw [lg_entry_eq]
  generalize (lg_sl ([.ref (b + c0)]) ++ List.replicate (2 - (lg_sl ([.ref (b + c0)])).length) Slot.unset).toArray = ls at hl ⊢
  have hl : lv_has ls 2 [(0, .ref (b + c0))] := hl
  unfold f_X0_allGoHome at hf
  refine lv_aload_n hx hb dX0_allGoHome_0 rfl (lv_at hl 0 rfl) ?_
  refine getC hx hb hta hown hE.1 hW hc0 1 (by decide) q72 rfl dX0_allGoHome_1 ?_
  refine lv_istore_n (lv' := [(1, .int (σ c0 1)), (0, .ref (b + c0))]) hx hb dX0_allGoHome_4 rfl hl (by decide) rfl (fun ls hl => ?_)
  have key_5 : ∀ (n : Nat) (τ : Sg) (x1 : Int32) (H : Heap) (locs : List Loc) (ls : Array Slot), l_X0_allGoHome_5 c0 n τ x1 = some σr → wd D t b τ H → va_S (geA b) s.heap H locs → lv_has ls 2 [(0, .ref (b + c0)), (1, .int x1)] → W p l e (headSpec (Cond.code yX0_allGoHome cX0_allGoHome 2 none :: ALL) ({ frames := 1, cells := 0, slots := 0, locals := 21 })).room s m (([.ref (b + c0)] : List Value).toArray) below meth c H locs 0 0 (MQ below (QG D t b σr none) (([.ref (b + c0)] : List Value).toArray) s 0 0 (geA b)) (F0 m 5 ls []) := by
    intro n
    induction n with
    | zero =>
      intro τ x1 H locs ls hf
      rw [l_X0_allGoHome_5.eq_1] at hf
      cases hf
    | succ n ih_5 =>
      intro τ x1 H locs ls hf hW hS hl
      rw [l_X0_allGoHome_5.eq_2] at hf
      refine lv_iload_n hx hb dX0_allGoHome_5 rfl (lv_at hl 1 rfl) ?_
      refine lv_aload_n hx hb dX0_allGoHome_6 rfl (lv_at hl 0 rfl) ?_
      refine getC hx hb hta hown hE.1 hW hc0 0 (by decide) q69 rfl dX0_allGoHome_7 ?_
      refine lv_icmp_ge (tgt := 24) hx hb dX0_allGoHome_10 (by decide) (fun h1 => ?_) (fun h1 => ?_)
      · have hf := ifp h1 hf
        refine lv_aload_n hx hb dX0_allGoHome_24 rfl (lv_at hl 0 rfl) ?_
        refine lv_aload_n hx hb dX0_allGoHome_25 rfl (lv_at hl 0 rfl) ?_
        refine getC hx hb hta hown hE.1 hW hc0 0 (by decide) q69 rfl dX0_allGoHome_26 ?_
        refine putX (k := c0) (q := (2, 0)) (ci := 0) (x := (τ c0 0)) inA0 tyX0_ok nmX0 rfl (by decide) rfl hx hb hta hown hE.1 hW hS hc0 1 (by decide) q72 rfl rfl rfl (Nat.le_of_ble_eq_true rfl) rfl dX0_allGoHome_29 (fun H locs hW hS => ?_)
        obtain ⟨σ2, e3, hf⟩ := st_e hf
        rw [e3] at hW
        cases hf
        exact W.vret hx hb hr (fun u hu _ => ⟨⟨rfl, by rw [hu]; exact hW⟩, hS.F hu⟩) hS.2.2 dX0_allGoHome_32
      · have hf := ifn h1 hf
        refine lv_aload_n hx hb dX0_allGoHome_13 rfl (lv_at hl 0 rfl) ?_
        refine lv_iload_n hx hb dX0_allGoHome_14 rfl (lv_at hl 1 rfl) ?_
        obtain ⟨σ6, u5, hf⟩ := b1_e hf
        refine mV (k := c0) (q := (2, 0)) (C := RX0) (T := TX0) (N := 10) (ci := 0) (n := 1) (As := [.int x1]) (rest := []) (c_X0_goHome l D t b c0 τ x1 σ6 hc0 u5) hc0 (by decide) rfl rfl hx hb hml hown hts hE hW hS q699 q664 q665 q36 q666 hy_X0_goHome ⟨rfl, rfl⟩ ⟨Nat.le_of_ble_eq_true rfl, Nat.le_of_ble_eq_true rfl⟩ rfl rfl hl.1 (Nat.le_of_ble_eq_true rfl) ⟨Nat.zero_le _, Nat.zero_le _⟩ dX0_allGoHome_15 (fun H locs hW hS => ?_)
        refine lv_iinc (v := (x1 + 1)) (lv' := [(1, .int (x1 + 1)), (0, .ref (b + c0))]) hx hb dX0_allGoHome_18 hl (k := 1) rfl (by rfl) (by decide) rfl (fun ls hl => ?_)
        refine lv_goto (tgt := 5) hx hb dX0_allGoHome_21 (by decide) ?_
        exact ih_5 σ6 (x1 + 1) _ _ _ hf hW hS (lv_sub hl [1, 0] rfl)
  exact key_5 10000 σ (σ c0 1) _ _ _ hf hW hS (lv_sub hl [1, 0] rfl)
def f_X3_rent (c0 : Nat) (σ : Sg) : Option Int32 := some (2 + ((12 - (σ c0 0)) / 2))
set_option maxHeartbeats 4000000 in
set_option maxRecDepth 100000 in
theorem c_X3_rent (l : Launch) (D : va_G) (t : Nat → ClassId) (b : Nat) (c0 : Nat) (σ : Sg) (r : Int32) (hc0 : sh c0 = (3, 0)) (hf : f_X3_rent c0 σ = some r) : Met l yX3_rent (Cond.code yX3_rent cX3_rent 1 (some .int) :: ALL) ({ frames := 0, cells := 0, slots := 0, locals := 0 }) (PM D t b σ [.ref (b + c0)]) (QG D t b σ (some (.int r))) 0 0 (geA b) := by
  refine Met.ofW (cc := cX3_rent) (maxL := 1) (ret := (some .int)) (by decide) rfl ?_
  intro p e s m args below meth c s₁ B hml hv
  obtain ⟨rfl, hW, hE⟩ := hv
  have hx := B.exec
  have hb := B.bytes
  have hr := B.returns
  have hts := atoms_spec (ws := Cond.code yX3_rent cX3_rent 1 (some .int) :: ALL) B.pre
  have hta := fun w h => hts w (List.mem_cons_of_mem _ h)
  have hown : s.vm.findClass RX3 = some m.cls := findClass_of_methodNamed B.named
  have hlocks := B.notSynchronized
  have hS : va_S (geA b) s.heap s.heap [] := va_S.rf
  have hl := lv_entry ([.ref (b + c0)]) (n := 1) (Nat.le_of_ble_eq_true rfl)
  rw [lg_entry_eq]
  generalize (lg_sl ([.ref (b + c0)]) ++ List.replicate (1 - (lg_sl ([.ref (b + c0)])).length) Slot.unset).toArray = ls at hl ⊢
  have hl : lv_has ls 1 [(0, .ref (b + c0))] := hl
  unfold f_X3_rent at hf
  refine lv_iconst (v := 2) hx hb dX3_rent_0 (by decide) ?_
  refine lv_bipush (v := 12) hx hb dX3_rent_1 (by decide) ?_
  refine lv_aload_n hx hb dX3_rent_3 rfl (lv_at hl 0 rfl) ?_
  refine getS hx hb hta hown hE.1 hW hc0 0 (by decide) q120 rfl dX3_rent_4 ?_
  refine lv_isub hx hb dX3_rent_7 ?_
  refine lv_iconst (v := 2) hx hb dX3_rent_8 (by decide) ?_
  refine lv_idiv hx hb dX3_rent_9 (by decide) ?_
  refine lv_iadd hx hb dX3_rent_10 ?_
  cases hf
  exact W.iret hx hb hr (fun u hu _ => ⟨⟨rfl, by rw [hu]; exact hW⟩, hS.F hu⟩) hS.2.2 dX3_rent_11
def f_X1_payRent (c0 : Nat) (d1 : Nat) (σ : Sg) : Option Sg := b1 (f_X3_rent d1 σ) fun y1 => b1 (f_X3_rent d1 σ) fun y3 => if (σ d1 5) < y3 then (st (u2 σ d1 4 0) fun σ6 => st (u2 σ6 d1 5 ((σ6 d1 5) - (jmin y1 (σ d1 5)))) fun σ8 => st (u2 σ8 c0 1 ((σ8 c0 1) + (jmin y1 (σ d1 5)))) fun σ10 => some σ10) else (st (u2 σ d1 4 1) fun σ12 => st (u2 σ12 d1 5 ((σ12 d1 5) - (jmin y1 (σ d1 5)))) fun σ14 => st (u2 σ14 c0 1 ((σ14 c0 1) + (jmin y1 (σ d1 5)))) fun σ16 => some σ16)
set_option maxHeartbeats 4000000 in
set_option maxRecDepth 100000 in
theorem c_X1_payRent (l : Launch) (D : va_G) (t : Nat → ClassId) (b : Nat) (c0 : Nat) (d1 : Nat) (σ : Sg) (σr : Sg) (hc0 : sh c0 = (1, 0)) (hd1 : sh d1 = (3, 0)) (hf : f_X1_payRent c0 d1 σ = some σr) : Met l yX1_payRent (Cond.code yX1_payRent cX1_payRent 3 none :: ALL) ({ frames := 1, cells := 0, slots := 0, locals := 20 }) (PM D t b σ [.ref (b + c0), .ref (b + d1)]) (QG D t b σr none) 0 0 (geA b) := by
  refine Met.ofW (cc := cX1_payRent) (maxL := 3) (ret := none) (by decide) rfl ?_
  intro p e s m args below meth c s₁ B hml hv
  obtain ⟨rfl, hW, hE⟩ := hv
  have hx := B.exec
  have hb := B.bytes
  have hr := B.returns
  have hts := atoms_spec (ws := Cond.code yX1_payRent cX1_payRent 3 none :: ALL) B.pre
  have hta := fun w h => hts w (List.mem_cons_of_mem _ h)
  have hown : s.vm.findClass RX1 = some m.cls := findClass_of_methodNamed B.named
  have hlocks := B.notSynchronized
  have hS : va_S (geA b) s.heap s.heap [] := va_S.rf
  have hl := lv_entry ([.ref (b + c0), .ref (b + d1)]) (n := 3) (Nat.le_of_ble_eq_true rfl)
  rw [lg_entry_eq]
  generalize (lg_sl ([.ref (b + c0), .ref (b + d1)]) ++ List.replicate (3 - (lg_sl ([.ref (b + c0), .ref (b + d1)])).length) Slot.unset).toArray = ls at hl ⊢
  have hl : lv_has ls 3 [(0, .ref (b + c0)), (1, .ref (b + d1))] := hl
  unfold f_X1_payRent at hf
  refine lv_aload_n hx hb dX1_payRent_0 rfl (lv_at hl 1 rfl) ?_
  obtain ⟨y1, u2, hf⟩ := b1_e hf
  refine mV (k := d1) (q := (3, 0)) (C := RX3) (T := TX3) (N := 11) (ci := 3) (n := 0) (As := []) (rest := []) (c_X3_rent l D t b d1 σ y1 hd1 u2) hd1 (by decide) rfl rfl hx hb hml hown hts hE hW hS q712 q713 q714 q37 q715 hy_X3_rent ⟨rfl, rfl⟩ ⟨Nat.le_of_ble_eq_true rfl, Nat.le_of_ble_eq_true rfl⟩ rfl rfl hl.1 (Nat.le_of_ble_eq_true rfl) ⟨Nat.zero_le _, Nat.zero_le _⟩ dX1_payRent_1 (fun H locs hW hS => ?_)
  refine lv_aload_n hx hb dX1_payRent_4 rfl (lv_at hl 1 rfl) ?_
  refine getS hx hb hta hown hE.1 hW hd1 5 (by decide) q137 rfl dX1_payRent_5 ?_
  refine va_mmin hx hb (hml.trans hl.1.symm) hown (hta _ q638) (hta _ q639) (hta _ q46) (hta _ q640) (Nat.le_of_ble_eq_true rfl) (Nat.le_of_ble_eq_true rfl) (Nat.zero_le _) (Nat.zero_le _) dX1_payRent_8 ?_
  refine lv_istore_n (lv' := [(2, .int (jmin y1 (σ d1 5))), (0, .ref (b + c0)), (1, .ref (b + d1))]) hx hb dX1_payRent_11 rfl hl (by decide) rfl (fun ls hl => ?_)
  refine lv_aload_n hx hb dX1_payRent_12 rfl (lv_at hl 2 rfl) ?_
  refine lv_aload_n hx hb dX1_payRent_13 rfl (lv_at hl 2 rfl) ?_
  refine getS hx hb hta hown hE.1 hW hd1 5 (by decide) q137 rfl dX1_payRent_14 ?_
  refine lv_aload_n hx hb dX1_payRent_17 rfl (lv_at hl 2 rfl) ?_
  obtain ⟨y3, u4, hf⟩ := b1_e hf
  refine mV (k := d1) (q := (3, 0)) (C := RX3) (T := TX3) (N := 11) (ci := 3) (n := 0) (As := []) (rest := [.int (σ d1 5), .ref (b + d1)]) (c_X3_rent l D t b d1 σ y3 hd1 u4) hd1 (by decide) rfl rfl hx hb hml hown hts hE hW hS q712 q713 q714 q37 q715 hy_X3_rent ⟨rfl, rfl⟩ ⟨Nat.le_of_ble_eq_true rfl, Nat.le_of_ble_eq_true rfl⟩ rfl rfl hl.1 (Nat.le_of_ble_eq_true rfl) ⟨Nat.zero_le _, Nat.zero_le _⟩ dX1_payRent_18 (fun H locs hW hS => ?_)
  refine lv_icmp_lt (tgt := 28) hx hb dX1_payRent_21 (by decide) (fun h5 => ?_) (fun h5 => ?_)
  · have hf := ifp h5 hf
    refine lv_iconst (v := 0) hx hb dX1_payRent_28 (by decide) ?_
    refine putX (k := d1) (q := (3, 0)) (ci := 3) (x := 0) inA3 tyX3_ok nmX3 rfl (by decide) rfl hx hb hta hown hE.1 hW hS hd1 4 (by decide) q134 rfl (by decide) (by decide) (Nat.le_of_ble_eq_true rfl) rfl dX1_payRent_29 (fun H locs hW hS => ?_)
    obtain ⟨σ6, e7, hf⟩ := st_e hf
    rw [e7] at hW
    refine lv_aload_n hx hb dX1_payRent_32 rfl (lv_at hl 2 rfl) ?_
    refine lv_dup hx hb dX1_payRent_33 rfl ?_
    refine getS hx hb hta hown hE.1 hW hd1 5 (by decide) q137 rfl dX1_payRent_34 ?_
    refine lv_iload_n hx hb dX1_payRent_37 rfl (lv_at hl 0 rfl) ?_
    refine lv_isub hx hb dX1_payRent_38 ?_
    refine putX (k := d1) (q := (3, 0)) (ci := 3) (x := ((σ6 d1 5) - (jmin y1 (σ d1 5)))) inA3 tyX3_ok nmX3 rfl (by decide) rfl hx hb hta hown hE.1 hW hS hd1 5 (by decide) q137 rfl rfl rfl (Nat.le_of_ble_eq_true rfl) rfl dX1_payRent_39 (fun H locs hW hS => ?_)
    obtain ⟨σ8, e9, hf⟩ := st_e hf
    rw [e9] at hW
    refine lv_aload_n hx hb dX1_payRent_42 rfl (lv_at hl 1 rfl) ?_
    refine lv_dup hx hb dX1_payRent_43 rfl ?_
    refine getF hx hb hta hown hE.1 hW hc0 1 (by decide) q172 rfl dX1_payRent_44 ?_
    refine lv_iload_n hx hb dX1_payRent_47 rfl (lv_at hl 0 rfl) ?_
    refine lv_iadd hx hb dX1_payRent_48 ?_
    refine putX (k := c0) (q := (1, 0)) (ci := 1) (x := ((σ8 c0 1) + (jmin y1 (σ d1 5)))) inA1 tyX1_ok nmX1 rfl (by decide) rfl hx hb hta hown hE.1 hW hS hc0 1 (by decide) q172 rfl rfl rfl (Nat.le_of_ble_eq_true rfl) rfl dX1_payRent_49 (fun H locs hW hS => ?_)
    obtain ⟨σ10, e11, hf⟩ := st_e hf
    rw [e11] at hW
    cases hf
    exact W.vret hx hb hr (fun u hu _ => ⟨⟨rfl, by rw [hu]; exact hW⟩, hS.F hu⟩) hS.2.2 dX1_payRent_52
  · have hf := ifn h5 hf
    refine lv_iconst (v := 1) hx hb dX1_payRent_24 (by decide) ?_
    refine lv_goto (tgt := 29) hx hb dX1_payRent_25 (by decide) ?_
    refine putX (k := d1) (q := (3, 0)) (ci := 3) (x := 1) inA3 tyX3_ok nmX3 rfl (by decide) rfl hx hb hta hown hE.1 hW hS hd1 4 (by decide) q134 rfl (by decide) (by decide) (Nat.le_of_ble_eq_true rfl) rfl dX1_payRent_29 (fun H locs hW hS => ?_)
    obtain ⟨σ12, e13, hf⟩ := st_e hf
    rw [e13] at hW
    refine lv_aload_n hx hb dX1_payRent_32 rfl (lv_at hl 2 rfl) ?_
    refine lv_dup hx hb dX1_payRent_33 rfl ?_
    refine getS hx hb hta hown hE.1 hW hd1 5 (by decide) q137 rfl dX1_payRent_34 ?_
    refine lv_iload_n hx hb dX1_payRent_37 rfl (lv_at hl 0 rfl) ?_
    refine lv_isub hx hb dX1_payRent_38 ?_
    refine putX (k := d1) (q := (3, 0)) (ci := 3) (x := ((σ12 d1 5) - (jmin y1 (σ d1 5)))) inA3 tyX3_ok nmX3 rfl (by decide) rfl hx hb hta hown hE.1 hW hS hd1 5 (by decide) q137 rfl rfl rfl (Nat.le_of_ble_eq_true rfl) rfl dX1_payRent_39 (fun H locs hW hS => ?_)
    obtain ⟨σ14, e15, hf⟩ := st_e hf
    rw [e15] at hW
    refine lv_aload_n hx hb dX1_payRent_42 rfl (lv_at hl 1 rfl) ?_
    refine lv_dup hx hb dX1_payRent_43 rfl ?_
    refine getF hx hb hta hown hE.1 hW hc0 1 (by decide) q172 rfl dX1_payRent_44 ?_
    refine lv_iload_n hx hb dX1_payRent_47 rfl (lv_at hl 0 rfl) ?_
    refine lv_iadd hx hb dX1_payRent_48 ?_
    refine putX (k := c0) (q := (1, 0)) (ci := 1) (x := ((σ14 c0 1) + (jmin y1 (σ d1 5)))) inA1 tyX1_ok nmX1 rfl (by decide) rfl hx hb hta hown hE.1 hW hS hc0 1 (by decide) q172 rfl rfl rfl (Nat.le_of_ble_eq_true rfl) rfl dX1_payRent_49 (fun H locs hW hS => ?_)
    obtain ⟨σ16, e17, hf⟩ := st_e hf
    rw [e17] at hW
    cases hf
    exact W.vret hx hb hr (fun u hu _ => ⟨⟨rfl, by rw [hu]; exact hW⟩, hS.F hu⟩) hS.2.2 dX1_payRent_52

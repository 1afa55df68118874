def f_X4_sulkers (σ : Sg) : Option Int32 := b1 (f_X0_countSulkers (1 + 4) σ) fun y1 => some y1
set_option maxHeartbeats 4000000 in
set_option maxRecDepth 100000 in
theorem c_X4_sulkers (l : Launch) (D : va_G) (t : Nat → ClassId) (b : Nat) (σ : Sg) (r : Int32) (hf : f_X4_sulkers σ = some r) : Met l yX4_sulkers (Cond.code yX4_sulkers cX4_sulkers 1 (some .int) :: ALL) ({ frames := 1, cells := 0, slots := 0, locals := 22 }) (PM D t b σ [.ref (b + 0)]) (QG D t b σ (some (.int r))) 0 0 (geA b) := by
  refine Met.ofW (cc := cX4_sulkers) (maxL := 1) (ret := (some .int)) (by decide) rfl ?_
  intro p e s m args below meth c s₁ B hml hv
  obtain ⟨rfl, hW, hE⟩ := hv
  have hx := B.exec
  have hb := B.bytes
  have hr := B.returns
  have hts := atoms_spec (ws := Cond.code yX4_sulkers cX4_sulkers 1 (some .int) :: ALL) B.pre
  have hta := fun w h => hts w (List.mem_cons_of_mem _ h)
  have hown : s.vm.findClass RX4 = some m.cls := findClass_of_methodNamed B.named
  have hlocks := B.notSynchronized
  have hS : va_S (geA b) s.heap s.heap [] := va_S.rf
  have hl := lv_entry ([.ref (b + 0)]) (n := 1) (Nat.le_of_ble_eq_true rfl)
  rw [lg_entry_eq]
  generalize (lg_sl ([.ref (b + 0)]) ++ List.replicate (1 - (lg_sl ([.ref (b + 0)])).length) Slot.unset).toArray = ls at hl ⊢
  have hl : lv_has ls 1 [(0, .ref (b + 0))] := hl
  unfold f_X4_sulkers at hf
  refine lv_aload_n hx hb dX4_sulkers_0 rfl (lv_at hl 0 rfl) ?_
  refine getP hx hb hta hown hE.1 hW 0 (by decide) q332 rfl dX4_sulkers_1 ?_
  refine getF hx hb hta hown hE.1 hW sh_1 12 (by decide) q253 rfl dX4_sulkers_4 ?_
  obtain ⟨y1, u2, hf⟩ := b1_e hf
  refine mV (k := (1 + 4)) (q := (2, 0)) (C := RX0) (T := TX0) (N := 10) (ci := 0) (n := 0) (As := []) (rest := []) (c_X0_countSulkers l D t b (1 + 4) σ y1 (shF_4 sh_1) u2) (shF_4 sh_1) (by decide) rfl rfl hx hb hml hown hts hE hW hS q470 q471 q472 q93 q473 hy_X0_countSulkers ⟨rfl, rfl⟩ ⟨Nat.le_of_ble_eq_true rfl, Nat.le_of_ble_eq_true rfl⟩ rfl rfl hl.1 (Nat.le_of_ble_eq_true rfl) ⟨Nat.zero_le _, Nat.zero_le _⟩ dX4_sulkers_7 (fun H locs hW hS => ?_)
  cases hf
  exact W.iret hx hb hr (fun u hu _ => ⟨⟨rfl, by rw [hu]; exact hW⟩, hS.F hu⟩) hS.2.2 dX4_sulkers_10
def l_X0_countOn_7 (c0 : Nat) : Nat → Sg → Int32 → Int32 → Int32 → Option Int32
  | 0, _, _, _, _ => none
  | n + 1, τ, x1, x2, x3 => if (τ c0 0) ≤ x3 then (some x2) else (gd x3 200 (if (τ (c0 + 5) (x3).toNatClampNeg) = x1 then (l_X0_countOn_7 c0 n τ x1 (x2 + 1) (x3 + 1)) else (l_X0_countOn_7 c0 n τ x1 x2 (x3 + 1))))
def f_X0_countOn (c0 : Nat) (σ : Sg) (p1 : Int32) : Option Int32 := l_X0_countOn_7 c0 10000 σ p1 0 (σ c0 1)
set_option maxHeartbeats 4000000 in
set_option maxRecDepth 100000 in
theorem c_X0_countOn (l : Launch) (D : va_G) (t : Nat → ClassId) (b : Nat) (c0 : Nat) (σ : Sg) (p1 : Int32) (r : Int32) (hc0 : sh c0 = (2, 0)) (hf : f_X0_countOn c0 σ p1 = some r) : Met l yX0_countOn (Cond.code yX0_countOn cX0_countOn 4 (some .int) :: ALL) ({ frames := 0, cells := 0, slots := 0, locals := 0 }) (PM D t b σ [.ref (b + c0), .int p1]) (QG D t b σ (some (.int r))) 0 0 (geA b) := by
  refine Met.ofW (cc := cX0_countOn) (maxL := 4) (ret := (some .int)) (by decide) rfl ?_
  intro p e s m args below meth c s₁ B hml hv
  obtain ⟨rfl, hW, hE⟩ := hv
  have hx := B.exec
  have hb := B.bytes
  have hr := B.returns
  have hts := atoms_spec (ws := Cond.code yX0_countOn cX0_countOn 4 (some .int) :: ALL) B.pre
  have hta := fun w h => hts w (List.mem_cons_of_mem _ h)
  have hown : s.vm.findClass RX0 = some m.cls := findClass_of_methodNamed B.named
  have hlocks := B.notSynchronized
  have hS : va_S (geA b) s.heap s.heap [] := va_S.rf
  have hl := lv_entry ([.ref (b + c0), .int p1]) (n := 4) (Nat.le_of_ble_eq_true rfl)
  rw [lg_entry_eq]
  generalize (lg_sl ([.ref (b + c0), .int p1]) ++ List.replicate (4 - (lg_sl ([.ref (b + c0), .int p1])).length) Slot.unset).toArray = ls at hl ⊢
  have hl : lv_has ls 4 [(0, .ref (b + c0)), (1, .int p1)] := hl
  unfold f_X0_countOn at hf
  refine lv_iconst (v := 0) hx hb dX0_countOn_0 (by decide) ?_
  refine lv_istore_n (lv' := [(2, .int 0), (0, .ref (b + c0)), (1, .int p1)]) hx hb dX0_countOn_1 rfl hl (by decide) rfl (fun ls hl => ?_)
  refine lv_aload_n hx hb dX0_countOn_2 rfl (lv_at hl 1 rfl) ?_
  refine getC hx hb hta hown hE.1 hW hc0 1 (by decide) q130 rfl dX0_countOn_3 ?_
  refine lv_istore_n (lv' := [(3, .int (σ c0 1)), (2, .int 0), (0, .ref (b + c0)), (1, .int p1)]) hx hb dX0_countOn_6 rfl hl (by decide) rfl (fun ls hl => ?_)
  have key_7 : ∀ (n : Nat) (τ : Sg) (x1 : Int32) (x2 : Int32) (x3 : Int32) (H : Heap) (locs : List Loc) (ls : Array Slot), l_X0_countOn_7 c0 n τ x1 x2 x3 = some r → wd D t b τ H → va_S (geA b) s.heap H locs → lv_has ls 4 [(0, .ref (b + c0)), (1, .int x1), (2, .int x2), (3, .int x3)] → W p l e (headSpec (Cond.code yX0_countOn cX0_countOn 4 (some .int) :: ALL) ({ frames := 0, cells := 0, slots := 0, locals := 0 })).room s m (([.ref (b + c0), .int p1] : List Value).toArray) below meth c H locs 0 0 (MQ below (QG D t b τ (some (.int r))) (([.ref (b + c0), .int p1] : List Value).toArray) s 0 0 (geA b)) (F0 m 7 ls []) := by
    intro n
    induction n with
    | zero =>
      intro τ x1 x2 x3 H locs ls hf
      rw [l_X0_countOn_7.eq_1] at hf
      cases hf
    | succ n ih_7 =>
      intro τ x1 x2 x3 H locs ls hf hW hS hl
      rw [l_X0_countOn_7.eq_2] at hf
      refine lv_iload_n hx hb dX0_countOn_7 rfl (lv_at hl 3 rfl) ?_
      refine lv_aload_n hx hb dX0_countOn_8 rfl (lv_at hl 0 rfl) ?_
      refine getC hx hb hta hown hE.1 hW hc0 0 (by decide) q127 rfl dX0_countOn_9 ?_
      refine lv_icmp_ge (tgt := 34) hx hb dX0_countOn_12 (by decide) (fun h1 => ?_) (fun h1 => ?_)
      · have hf := ifp h1 hf
        refine lv_iload_n hx hb dX0_countOn_34 rfl (lv_at hl 2 rfl) ?_
        cases hf
        exact W.iret hx hb hr (fun u hu _ => ⟨⟨rfl, by rw [hu]; exact hW⟩, hS.F hu⟩) hS.2.2 dX0_countOn_35
      · have hf := ifn h1 hf
        refine lv_aload_n hx hb dX0_countOn_15 rfl (lv_at hl 0 rfl) ?_
        refine getC hx hb hta hown hE.1 hW hc0 6 (by decide) q141 rfl dX0_countOn_16 ?_
        refine lv_iload_n hx hb dX0_countOn_19 rfl (lv_at hl 3 rfl) ?_
        obtain ⟨g2, hf⟩ := gd_e hf
        refine iald hx hb hE.1 hW (shC_5 hc0) g2 dX0_countOn_20 ?_
        refine lv_iload_n hx hb dX0_countOn_21 rfl (lv_at hl 1 rfl) ?_
        refine lv_icmp_ne (tgt := 28) hx hb dX0_countOn_22 (by decide) (fun h3 => ?_) (fun h3 => ?_)
        · have hf := ifn h3 hf
          refine lv_iinc (v := (x3 + 1)) (lv' := [(3, .int (x3 + 1)), (0, .ref (b + c0)), (1, .int x1), (2, .int x2)]) hx hb dX0_countOn_28 hl (k := 3) rfl (by rfl) (by decide) rfl (fun ls hl => ?_)
          refine lv_goto (tgt := 7) hx hb dX0_countOn_31 (by decide) ?_
          exact ih_7 τ x1 x2 (x3 + 1) _ _ _ hf hW hS (lv_sub hl [1, 2, 3, 0] rfl)
        · have hf := ifp h3 hf
          refine lv_iinc (v := (x2 + 1)) (lv' := [(2, .int (x2 + 1)), (0, .ref (b + c0)), (1, .int x1), (3, .int x3)]) hx hb dX0_countOn_25 hl (k := 2) rfl (by rfl) (by decide) rfl (fun ls hl => ?_)
          refine lv_iinc (v := (x3 + 1)) (lv' := [(3, .int (x3 + 1)), (2, .int (x2 + 1)), (0, .ref (b + c0)), (1, .int x1)]) hx hb dX0_countOn_28 hl (k := 3) rfl (by rfl) (by decide) rfl (fun ls hl => ?_)
          refine lv_goto (tgt := 7) hx hb dX0_countOn_31 (by decide) ?_
          exact ih_7 τ x1 (x2 + 1) (x3 + 1) _ _ _ hf hW hS (lv_sub hl [2, 3, 1, 0] rfl)
  exact key_7 10000 σ p1 0 (σ c0 1) _ _ _ hf hW hS (lv_sub hl [2, 3, 1, 0] rfl)
def f_X4_day (σ : Sg) : Option Int32 := some (σ 1 6)
set_option maxHeartbeats 4000000 in
set_option maxRecDepth 100000 in
theorem c_X4_day (l : Launch) (D : va_G) (t : Nat → ClassId) (b : Nat) (σ : Sg) (r : Int32) (hf : f_X4_day σ = some r) : Met l yX4_day (Cond.code yX4_day cX4_day 1 (some .int) :: ALL) ({ frames := 0, cells := 0, slots := 0, locals := 0 }) (PM D t b σ [.ref (b + 0)]) (QG D t b σ (some (.int r))) 0 0 (geA b) := by
  refine Met.ofW (cc := cX4_day) (maxL := 1) (ret := (some .int)) (by decide) rfl ?_
  intro p e s m args below meth c s₁ B hml hv
  obtain ⟨rfl, hW, hE⟩ := hv
  have hx := B.exec
  have hb := B.bytes
  have hr := B.returns
  have hts := atoms_spec (ws := Cond.code yX4_day cX4_day 1 (some .int) :: ALL) B.pre
  have hta := fun w h => hts w (List.mem_cons_of_mem _ h)
  have hown : s.vm.findClass RX4 = some m.cls := findClass_of_methodNamed B.named
  have hlocks := B.notSynchronized
  have hS : va_S (geA b) s.heap s.heap [] := va_S.rf
  have hl := lv_entry ([.ref (b + 0)]) (n := 1) (Nat.le_of_ble_eq_true rfl)
  rw [lg_entry_eq]
  generalize (lg_sl ([.ref (b + 0)]) ++ List.replicate (1 - (lg_sl ([.ref (b + 0)])).length) Slot.unset).toArray = ls at hl ⊢
  have hl : lv_has ls 1 [(0, .ref (b + 0))] := hl
  unfold f_X4_day at hf
  refine lv_aload_n hx hb dX4_day_0 rfl (lv_at hl 0 rfl) ?_
  refine getP hx hb hta hown hE.1 hW 0 (by decide) q332 rfl dX4_day_1 ?_
  refine getF hx hb hta hown hE.1 hW sh_1 6 (by decide) q241 rfl dX4_day_4 ?_
  cases hf
  exact W.iret hx hb hr (fun u hu _ => ⟨⟨rfl, by rw [hu]; exact hW⟩, hS.F hu⟩) hS.2.2 dX4_day_7
def f_X4_round (σ : Sg) : Option Int32 := some (σ 1 7)
set_option maxHeartbeats 4000000 in
set_option maxRecDepth 100000 in
theorem c_X4_round (l : Launch) (D : va_G) (t : Nat → ClassId) (b : Nat) (σ : Sg) (r : Int32) (hf : f_X4_round σ = some r) : Met l yX4_round (Cond.code yX4_round cX4_round 1 (some .int) :: ALL) ({ frames := 0, cells := 0, slots := 0, locals := 0 }) (PM D t b σ [.ref (b + 0)]) (QG D t b σ (some (.int r))) 0 0 (geA b) := by
  refine Met.ofW (cc := cX4_round) (maxL := 1) (ret := (some .int)) (by decide) rfl ?_
  intro p e s m args below meth c s₁ B hml hv
  obtain ⟨rfl, hW, hE⟩ := hv
  have hx := B.exec
  have hb := B.bytes
  have hr := B.returns
  have hts := atoms_spec (ws := Cond.code yX4_round cX4_round 1 (some .int) :: ALL) B.pre
  have hta := fun w h => hts w (List.mem_cons_of_mem _ h)
  have hown : s.vm.findClass RX4 = some m.cls := findClass_of_methodNamed B.named
  have hlocks := B.notSynchronized
  have hS : va_S (geA b) s.heap s.heap [] := va_S.rf
  have hl := lv_entry ([.ref (b + 0)]) (n := 1) (Nat.le_of_ble_eq_true rfl)
  rw [lg_entry_eq]
  generalize (lg_sl ([.ref (b + 0)]) ++ List.replicate (1 - (lg_sl ([.ref (b + 0)])).length) Slot.unset).toArray = ls at hl ⊢
  have hl : lv_has ls 1 [(0, .ref (b + 0))] := hl
  unfold f_X4_round at hf
  refine lv_aload_n hx hb dX4_round_0 rfl (lv_at hl 0 rfl) ?_
  refine getP hx hb hta hown hE.1 hW 0 (by decide) q332 rfl dX4_round_1 ?_
  refine getF hx hb hta hown hE.1 hW sh_1 7 (by decide) q243 rfl dX4_round_4 ?_
  cases hf
  exact W.iret hx hb hr (fun u hu _ => ⟨⟨rfl, by rw [hu]; exact hW⟩, hS.F hu⟩) hS.2.2 dX4_round_7
def f_X4_isChildDue (σ : Sg) : Option Int32 := b1 (f_X1_childComesNext 1 σ) fun y1 => gd y1 2 (some y1)
set_option maxHeartbeats 4000000 in
set_option maxRecDepth 100000 in
theorem c_X4_isChildDue (l : Launch) (D : va_G) (t : Nat → ClassId) (b : Nat) (σ : Sg) (r : Int32) (hf : f_X4_isChildDue σ = some r) : Met l yX4_isChildDue (Cond.code yX4_isChildDue cX4_isChildDue 1 (some .boolean) :: ALL) ({ frames := 3, cells := 0, slots := 0, locals := 64 }) (PM D t b σ [.ref (b + 0)]) (QG D t b σ (some (.int r))) 0 0 (geA b) := by
  refine Met.ofW (cc := cX4_isChildDue) (maxL := 1) (ret := (some .boolean)) (by decide) rfl ?_
  intro p e s m args below meth c s₁ B hml hv
  obtain ⟨rfl, hW, hE⟩ := hv
  have hx := B.exec
  have hb := B.bytes
  have hr := B.returns
  have hts := atoms_spec (ws := Cond.code yX4_isChildDue cX4_isChildDue 1 (some .boolean) :: ALL) B.pre
  have hta := fun w h => hts w (List.mem_cons_of_mem _ h)
  have hown : s.vm.findClass RX4 = some m.cls := findClass_of_methodNamed B.named
  have hlocks := B.notSynchronized
  have hS : va_S (geA b) s.heap s.heap [] := va_S.rf
  have hl := lv_entry ([.ref (b + 0)]) (n := 1) (Nat.le_of_ble_eq_true rfl)
  rw [lg_entry_eq]
  generalize (lg_sl ([.ref (b + 0)]) ++ List.replicate (1 - (lg_sl ([.ref (b + 0)])).length) Slot.unset).toArray = ls at hl ⊢
  have hl : lv_has ls 1 [(0, .ref (b + 0))] := hl
  unfold f_X4_isChildDue at hf
  refine lv_aload_n hx hb dX4_isChildDue_0 rfl (lv_at hl 0 rfl) ?_
  refine getP hx hb hta hown hE.1 hW 0 (by decide) q332 rfl dX4_isChildDue_1 ?_
  obtain ⟨y1, u2, hf⟩ := b1_e hf
  refine mV (k := 1) (q := (1, 0)) (C := RX1) (T := TX1) (N := 13) (ci := 1) (n := 0) (As := []) (rest := []) (c_X1_childComesNext l D t b 1 σ y1 sh_1 u2) sh_1 (by decide) rfl rfl hx hb hml hown hts hE hW hS q486 q487 q488 q92 q489 hy_X1_childComesNext ⟨rfl, rfl⟩ ⟨Nat.le_of_ble_eq_true rfl, Nat.le_of_ble_eq_true rfl⟩ rfl rfl hl.1 (Nat.le_of_ble_eq_true rfl) ⟨Nat.zero_le _, Nat.zero_le _⟩ dX4_isChildDue_4 (fun H locs hW hS => ?_)
  obtain ⟨g3, hf⟩ := gd_e hf
  cases hf
  exact W.zret (ty := .boolean) hx hb hr (nar_bool g3).1 (fun u hu _ => ⟨⟨rfl, by rw [hu]; exact hW⟩, hS.F hu⟩) hS.2.2 dX4_isChildDue_7
def f_X4_bank (σ : Sg) : Option Int32 := some (σ 1 0)
set_option maxHeartbeats 4000000 in
set_option maxRecDepth 100000 in
theorem c_X4_bank (l : Launch) (D : va_G) (t : Nat → ClassId) (b : Nat) (σ : Sg) (r : Int32) (hf : f_X4_bank σ = some r) : Met l yX4_bank (Cond.code yX4_bank cX4_bank 1 (some .int) :: ALL) ({ frames := 0, cells := 0, slots := 0, locals := 0 }) (PM D t b σ [.ref (b + 0)]) (QG D t b σ (some (.int r))) 0 0 (geA b) := by
  refine Met.ofW (cc := cX4_bank) (maxL := 1) (ret := (some .int)) (by decide) rfl ?_
  intro p e s m args below meth c s₁ B hml hv
  obtain ⟨rfl, hW, hE⟩ := hv
  have hx := B.exec
  have hb := B.bytes
  have hr := B.returns
  have hts := atoms_spec (ws := Cond.code yX4_bank cX4_bank 1 (some .int) :: ALL) B.pre
  have hta := fun w h => hts w (List.mem_cons_of_mem _ h)
  have hown : s.vm.findClass RX4 = some m.cls := findClass_of_methodNamed B.named
  have hlocks := B.notSynchronized
  have hS : va_S (geA b) s.heap s.heap [] := va_S.rf
  have hl := lv_entry ([.ref (b + 0)]) (n := 1) (Nat.le_of_ble_eq_true rfl)
  rw [lg_entry_eq]
  generalize (lg_sl ([.ref (b + 0)]) ++ List.replicate (1 - (lg_sl ([.ref (b + 0)])).length) Slot.unset).toArray = ls at hl ⊢
  have hl : lv_has ls 1 [(0, .ref (b + 0))] := hl
  unfold f_X4_bank at hf
  refine lv_aload_n hx hb dX4_bank_0 rfl (lv_at hl 0 rfl) ?_
  refine getP hx hb hta hown hE.1 hW 0 (by decide) q332 rfl dX4_bank_1 ?_
  refine getF hx hb hta hown hE.1 hW sh_1 0 (by decide) q229 rfl dX4_bank_4 ?_
  cases hf
  exact W.iret hx hb hr (fun u hu _ => ⟨⟨rfl, by rw [hu]; exact hW⟩, hS.F hu⟩) hS.2.2 dX4_bank_7
def f_X4_town (σ : Sg) : Option Int32 := some (σ 1 1)
set_option maxHeartbeats 4000000 in
set_option maxRecDepth 100000 in
theorem c_X4_town (l : Launch) (D : va_G) (t : Nat → ClassId) (b : Nat) (σ : Sg) (r : Int32) (hf : f_X4_town σ = some r) : Met l yX4_town (Cond.code yX4_town cX4_town 1 (some .int) :: ALL) ({ frames := 0, cells := 0, slots := 0, locals := 0 }) (PM D t b σ [.ref (b + 0)]) (QG D t b σ (some (.int r))) 0 0 (geA b) := by
  refine Met.ofW (cc := cX4_town) (maxL := 1) (ret := (some .int)) (by decide) rfl ?_
  intro p e s m args below meth c s₁ B hml hv
  obtain ⟨rfl, hW, hE⟩ := hv
  have hx := B.exec
  have hb := B.bytes
  have hr := B.returns
  have hts := atoms_spec (ws := Cond.code yX4_town cX4_town 1 (some .int) :: ALL) B.pre
  have hta := fun w h => hts w (List.mem_cons_of_mem _ h)
  have hown : s.vm.findClass RX4 = some m.cls := findClass_of_methodNamed B.named
  have hlocks := B.notSynchronized
  have hS : va_S (geA b) s.heap s.heap [] := va_S.rf
  have hl := lv_entry ([.ref (b + 0)]) (n := 1) (Nat.le_of_ble_eq_true rfl)
  rw [lg_entry_eq]
  generalize (lg_sl ([.ref (b + 0)]) ++ List.replicate (1 - (lg_sl ([.ref (b + 0)])).length) Slot.unset).toArray = ls at hl ⊢
  have hl : lv_has ls 1 [(0, .ref (b + 0))] := hl
  unfold f_X4_town at hf
  refine lv_aload_n hx hb dX4_town_0 rfl (lv_at hl 0 rfl) ?_
  refine getP hx hb hta hown hE.1 hW 0 (by decide) q332 rfl dX4_town_1 ?_
  refine getF hx hb hta hown hE.1 hW sh_1 1 (by decide) q231 rfl dX4_town_4 ?_
  cases hf
  exact W.iret hx hb hr (fun u hu _ => ⟨⟨rfl, by rw [hu]; exact hW⟩, hS.F hu⟩) hS.2.2 dX4_town_7
def f_X4_allCoins (σ : Sg) : Option Int32 := some (500 + (σ 1 3))
set_option maxHeartbeats 4000000 in
set_option maxRecDepth 100000 in
theorem c_X4_allCoins (l : Launch) (D : va_G) (t : Nat → ClassId) (b : Nat) (σ : Sg) (r : Int32) (hf : f_X4_allCoins σ = some r) : Met l yX4_allCoins (Cond.code yX4_allCoins cX4_allCoins 1 (some .int) :: ALL) ({ frames := 0, cells := 0, slots := 0, locals := 0 }) (PM D t b σ [.ref (b + 0)]) (QG D t b σ (some (.int r))) 0 0 (geA b) := by
  refine Met.ofW (cc := cX4_allCoins) (maxL := 1) (ret := (some .int)) (by decide) rfl ?_
  intro p e s m args below meth c s₁ B hml hv
  obtain ⟨rfl, hW, hE⟩ := hv
  have hx := B.exec
  have hb := B.bytes
  have hr := B.returns
  have hts := atoms_spec (ws := Cond.code yX4_allCoins cX4_allCoins 1 (some .int) :: ALL) B.pre
  have hta := fun w h => hts w (List.mem_cons_of_mem _ h)
  have hown : s.vm.findClass RX4 = some m.cls := findClass_of_methodNamed B.named
  have hlocks := B.notSynchronized
  have hS : va_S (geA b) s.heap s.heap [] := va_S.rf
  have hl := lv_entry ([.ref (b + 0)]) (n := 1) (Nat.le_of_ble_eq_true rfl)
  rw [lg_entry_eq]
  generalize (lg_sl ([.ref (b + 0)]) ++ List.replicate (1 - (lg_sl ([.ref (b + 0)])).length) Slot.unset).toArray = ls at hl ⊢
  have hl : lv_has ls 1 [(0, .ref (b + 0))] := hl
  unfold f_X4_allCoins at hf
  refine lv_sipush (v := 500) hx hb dX4_allCoins_0 (by decide) ?_
  refine lv_aload_n hx hb dX4_allCoins_3 rfl (lv_at hl 0 rfl) ?_
  refine getP hx hb hta hown hE.1 hW 0 (by decide) q332 rfl dX4_allCoins_4 ?_
  refine getF hx hb hta hown hE.1 hW sh_1 3 (by decide) q235 rfl dX4_allCoins_7 ?_
  refine lv_iadd hx hb dX4_allCoins_10 ?_
  cases hf
  exact W.iret hx hb hr (fun u hu _ => ⟨⟨rfl, by rw [hu]; exact hW⟩, hS.F hu⟩) hS.2.2 dX4_allCoins_11
def l_X1_coinsInStalls_4 (c0 : Nat) : Nat → Sg → Int32 → Int32 → Option Int32
  | 0, _, _, _ => none
  | n + 1, τ, x1, x2 => if (τ c0 10) ≤ x2 then (some x1) else (gd x2 7 (l_X1_coinsInStalls_4 c0 n τ (x1 + (τ (sk (c0 + 3) x2) 5)) (x2 + 1)))
def f_X1_coinsInStalls (c0 : Nat) (σ : Sg) : Option Int32 := l_X1_coinsInStalls_4 c0 10000 σ 0 0
set_option maxHeartbeats 4000000 in
set_option maxRecDepth 100000 in
theorem c_X1_coinsInStalls (l : Launch) (D : va_G) (t : Nat → ClassId) (b : Nat) (c0 : Nat) (σ : Sg) (r : Int32) (hc0 : sh c0 = (1, 0)) (hf : f_X1_coinsInStalls c0 σ = some r) : Met l yX1_coinsInStalls (Cond.code yX1_coinsInStalls cX1_coinsInStalls 3 (some .int) :: ALL) ({ frames := 0, cells := 0, slots := 0, locals := 0 }) (PM D t b σ [.ref (b + c0)]) (QG D t b σ (some (.int r))) 0 0 (geA b) := by
  refine Met.ofW (cc := cX1_coinsInStalls) (maxL := 3) (ret := (some .int)) (by decide) rfl ?_
  intro p e s m args below meth c s₁ B hml hv
  obtain ⟨rfl, hW, hE⟩ := hv
  have hx := B.exec
  have hb := B.bytes
  have hr := B.returns
  have hts := atoms_spec (ws := Cond.code yX1_coinsInStalls cX1_coinsInStalls 3 (some .int) :: ALL) B.pre
  have hta := fun w h => hts w (List.mem_cons_of_mem _ h)
  have hown : s.vm.findClass RX1 = some m.cls := findClass_of_methodNamed B.named
  have hlocks := B.notSynchronized
  have hS : va_S (geA b) s.heap s.heap [] := va_S.rf
  have hl := lv_entry ([.ref (b + c0)]) (n := 3) (Nat.le_of_ble_eq_true rfl)
  rw [lg_entry_eq]
  generalize (lg_sl ([.ref (b + c0)]) ++ List.replicate (3 - (lg_sl ([.ref (b + c0)])).length) Slot.unset).toArray = ls at hl ⊢
  have hl : lv_has ls 3 [(0, .ref (b + c0))] := hl
  unfold f_X1_coinsInStalls at hf
  refine lv_iconst (v := 0) hx hb dX1_coinsInStalls_0 (by decide) ?_
  refine lv_istore_n (lv' := [(1, .int 0), (0, .ref (b + c0))]) hx hb dX1_coinsInStalls_1 rfl hl (by decide) rfl (fun ls hl => ?_)
  refine lv_iconst (v := 0) hx hb dX1_coinsInStalls_2 (by decide) ?_
  refine lv_istore_n (lv' := [(2, .int 0), (1, .int 0), (0, .ref (b + c0))]) hx hb dX1_coinsInStalls_3 rfl hl (by decide) rfl (fun ls hl => ?_)
  have key_4 : ∀ (n : Nat) (τ : Sg) (x1 : Int32) (x2 : Int32) (H : Heap) (locs : List Loc) (ls : Array Slot), l_X1_coinsInStalls_4 c0 n τ x1 x2 = some r → wd D t b τ H → va_S (geA b) s.heap H locs → lv_has ls 3 [(0, .ref (b + c0)), (1, .int x1), (2, .int x2)] → W p l e (headSpec (Cond.code yX1_coinsInStalls cX1_coinsInStalls 3 (some .int) :: ALL) ({ frames := 0, cells := 0, slots := 0, locals := 0 })).room s m (([.ref (b + c0)] : List Value).toArray) below meth c H locs 0 0 (MQ below (QG D t b τ (some (.int r))) (([.ref (b + c0)] : List Value).toArray) s 0 0 (geA b)) (F0 m 4 ls []) := by
    intro n
    induction n with
    | zero =>
      intro τ x1 x2 H locs ls hf
      rw [l_X1_coinsInStalls_4.eq_1] at hf
      cases hf
    | succ n ih_4 =>
      intro τ x1 x2 H locs ls hf hW hS hl
      rw [l_X1_coinsInStalls_4.eq_2] at hf
      refine lv_iload_n hx hb dX1_coinsInStalls_4 rfl (lv_at hl 2 rfl) ?_
      refine lv_aload_n hx hb dX1_coinsInStalls_5 rfl (lv_at hl 0 rfl) ?_
      refine getF hx hb hta hown hE.1 hW hc0 10 (by decide) q248 rfl dX1_coinsInStalls_6 ?_
      refine lv_icmp_ge (tgt := 30) hx hb dX1_coinsInStalls_9 (by decide) (fun h1 => ?_) (fun h1 => ?_)
      · have hf := ifp h1 hf
        refine lv_iload_n hx hb dX1_coinsInStalls_30 rfl (lv_at hl 1 rfl) ?_
        cases hf
        exact W.iret hx hb hr (fun u hu _ => ⟨⟨rfl, by rw [hu]; exact hW⟩, hS.F hu⟩) hS.2.2 dX1_coinsInStalls_31
      · have hf := ifn h1 hf
        refine lv_iload_n hx hb dX1_coinsInStalls_12 rfl (lv_at hl 1 rfl) ?_
        refine lv_aload_n hx hb dX1_coinsInStalls_13 rfl (lv_at hl 0 rfl) ?_
        refine getF hx hb hta hown hE.1 hW hc0 11 (by decide) q250 rfl dX1_coinsInStalls_14 ?_
        refine lv_iload_n hx hb dX1_coinsInStalls_17 rfl (lv_at hl 2 rfl) ?_
        obtain ⟨g2, hf⟩ := gd_e hf
        refine sald hx hb hE.1 hW (shF_3 hc0) g2 dX1_coinsInStalls_18 ?_
        refine getS hx hb hta hown hE.1 hW (shF_sk hc0 g2) 5 (by decide) q195 rfl dX1_coinsInStalls_19 ?_
        refine lv_iadd hx hb dX1_coinsInStalls_22 ?_
        refine lv_istore_n (lv' := [(1, .int (x1 + (τ (sk (c0 + 3) x2) 5))), (0, .ref (b + c0)), (2, .int x2)]) hx hb dX1_coinsInStalls_23 rfl hl (by decide) rfl (fun ls hl => ?_)
        refine lv_iinc (v := (x2 + 1)) (lv' := [(2, .int (x2 + 1)), (1, .int (x1 + (τ (sk (c0 + 3) x2) 5))), (0, .ref (b + c0))]) hx hb dX1_coinsInStalls_24 hl (k := 2) rfl (by rfl) (by decide) rfl (fun ls hl => ?_)
        refine lv_goto (tgt := 4) hx hb dX1_coinsInStalls_27 (by decide) ?_
        exact ih_4 τ (x1 + (τ (sk (c0 + 3) x2) 5)) (x2 + 1) _ _ _ hf hW hS (lv_sub hl [2, 1, 0] rfl)
  exact key_4 10000 σ 0 0 _ _ _ hf hW hS (lv_sub hl [2, 1, 0] rfl)
def l_X0_coinsInPurses_4 (c0 : Nat) : Nat → Sg → Int32 → Int32 → Option Int32
  | 0, _, _, _ => none
  | n + 1, τ, x1, x2 => if (τ c0 0) ≤ x2 then (some x1) else (gd x2 200 (l_X0_coinsInPurses_4 c0 n τ (x1 + (τ (c0 + 1) (x2).toNatClampNeg)) (x2 + 1)))
def f_X0_coinsInPurses (c0 : Nat) (σ : Sg) : Option Int32 := l_X0_coinsInPurses_4 c0 10000 σ 0 0
set_option maxHeartbeats 4000000 in
set_option maxRecDepth 100000 in
theorem c_X0_coinsInPurses (l : Launch) (D : va_G) (t : Nat → ClassId) (b : Nat) (c0 : Nat) (σ : Sg) (r : Int32) (hc0 : sh c0 = (2, 0)) (hf : f_X0_coinsInPurses c0 σ = some r) : Met l yX0_coinsInPurses (Cond.code yX0_coinsInPurses cX0_coinsInPurses 3 (some .int) :: ALL) ({ frames := 0, cells := 0, slots := 0, locals := 0 }) (PM D t b σ [.ref (b + c0)]) (QG D t b σ (some (.int r))) 0 0 (geA b) := by
  refine Met.ofW (cc := cX0_coinsInPurses) (maxL := 3) (ret := (some .int)) (by decide) rfl ?_
  intro p e s m args below meth c s₁ B hml hv
  obtain ⟨rfl, hW, hE⟩ := hv
  have hx := B.exec
  have hb := B.bytes
  have hr := B.returns
  have hts := atoms_spec (ws := Cond.code yX0_coinsInPurses cX0_coinsInPurses 3 (some .int) :: ALL) B.pre
  have hta := fun w h => hts w (List.mem_cons_of_mem _ h)
  have hown : s.vm.findClass RX0 = some m.cls := findClass_of_methodNamed B.named
  have hlocks := B.notSynchronized
  have hS : va_S (geA b) s.heap s.heap [] := va_S.rf
  have hl := lv_entry ([.ref (b + c0)]) (n := 3) (Nat.le_of_ble_eq_true rfl)
  rw [lg_entry_eq]
  generalize (lg_sl ([.ref (b + c0)]) ++ List.replicate (3 - (lg_sl ([.ref (b + c0)])).length) Slot.unset).toArray = ls at hl ⊢
  have hl : lv_has ls 3 [(0, .ref (b + c0))] := hl
  unfold f_X0_coinsInPurses at hf
  refine lv_iconst (v := 0) hx hb dX0_coinsInPurses_0 (by decide) ?_
  refine lv_istore_n (lv' := [(1, .int 0), (0, .ref (b + c0))]) hx hb dX0_coinsInPurses_1 rfl hl (by decide) rfl (fun ls hl => ?_)
  refine lv_iconst (v := 0) hx hb dX0_coinsInPurses_2 (by decide) ?_
  refine lv_istore_n (lv' := [(2, .int 0), (1, .int 0), (0, .ref (b + c0))]) hx hb dX0_coinsInPurses_3 rfl hl (by decide) rfl (fun ls hl => ?_)
  have key_4 : ∀ (n : Nat) (τ : Sg) (x1 : Int32) (x2 : Int32) (H : Heap) (locs : List Loc) (ls : Array Slot), l_X0_coinsInPurses_4 c0 n τ x1 x2 = some r → wd D t b τ H → va_S (geA b) s.heap H locs → lv_has ls 3 [(0, .ref (b + c0)), (1, .int x1), (2, .int x2)] → W p l e (headSpec (Cond.code yX0_coinsInPurses cX0_coinsInPurses 3 (some .int) :: ALL) ({ frames := 0, cells := 0, slots := 0, locals := 0 })).room s m (([.ref (b + c0)] : List Value).toArray) below meth c H locs 0 0 (MQ below (QG D t b τ (some (.int r))) (([.ref (b + c0)] : List Value).toArray) s 0 0 (geA b)) (F0 m 4 ls []) := by
    intro n
    induction n with
    | zero =>
      intro τ x1 x2 H locs ls hf
      rw [l_X0_coinsInPurses_4.eq_1] at hf
      cases hf
    | succ n ih_4 =>
      intro τ x1 x2 H locs ls hf hW hS hl
      rw [l_X0_coinsInPurses_4.eq_2] at hf
      refine lv_iload_n hx hb dX0_coinsInPurses_4 rfl (lv_at hl 2 rfl) ?_
      refine lv_aload_n hx hb dX0_coinsInPurses_5 rfl (lv_at hl 0 rfl) ?_
      refine getC hx hb hta hown hE.1 hW hc0 0 (by decide) q127 rfl dX0_coinsInPurses_6 ?_
      refine lv_icmp_ge (tgt := 27) hx hb dX0_coinsInPurses_9 (by decide) (fun h1 => ?_) (fun h1 => ?_)
      · have hf := ifp h1 hf
        refine lv_iload_n hx hb dX0_coinsInPurses_27 rfl (lv_at hl 1 rfl) ?_
        cases hf
        exact W.iret hx hb hr (fun u hu _ => ⟨⟨rfl, by rw [hu]; exact hW⟩, hS.F hu⟩) hS.2.2 dX0_coinsInPurses_28
      · have hf := ifn h1 hf
        refine lv_iload_n hx hb dX0_coinsInPurses_12 rfl (lv_at hl 1 rfl) ?_
        refine lv_aload_n hx hb dX0_coinsInPurses_13 rfl (lv_at hl 0 rfl) ?_
        refine getC hx hb hta hown hE.1 hW hc0 2 (by decide) q132 rfl dX0_coinsInPurses_14 ?_
        refine lv_iload_n hx hb dX0_coinsInPurses_17 rfl (lv_at hl 2 rfl) ?_
        obtain ⟨g2, hf⟩ := gd_e hf
        refine iald hx hb hE.1 hW (shC_1 hc0) g2 dX0_coinsInPurses_18 ?_
        refine lv_iadd hx hb dX0_coinsInPurses_19 ?_
        refine lv_istore_n (lv' := [(1, .int (x1 + (τ (c0 + 1) (x2).toNatClampNeg))), (0, .ref (b + c0)), (2, .int x2)]) hx hb dX0_coinsInPurses_20 rfl hl (by decide) rfl (fun ls hl => ?_)
        refine lv_iinc (v := (x2 + 1)) (lv' := [(2, .int (x2 + 1)), (1, .int (x1 + (τ (c0 + 1) (x2).toNatClampNeg))), (0, .ref (b + c0))]) hx hb dX0_coinsInPurses_21 hl (k := 2) rfl (by rfl) (by decide) rfl (fun ls hl => ?_)
        refine lv_goto (tgt := 4) hx hb dX0_coinsInPurses_24 (by decide) ?_
        exact ih_4 τ (x1 + (τ (c0 + 1) (x2).toNatClampNeg)) (x2 + 1) _ _ _ hf hW hS (lv_sub hl [2, 1, 0] rfl)
  exact key_4 10000 σ 0 0 _ _ _ hf hW hS (lv_sub hl [2, 1, 0] rfl)
def f_X4_coinsByPlaces (σ : Sg) : Option Int32 := b1 (f_X1_coinsInStalls 1 σ) fun y1 => b1 (f_X0_coinsInPurses (1 + 4) σ) fun y3 => some (((((σ 1 0) + y1) + y3) + (σ 1 1)) + (σ 1 2))
set_option maxHeartbeats 4000000 in
set_option maxRecDepth 100000 in
theorem c_X4_coinsByPlaces (l : Launch) (D : va_G) (t : Nat → ClassId) (b : Nat) (σ : Sg) (r : Int32) (hf : f_X4_coinsByPlaces σ = some r) : Met l yX4_coinsByPlaces (Cond.code yX4_coinsByPlaces cX4_coinsByPlaces 1 (some .int) :: ALL) ({ frames := 1, cells := 0, slots := 0, locals := 22 }) (PM D t b σ [.ref (b + 0)]) (QG D t b σ (some (.int r))) 0 0 (geA b) := by
  refine Met.ofW (cc := cX4_coinsByPlaces) (maxL := 1) (ret := (some .int)) (by decide) rfl ?_
  intro p e s m args below meth c s₁ B hml hv
  obtain ⟨rfl, hW, hE⟩ := hv
  have hx := B.exec
  have hb := B.bytes
  have hr := B.returns
  have hts := atoms_spec (ws := Cond.code yX4_coinsByPlaces cX4_coinsByPlaces 1 (some .int) :: ALL) B.pre
  have hta := fun w h => hts w (List.mem_cons_of_mem _ h)
  have hown : s.vm.findClass RX4 = some m.cls := findClass_of_methodNamed B.named
  have hlocks := B.notSynchronized
  have hS : va_S (geA b) s.heap s.heap [] := va_S.rf
  have hl := lv_entry ([.ref (b + 0)]) (n := 1) (Nat.le_of_ble_eq_true rfl)
  rw [lg_entry_eq]
  generalize (lg_sl ([.ref (b + 0)]) ++ List.replicate (1 - (lg_sl ([.ref (b + 0)])).length) Slot.unset).toArray = ls at hl ⊢
  have hl : lv_has ls 1 [(0, .ref (b + 0))] := hl
  unfold f_X4_coinsByPlaces at hf
  refine lv_aload_n hx hb dX4_coinsByPlaces_0 rfl (lv_at hl 0 rfl) ?_
  refine getP hx hb hta hown hE.1 hW 0 (by decide) q332 rfl dX4_coinsByPlaces_1 ?_
  refine getF hx hb hta hown hE.1 hW sh_1 0 (by decide) q229 rfl dX4_coinsByPlaces_4 ?_
  refine lv_aload_n hx hb dX4_coinsByPlaces_7 rfl (lv_at hl 0 rfl) ?_
  refine getP hx hb hta hown hE.1 hW 0 (by decide) q332 rfl dX4_coinsByPlaces_8 ?_
  obtain ⟨y1, u2, hf⟩ := b1_e hf
  refine mV (k := 1) (q := (1, 0)) (C := RX1) (T := TX1) (N := 13) (ci := 1) (n := 0) (As := []) (rest := [.int (σ 1 0)]) (c_X1_coinsInStalls l D t b 1 σ y1 sh_1 u2) sh_1 (by decide) rfl rfl hx hb hml hown hts hE hW hS q518 q519 q520 q92 q521 hy_X1_coinsInStalls ⟨rfl, rfl⟩ ⟨Nat.le_of_ble_eq_true rfl, Nat.le_of_ble_eq_true rfl⟩ rfl rfl hl.1 (Nat.le_of_ble_eq_true rfl) ⟨Nat.zero_le _, Nat.zero_le _⟩ dX4_coinsByPlaces_11 (fun H locs hW hS => ?_)
  refine lv_iadd hx hb dX4_coinsByPlaces_14 ?_
  refine lv_aload_n hx hb dX4_coinsByPlaces_15 rfl (lv_at hl 0 rfl) ?_
  refine getP hx hb hta hown hE.1 hW 0 (by decide) q332 rfl dX4_coinsByPlaces_16 ?_
  refine getF hx hb hta hown hE.1 hW sh_1 12 (by decide) q253 rfl dX4_coinsByPlaces_19 ?_
  obtain ⟨y3, u4, hf⟩ := b1_e hf
  refine mV (k := (1 + 4)) (q := (2, 0)) (C := RX0) (T := TX0) (N := 10) (ci := 0) (n := 0) (As := []) (rest := [.int ((σ 1 0) + y1)]) (c_X0_coinsInPurses l D t b (1 + 4) σ y3 (shF_4 sh_1) u4) (shF_4 sh_1) (by decide) rfl rfl hx hb hml hown hts hE hW hS q522 q523 q524 q93 q525 hy_X0_coinsInPurses ⟨rfl, rfl⟩ ⟨Nat.le_of_ble_eq_true rfl, Nat.le_of_ble_eq_true rfl⟩ rfl rfl hl.1 (Nat.le_of_ble_eq_true rfl) ⟨Nat.zero_le _, Nat.zero_le _⟩ dX4_coinsByPlaces_22 (fun H locs hW hS => ?_)
  refine lv_iadd hx hb dX4_coinsByPlaces_25 ?_
  refine lv_aload_n hx hb dX4_coinsByPlaces_26 rfl (lv_at hl 0 rfl) ?_
  refine getP hx hb hta hown hE.1 hW 0 (by decide) q332 rfl dX4_coinsByPlaces_27 ?_
  refine getF hx hb hta hown hE.1 hW sh_1 1 (by decide) q231 rfl dX4_coinsByPlaces_30 ?_
  refine lv_iadd hx hb dX4_coinsByPlaces_33 ?_
  refine lv_aload_n hx hb dX4_coinsByPlaces_34 rfl (lv_at hl 0 rfl) ?_
  refine getP hx hb hta hown hE.1 hW 0 (by decide) q332 rfl dX4_coinsByPlaces_35 ?_
  refine getF hx hb hta hown hE.1 hW sh_1 2 (by decide) q233 rfl dX4_coinsByPlaces_38 ?_
  refine lv_iadd hx hb dX4_coinsByPlaces_41 ?_
  cases hf
  exact W.iret hx hb hr (fun u hu _ => ⟨⟨rfl, by rw [hu]; exact hW⟩, hS.F hu⟩) hS.2.2 dX4_coinsByPlaces_42
def f_X4_takings (σ : Sg) : Option Int32 := some (σ 1 4)
set_option maxHeartbeats 4000000 in
set_option maxRecDepth 100000 in
theorem c_X4_takings (l : Launch) (D : va_G) (t : Nat → ClassId) (b : Nat) (σ : Sg) (r : Int32) (hf : f_X4_takings σ = some r) : Met l yX4_takings (Cond.code yX4_takings cX4_takings 1 (some .int) :: ALL) ({ frames := 0, cells := 0, slots := 0, locals := 0 }) (PM D t b σ [.ref (b + 0)]) (QG D t b σ (some (.int r))) 0 0 (geA b) := by
  refine Met.ofW (cc := cX4_takings) (maxL := 1) (ret := (some .int)) (by decide) rfl ?_
  intro p e s m args below meth c s₁ B hml hv
  obtain ⟨rfl, hW, hE⟩ := hv
  have hx := B.exec
  have hb := B.bytes
  have hr := B.returns
  have hts := atoms_spec (ws := Cond.code yX4_takings cX4_takings 1 (some .int) :: ALL) B.pre
  have hta := fun w h => hts w (List.mem_cons_of_mem _ h)
  have hown : s.vm.findClass RX4 = some m.cls := findClass_of_methodNamed B.named
  have hlocks := B.notSynchronized
  have hS : va_S (geA b) s.heap s.heap [] := va_S.rf
  have hl := lv_entry ([.ref (b + 0)]) (n := 1) (Nat.le_of_ble_eq_true rfl)
  rw [lg_entry_eq]
  generalize (lg_sl ([.ref (b + 0)]) ++ List.replicate (1 - (lg_sl ([.ref (b + 0)])).length) Slot.unset).toArray = ls at hl ⊢
  have hl : lv_has ls 1 [(0, .ref (b + 0))] := hl
  unfold f_X4_takings at hf
  refine lv_aload_n hx hb dX4_takings_0 rfl (lv_at hl 0 rfl) ?_
  refine getP hx hb hta hown hE.1 hW 0 (by decide) q332 rfl dX4_takings_1 ?_
  refine getF hx hb hta hown hE.1 hW sh_1 4 (by decide) q237 rfl dX4_takings_4 ?_
  cases hf
  exact W.iret hx hb hr (fun u hu _ => ⟨⟨rfl, by rw [hu]; exact hW⟩, hS.F hu⟩) hS.2.2 dX4_takings_7
def f_X4_takingsByChildren (σ : Sg) : Option Int32 := b1 (f_X0_coinsInPurses (1 + 4) σ) fun y1 => some ((σ 1 3) - y1)
set_option maxHeartbeats 4000000 in
set_option maxRecDepth 100000 in
theorem c_X4_takingsByChildren (l : Launch) (D : va_G) (t : Nat → ClassId) (b : Nat) (σ : Sg) (r : Int32) (hf : f_X4_takingsByChildren σ = some r) : Met l yX4_takingsByChildren (Cond.code yX4_takingsByChildren cX4_takingsByChildren 1 (some .int) :: ALL) ({ frames := 1, cells := 0, slots := 0, locals := 22 }) (PM D t b σ [.ref (b + 0)]) (QG D t b σ (some (.int r))) 0 0 (geA b) := by
  refine Met.ofW (cc := cX4_takingsByChildren) (maxL := 1) (ret := (some .int)) (by decide) rfl ?_
  intro p e s m args below meth c s₁ B hml hv
  obtain ⟨rfl, hW, hE⟩ := hv
  have hx := B.exec
  have hb := B.bytes
  have hr := B.returns
  have hts := atoms_spec (ws := Cond.code yX4_takingsByChildren cX4_takingsByChildren 1 (some .int) :: ALL) B.pre
  have hta := fun w h => hts w (List.mem_cons_of_mem _ h)
  have hown : s.vm.findClass RX4 = some m.cls := findClass_of_methodNamed B.named
  have hlocks := B.notSynchronized
  have hS : va_S (geA b) s.heap s.heap [] := va_S.rf
  have hl := lv_entry ([.ref (b + 0)]) (n := 1) (Nat.le_of_ble_eq_true rfl)
  rw [lg_entry_eq]
  generalize (lg_sl ([.ref (b + 0)]) ++ List.replicate (1 - (lg_sl ([.ref (b + 0)])).length) Slot.unset).toArray = ls at hl ⊢
  have hl : lv_has ls 1 [(0, .ref (b + 0))] := hl
  unfold f_X4_takingsByChildren at hf
  refine lv_aload_n hx hb dX4_takingsByChildren_0 rfl (lv_at hl 0 rfl) ?_
  refine getP hx hb hta hown hE.1 hW 0 (by decide) q332 rfl dX4_takingsByChildren_1 ?_
  refine getF hx hb hta hown hE.1 hW sh_1 3 (by decide) q235 rfl dX4_takingsByChildren_4 ?_
  refine lv_aload_n hx hb dX4_takingsByChildren_7 rfl (lv_at hl 0 rfl) ?_
  refine getP hx hb hta hown hE.1 hW 0 (by decide) q332 rfl dX4_takingsByChildren_8 ?_
  refine getF hx hb hta hown hE.1 hW sh_1 12 (by decide) q253 rfl dX4_takingsByChildren_11 ?_
  obtain ⟨y1, u2, hf⟩ := b1_e hf
  refine mV (k := (1 + 4)) (q := (2, 0)) (C := RX0) (T := TX0) (N := 10) (ci := 0) (n := 0) (As := []) (rest := [.int (σ 1 3)]) (c_X0_coinsInPurses l D t b (1 + 4) σ y1 (shF_4 sh_1) u2) (shF_4 sh_1) (by decide) rfl rfl hx hb hml hown hts hE hW hS q522 q523 q524 q93 q525 hy_X0_coinsInPurses ⟨rfl, rfl⟩ ⟨Nat.le_of_ble_eq_true rfl, Nat.le_of_ble_eq_true rfl⟩ rfl rfl hl.1 (Nat.le_of_ble_eq_true rfl) ⟨Nat.zero_le _, Nat.zero_le _⟩ dX4_takingsByChildren_14 (fun H locs hW hS => ?_)
  refine lv_isub hx hb dX4_takingsByChildren_17 ?_
  cases hf
  exact W.iret hx hb hr (fun u hu _ => ⟨⟨rfl, by rw [hu]; exact hW⟩, hS.F hu⟩) hS.2.2 dX4_takingsByChildren_18
def f_X4_plays (σ : Sg) : Option Int32 := some (σ 1 5)
set_option maxHeartbeats 4000000 in
set_option maxRecDepth 100000 in
theorem c_X4_plays (l : Launch) (D : va_G) (t : Nat → ClassId) (b : Nat) (σ : Sg) (r : Int32) (hf : f_X4_plays σ = some r) : Met l yX4_plays (Cond.code yX4_plays cX4_plays 1 (some .int) :: ALL) ({ frames := 0, cells := 0, slots := 0, locals := 0 }) (PM D t b σ [.ref (b + 0)]) (QG D t b σ (some (.int r))) 0 0 (geA b) := by
  refine Met.ofW (cc := cX4_plays) (maxL := 1) (ret := (some .int)) (by decide) rfl ?_
  intro p e s m args below meth c s₁ B hml hv
  obtain ⟨rfl, hW, hE⟩ := hv
  have hx := B.exec
  have hb := B.bytes
  have hr := B.returns
  have hts := atoms_spec (ws := Cond.code yX4_plays cX4_plays 1 (some .int) :: ALL) B.pre
  have hta := fun w h => hts w (List.mem_cons_of_mem _ h)
  have hown : s.vm.findClass RX4 = some m.cls := findClass_of_methodNamed B.named
  have hlocks := B.notSynchronized
  have hS : va_S (geA b) s.heap s.heap [] := va_S.rf
  have hl := lv_entry ([.ref (b + 0)]) (n := 1) (Nat.le_of_ble_eq_true rfl)
  rw [lg_entry_eq]
  generalize (lg_sl ([.ref (b + 0)]) ++ List.replicate (1 - (lg_sl ([.ref (b + 0)])).length) Slot.unset).toArray = ls at hl ⊢
  have hl : lv_has ls 1 [(0, .ref (b + 0))] := hl
  unfold f_X4_plays at hf
  refine lv_aload_n hx hb dX4_plays_0 rfl (lv_at hl 0 rfl) ?_
  refine getP hx hb hta hown hE.1 hW 0 (by decide) q332 rfl dX4_plays_1 ?_
  refine getF hx hb hta hown hE.1 hW sh_1 5 (by decide) q239 rfl dX4_plays_4 ?_
  cases hf
  exact W.iret hx hb hr (fun u hu _ => ⟨⟨rfl, by rw [hu]; exact hW⟩, hS.F hu⟩) hS.2.2 dX4_plays_7
def f_X4_takingsToday (σ : Sg) : Option (Int32 × Sg) := b1 (f_X1_copyFrom 28 1 σ) fun σ3 => b1 (f_X1_letPass 28 σ3 (40 - (σ3 1 7))) fun σ6 => some (((σ6 28 4) - (σ6 1 4)), σ6)
set_option maxHeartbeats 4000000 in
set_option maxRecDepth 100000 in
theorem c_X4_takingsToday (l : Launch) (D : va_G) (t : Nat → ClassId) (b : Nat) (σ : Sg) (r : Int32) (σr : Sg) (hf : f_X4_takingsToday σ = some (r, σr)) : Met l yX4_takingsToday (Cond.code yX4_takingsToday cX4_takingsToday 1 (some .int) :: ALL) ({ frames := 4, cells := 0, slots := 0, locals := 103 }) (PM D t b σ [.ref (b + 0)]) (QG D t b σr (some (.int r))) 0 0 (geA b) := by
  refine Met.ofW (cc := cX4_takingsToday) (maxL := 1) (ret := (some .int)) (by decide) rfl ?_
  intro p e s m args below meth c s₁ B hml hv
  obtain ⟨rfl, hW, hE⟩ := hv
  have hx := B.exec
  have hb := B.bytes
  have hr := B.returns
  have hts := atoms_spec (ws := Cond.code yX4_takingsToday cX4_takingsToday 1 (some .int) :: ALL) B.pre
  have hta := fun w h => hts w (List.mem_cons_of_mem _ h)
  have hown : s.vm.findClass RX4 = some m.cls := findClass_of_methodNamed B.named
  have hlocks := B.notSynchronized
  have hS : va_S (geA b) s.heap s.heap [] := va_S.rf
  have hl := lv_entry ([.ref (b + 0)]) (n := 1) (Nat.le_of_ble_eq_true rfl)
  rw [lg_entry_eq]
  generalize (lg_sl ([.ref (b + 0)]) ++ List.replicate (1 - (lg_sl ([.ref (b + 0)])).length) Slot.unset).toArray = ls at hl ⊢
  have hl : lv_has ls 1 [(0, .ref (b + 0))] := hl
  unfold f_X4_takingsToday at hf
  refine lv_aload_n hx hb dX4_takingsToday_0 rfl (lv_at hl 0 rfl) ?_
  refine getP hx hb hta hown hE.1 hW 1 (by decide) q333 rfl dX4_takingsToday_1 ?_
  refine lv_aload_n hx hb dX4_takingsToday_4 rfl (lv_at hl 0 rfl) ?_
  refine getP hx hb hta hown hE.1 hW 0 (by decide) q332 rfl dX4_takingsToday_5 ?_
  obtain ⟨σ3, u2, hf⟩ := b1_e hf
  refine mV (k := 28) (q := (1, 0)) (C := RX1) (T := TX1) (N := 13) (ci := 1) (n := 1) (As := [.ref (b + 1)]) (rest := []) (c_X1_copyFrom l D t b 28 1 σ σ3 sh_28 sh_1 u2) sh_28 (by decide) rfl rfl hx hb hml hown hts hE hW hS q425 q426 q427 q92 q428 hy_X1_copyFrom ⟨rfl, rfl⟩ ⟨Nat.le_of_ble_eq_true rfl, Nat.le_of_ble_eq_true rfl⟩ rfl rfl hl.1 (Nat.le_of_ble_eq_true rfl) ⟨Nat.zero_le _, Nat.zero_le _⟩ dX4_takingsToday_8 (fun H locs hW hS => ?_)
  refine lv_aload_n hx hb dX4_takingsToday_11 rfl (lv_at hl 0 rfl) ?_
  refine getP hx hb hta hown hE.1 hW 1 (by decide) q333 rfl dX4_takingsToday_12 ?_
  refine lv_bipush (v := 40) hx hb dX4_takingsToday_15 (by decide) ?_
  refine lv_aload_n hx hb dX4_takingsToday_17 rfl (lv_at hl 0 rfl) ?_
  refine getP hx hb hta hown hE.1 hW 0 (by decide) q332 rfl dX4_takingsToday_18 ?_
  refine getF hx hb hta hown hE.1 hW sh_1 7 (by decide) q243 rfl dX4_takingsToday_21 ?_
  refine lv_isub hx hb dX4_takingsToday_24 ?_
  obtain ⟨σ6, u5, hf⟩ := b1_e hf
  refine mV (k := 28) (q := (1, 0)) (C := RX1) (T := TX1) (N := 13) (ci := 1) (n := 1) (As := [.int (40 - (σ3 1 7))]) (rest := []) (c_X1_letPass l D t b 28 σ3 (40 - (σ3 1 7)) σ6 sh_28 u5) sh_28 (by decide) rfl rfl hx hb hml hown hts hE hW hS q542 q543 q544 q92 q545 hy_X1_letPass ⟨rfl, rfl⟩ ⟨Nat.le_of_ble_eq_true rfl, Nat.le_of_ble_eq_true rfl⟩ rfl rfl hl.1 (Nat.le_of_ble_eq_true rfl) ⟨Nat.zero_le _, Nat.zero_le _⟩ dX4_takingsToday_25 (fun H locs hW hS => ?_)
  refine lv_aload_n hx hb dX4_takingsToday_28 rfl (lv_at hl 0 rfl) ?_
  refine getP hx hb hta hown hE.1 hW 1 (by decide) q333 rfl dX4_takingsToday_29 ?_
  refine getF hx hb hta hown hE.1 hW sh_28 4 (by decide) q237 rfl dX4_takingsToday_32 ?_
  refine lv_aload_n hx hb dX4_takingsToday_35 rfl (lv_at hl 0 rfl) ?_
  refine getP hx hb hta hown hE.1 hW 0 (by decide) q332 rfl dX4_takingsToday_36 ?_
  refine getF hx hb hta hown hE.1 hW sh_1 4 (by decide) q237 rfl dX4_takingsToday_39 ?_
  refine lv_isub hx hb dX4_takingsToday_42 ?_
  cases hf
  exact W.iret hx hb hr (fun u hu _ => ⟨⟨rfl, by rw [hu]; exact hW⟩, hS.F hu⟩) hS.2.2 dX4_takingsToday_43
def f_X4_coinsOfNewStall (σ : Sg) (p1 : Int32) (p2 : Int32) (p3 : Int32) : Option (Int32 × Sg) := b1 (f_X1_copyFrom 28 1 σ) fun σ3 => b2 (f_X1_addStall 28 σ3 p1 p2 p3 0) fun y4 σ6 => b1 (f_X1_letPass 28 σ6 (40 - (σ6 1 7))) fun σ9 => gd y4 7 (some (((σ9 (sk (28 + 3) y4) 6) * p3), σ9))
set_option maxHeartbeats 4000000 in
set_option maxRecDepth 100000 in
theorem c_X4_coinsOfNewStall (l : Launch) (D : va_G) (t : Nat → ClassId) (b : Nat) (σ : Sg) (p1 : Int32) (p2 : Int32) (p3 : Int32) (r : Int32) (σr : Sg) (hf : f_X4_coinsOfNewStall σ p1 p2 p3 = some (r, σr)) : Met l yX4_coinsOfNewStall (Cond.code yX4_coinsOfNewStall cX4_coinsOfNewStall 5 (some .int) :: ALL) ({ frames := 4, cells := 0, slots := 0, locals := 103 }) (PM D t b σ [.ref (b + 0), .int p1, .int p2, .int p3]) (QG D t b σr (some (.int r))) 0 0 (geA b) := by
  refine Met.ofW (cc := cX4_coinsOfNewStall) (maxL := 5) (ret := (some .int)) (by decide) rfl ?_
  intro p e s m args below meth c s₁ B hml hv
  obtain ⟨rfl, hW, hE⟩ := hv
  have hx := B.exec
  have hb := B.bytes
  have hr := B.returns
  have hts := atoms_spec (ws := Cond.code yX4_coinsOfNewStall cX4_coinsOfNewStall 5 (some .int) :: ALL) B.pre
  have hta := fun w h => hts w (List.mem_cons_of_mem _ h)
  have hown : s.vm.findClass RX4 = some m.cls := findClass_of_methodNamed B.named
  have hlocks := B.notSynchronized
  have hS : va_S (geA b) s.heap s.heap [] := va_S.rf
  have hl := lv_entry ([.ref (b + 0), .int p1, .int p2, .int p3]) (n := 5) (Nat.le_of_ble_eq_true rfl)
  rw [lg_entry_eq]
  generalize (lg_sl ([.ref (b + 0), .int p1, .int p2, .int p3]) ++ List.replicate (5 - (lg_sl ([.ref (b + 0), .int p1, .int p2, .int p3])).length) Slot.unset).toArray = ls at hl ⊢
  have hl : lv_has ls 5 [(0, .ref (b + 0)), (1, .int p1), (2, .int p2), (3, .int p3)] := hl
  unfold f_X4_coinsOfNewStall at hf
  refine lv_aload_n hx hb dX4_coinsOfNewStall_0 rfl (lv_at hl 0 rfl) ?_
  refine getP hx hb hta hown hE.1 hW 1 (by decide) q333 rfl dX4_coinsOfNewStall_1 ?_
  refine lv_aload_n hx hb dX4_coinsOfNewStall_4 rfl (lv_at hl 0 rfl) ?_
  refine getP hx hb hta hown hE.1 hW 0 (by decide) q332 rfl dX4_coinsOfNewStall_5 ?_
  obtain ⟨σ3, u2, hf⟩ := b1_e hf
  refine mV (k := 28) (q := (1, 0)) (C := RX1) (T := TX1) (N := 13) (ci := 1) (n := 1) (As := [.ref (b + 1)]) (rest := []) (c_X1_copyFrom l D t b 28 1 σ σ3 sh_28 sh_1 u2) sh_28 (by decide) rfl rfl hx hb hml hown hts hE hW hS q425 q426 q427 q92 q428 hy_X1_copyFrom ⟨rfl, rfl⟩ ⟨Nat.le_of_ble_eq_true rfl, Nat.le_of_ble_eq_true rfl⟩ rfl rfl hl.1 (Nat.le_of_ble_eq_true rfl) ⟨Nat.zero_le _, Nat.zero_le _⟩ dX4_coinsOfNewStall_8 (fun H locs hW hS => ?_)
  refine lv_aload_n hx hb dX4_coinsOfNewStall_11 rfl (lv_at hl 0 rfl) ?_
  refine getP hx hb hta hown hE.1 hW 1 (by decide) q333 rfl dX4_coinsOfNewStall_12 ?_
  refine lv_iload_n hx hb dX4_coinsOfNewStall_15 rfl (lv_at hl 1 rfl) ?_
  refine lv_iload_n hx hb dX4_coinsOfNewStall_16 rfl (lv_at hl 2 rfl) ?_
  refine lv_iload_n hx hb dX4_coinsOfNewStall_17 rfl (lv_at hl 3 rfl) ?_
  refine lv_iconst (v := 0) hx hb dX4_coinsOfNewStall_18 (by decide) ?_
  obtain ⟨y4, σ6, u5, hf⟩ := b2_e hf
  refine mV (k := 28) (q := (1, 0)) (C := RX1) (T := TX1) (N := 13) (ci := 1) (n := 4) (As := [.int p1, .int p2, .int p3, .int 0]) (rest := []) (c_X1_addStall l D t b 28 σ3 p1 p2 p3 0 y4 σ6 sh_28 u5) sh_28 (by decide) rfl rfl hx hb hml hown hts hE hW hS q1174 q775 q776 q92 q777 hy_X1_addStall ⟨rfl, rfl⟩ ⟨Nat.le_of_ble_eq_true rfl, Nat.le_of_ble_eq_true rfl⟩ rfl rfl hl.1 (Nat.le_of_ble_eq_true rfl) ⟨Nat.zero_le _, Nat.zero_le _⟩ dX4_coinsOfNewStall_19 (fun H locs hW hS => ?_)
  refine lv_istore (lv' := [(4, .int y4), (0, .ref (b + 0)), (1, .int p1), (2, .int p2), (3, .int p3)]) hx hb dX4_coinsOfNewStall_22 hl (by decide) rfl (fun ls hl => ?_)
  refine lv_aload_n hx hb dX4_coinsOfNewStall_24 rfl (lv_at hl 1 rfl) ?_
  refine getP hx hb hta hown hE.1 hW 1 (by decide) q333 rfl dX4_coinsOfNewStall_25 ?_
  refine lv_bipush (v := 40) hx hb dX4_coinsOfNewStall_28 (by decide) ?_
  refine lv_aload_n hx hb dX4_coinsOfNewStall_30 rfl (lv_at hl 1 rfl) ?_
  refine getP hx hb hta hown hE.1 hW 0 (by decide) q332 rfl dX4_coinsOfNewStall_31 ?_
  refine getF hx hb hta hown hE.1 hW sh_1 7 (by decide) q243 rfl dX4_coinsOfNewStall_34 ?_
  refine lv_isub hx hb dX4_coinsOfNewStall_37 ?_
  obtain ⟨σ9, u8, hf⟩ := b1_e hf
  refine mV (k := 28) (q := (1, 0)) (C := RX1) (T := TX1) (N := 13) (ci := 1) (n := 1) (As := [.int (40 - (σ6 1 7))]) (rest := []) (c_X1_letPass l D t b 28 σ6 (40 - (σ6 1 7)) σ9 sh_28 u8) sh_28 (by decide) rfl rfl hx hb hml hown hts hE hW hS q542 q543 q544 q92 q545 hy_X1_letPass ⟨rfl, rfl⟩ ⟨Nat.le_of_ble_eq_true rfl, Nat.le_of_ble_eq_true rfl⟩ rfl rfl hl.1 (Nat.le_of_ble_eq_true rfl) ⟨Nat.zero_le _, Nat.zero_le _⟩ dX4_coinsOfNewStall_38 (fun H locs hW hS => ?_)
  refine lv_aload_n hx hb dX4_coinsOfNewStall_41 rfl (lv_at hl 1 rfl) ?_
  refine getP hx hb hta hown hE.1 hW 1 (by decide) q333 rfl dX4_coinsOfNewStall_42 ?_
  refine getF hx hb hta hown hE.1 hW sh_28 11 (by decide) q251 rfl dX4_coinsOfNewStall_45 ?_
  refine lv_iload hx hb dX4_coinsOfNewStall_48 (lv_at hl 0 rfl) ?_
  obtain ⟨g10, hf⟩ := gd_e hf
  refine sald hx hb hE.1 hW (shF_3 sh_28) g10 dX4_coinsOfNewStall_50 ?_
  refine getS hx hb hta hown hE.1 hW (shF_sk sh_28 g10) 6 (by decide) q197 rfl dX4_coinsOfNewStall_51 ?_
  refine lv_iload_n hx hb dX4_coinsOfNewStall_54 rfl (lv_at hl 4 rfl) ?_
  refine lv_imul hx hb dX4_coinsOfNewStall_55 ?_
  cases hf
  exact W.iret hx hb hr (fun u hu _ => ⟨⟨rfl, by rw [hu]; exact hW⟩, hS.F hu⟩) hS.2.2 dX4_coinsOfNewStall_56
def f_X4_recordedStates (σ : Sg) : Option Int32 := some (σ 0 6)
set_option maxHeartbeats 4000000 in
set_option maxRecDepth 100000 in
theorem c_X4_recordedStates (l : Launch) (D : va_G) (t : Nat → ClassId) (b : Nat) (σ : Sg) (r : Int32) (hf : f_X4_recordedStates σ = some r) : Met l yX4_recordedStates (Cond.code yX4_recordedStates cX4_recordedStates 1 (some .int) :: ALL) ({ frames := 0, cells := 0, slots := 0, locals := 0 }) (PM D t b σ [.ref (b + 0)]) (QG D t b σ (some (.int r))) 0 0 (geA b) := by
  refine Met.ofW (cc := cX4_recordedStates) (maxL := 1) (ret := (some .int)) (by decide) rfl ?_
  intro p e s m args below meth c s₁ B hml hv
  obtain ⟨rfl, hW, hE⟩ := hv
  have hx := B.exec
  have hb := B.bytes
  have hr := B.returns
  have hts := atoms_spec (ws := Cond.code yX4_recordedStates cX4_recordedStates 1 (some .int) :: ALL) B.pre
  have hta := fun w h => hts w (List.mem_cons_of_mem _ h)
  have hown : s.vm.findClass RX4 = some m.cls := findClass_of_methodNamed B.named
  have hlocks := B.notSynchronized
  have hS : va_S (geA b) s.heap s.heap [] := va_S.rf
  have hl := lv_entry ([.ref (b + 0)]) (n := 1) (Nat.le_of_ble_eq_true rfl)
  rw [lg_entry_eq]
  generalize (lg_sl ([.ref (b + 0)]) ++ List.replicate (1 - (lg_sl ([.ref (b + 0)])).length) Slot.unset).toArray = ls at hl ⊢
  have hl : lv_has ls 1 [(0, .ref (b + 0))] := hl
  unfold f_X4_recordedStates at hf
  refine lv_aload_n hx hb dX4_recordedStates_0 rfl (lv_at hl 0 rfl) ?_
  refine getP hx hb hta hown hE.1 hW 6 (by decide) q338 rfl dX4_recordedStates_1 ?_
  cases hf
  exact W.iret hx hb hr (fun u hu _ => ⟨⟨rfl, by rw [hu]; exact hW⟩, hS.F hu⟩) hS.2.2 dX4_recordedStates_4
def f_X5_thrown (σ : Sg) : Option Int32 := some (σ 193 10)
set_option maxHeartbeats 4000000 in
set_option maxRecDepth 100000 in
theorem c_X5_thrown (l : Launch) (D : va_G) (t : Nat → ClassId) (b : Nat) (σ : Sg) (r : Int32) (hf : f_X5_thrown σ = some r) : Met l yX5_thrown (Cond.code yX5_thrown cX5_thrown 1 (some .int) :: ALL) ({ frames := 0, cells := 0, slots := 0, locals := 0 }) (PM D t b σ [.ref (b + 193)]) (QG D t b σ (some (.int r))) 0 0 (geA b) := by
  refine Met.ofW (cc := cX5_thrown) (maxL := 1) (ret := (some .int)) (by decide) rfl ?_
  intro p e s m args below meth c s₁ B hml hv
  obtain ⟨rfl, hW, hE⟩ := hv
  have hx := B.exec
  have hb := B.bytes
  have hr := B.returns
  have hts := atoms_spec (ws := Cond.code yX5_thrown cX5_thrown 1 (some .int) :: ALL) B.pre
  have hta := fun w h => hts w (List.mem_cons_of_mem _ h)
  have hown : s.vm.findClass RX5 = some m.cls := findClass_of_methodNamed B.named
  have hlocks := B.notSynchronized
  have hS : va_S (geA b) s.heap s.heap [] := va_S.rf
  have hl := lv_entry ([.ref (b + 193)]) (n := 1) (Nat.le_of_ble_eq_true rfl)
  rw [lg_entry_eq]
  generalize (lg_sl ([.ref (b + 193)]) ++ List.replicate (1 - (lg_sl ([.ref (b + 193)])).length) Slot.unset).toArray = ls at hl ⊢
  have hl : lv_has ls 1 [(0, .ref (b + 193))] := hl
  unfold f_X5_thrown at hf
  refine lv_aload_n hx hb dX5_thrown_0 rfl (lv_at hl 0 rfl) ?_
  refine getM hx hb hta hown hE.1 hW 10 (by decide) q1191 rfl dX5_thrown_1 ?_
  cases hf
  exact W.iret hx hb hr (fun u hu _ => ⟨⟨rfl, by rw [hu]; exact hW⟩, hS.F hu⟩) hS.2.2 dX5_thrown_4
def f_X5_refuses (σ : Sg) (p1 : Int32) : Option (Int32 × Sg) := st (u2 σ 193 10 p1) fun σ1 => some (0, σ1)
set_option maxHeartbeats 4000000 in
set_option maxRecDepth 100000 in
theorem c_X5_refuses (l : Launch) (D : va_G) (t : Nat → ClassId) (b : Nat) (σ : Sg) (p1 : Int32) (r : Int32) (σr : Sg) (hf : f_X5_refuses σ p1 = some (r, σr)) : Met l yX5_refuses (Cond.code yX5_refuses cX5_refuses 2 (some .int) :: ALL) ({ frames := 0, cells := 0, slots := 0, locals := 0 }) (PM D t b σ [.ref (b + 193), .int p1]) (QG D t b σr (some (.int r))) 0 0 (geA b) := by
  refine Met.ofW (cc := cX5_refuses) (maxL := 2) (ret := (some .int)) (by decide) rfl ?_
  intro p e s m args below meth c s₁ B hml hv
  obtain ⟨rfl, hW, hE⟩ := hv
  have hx := B.exec
  have hb := B.bytes
  have hr := B.returns
  have hts := atoms_spec (ws := Cond.code yX5_refuses cX5_refuses 2 (some .int) :: ALL) B.pre
  have hta := fun w h => hts w (List.mem_cons_of_mem _ h)
  have hown : s.vm.findClass RX5 = some m.cls := findClass_of_methodNamed B.named
  have hlocks := B.notSynchronized
  have hS : va_S (geA b) s.heap s.heap [] := va_S.rf
  have hl := lv_entry ([.ref (b + 193), .int p1]) (n := 2) (Nat.le_of_ble_eq_true rfl)
  rw [lg_entry_eq]
  generalize (lg_sl ([.ref (b + 193), .int p1]) ++ List.replicate (2 - (lg_sl ([.ref (b + 193), .int p1])).length) Slot.unset).toArray = ls at hl ⊢
  have hl : lv_has ls 2 [(0, .ref (b + 193)), (1, .int p1)] := hl
  unfold f_X5_refuses at hf
  refine lv_aload_n hx hb dX5_refuses_0 rfl (lv_at hl 0 rfl) ?_
  refine lv_iload_n hx hb dX5_refuses_1 rfl (lv_at hl 1 rfl) ?_
  refine putX (k := 193) (q := (5, 0)) (ci := 5) (x := p1) inA5 tyX5_ok nmX5 rfl (by decide) rfl hx hb hta hown hE.1 hW hS sh_193 10 (by decide) q1191 rfl rfl rfl (Nat.le_of_ble_eq_true rfl) rfl dX5_refuses_2 (fun H locs hW hS => ?_)
  obtain ⟨σ1, e2, hf⟩ := st_e hf
  rw [e2] at hW
  refine lv_iconst (v := 0) hx hb dX5_refuses_5 (by decide) ?_
  cases hf
  exact W.iret hx hb hr (fun u hu _ => ⟨⟨rfl, by rw [hu]; exact hW⟩, hS.F hu⟩) hS.2.2 dX5_refuses_6
def f_X5_in (σ : Sg) (p0 : Int32) (p1 : Int32) (p2 : Int32) : Option Int32 := if p0 < p1 then (some 0) else (if p2 < p0 then (some 0) else (some 1))
set_option maxHeartbeats 4000000 in
set_option maxRecDepth 100000 in
theorem c_X5_in (l : Launch) (D : va_G) (t : Nat → ClassId) (b : Nat) (σ : Sg) (p0 : Int32) (p1 : Int32) (p2 : Int32) (r : Int32) (hf : f_X5_in σ p0 p1 p2 = some r) : Met l yX5_in (Cond.code yX5_in cX5_in 3 (some .boolean) :: ALL) ({ frames := 0, cells := 0, slots := 0, locals := 0 }) (PM D t b σ [.int p0, .int p1, .int p2]) (QG D t b σ (some (.int r))) 0 0 (geA b) := by
  refine Met.ofW (cc := cX5_in) (maxL := 3) (ret := (some .boolean)) (by decide) rfl ?_
  intro p e s m args below meth c s₁ B hml hv
  obtain ⟨rfl, hW, hE⟩ := hv
  have hx := B.exec
  have hb := B.bytes
  have hr := B.returns
  have hts := atoms_spec (ws := Cond.code yX5_in cX5_in 3 (some .boolean) :: ALL) B.pre
  have hta := fun w h => hts w (List.mem_cons_of_mem _ h)
  have hown : s.vm.findClass RX5 = some m.cls := findClass_of_methodNamed B.named
  have hlocks := B.notSynchronized
  have hS : va_S (geA b) s.heap s.heap [] := va_S.rf
  have hl := lv_entry ([.int p0, .int p1, .int p2]) (n := 3) (Nat.le_of_ble_eq_true rfl)
  rw [lg_entry_eq]
  generalize (lg_sl ([.int p0, .int p1, .int p2]) ++ List.replicate (3 - (lg_sl ([.int p0, .int p1, .int p2])).length) Slot.unset).toArray = ls at hl ⊢
  have hl : lv_has ls 3 [(0, .int p0), (1, .int p1), (2, .int p2)] := hl
  unfold f_X5_in at hf
  refine lv_iload_n hx hb dX5_in_0 rfl (lv_at hl 0 rfl) ?_
  refine lv_iload_n hx hb dX5_in_1 rfl (lv_at hl 1 rfl) ?_
  refine lv_icmp_lt (tgt := 14) hx hb dX5_in_2 (by decide) (fun h1 => ?_) (fun h1 => ?_)
  · have hf := ifp h1 hf
    refine lv_iconst (v := 0) hx hb dX5_in_14 (by decide) ?_
    cases hf
    exact W.zret (ty := .boolean) hx hb hr (by decide) (fun u hu _ => ⟨⟨rfl, by rw [hu]; exact hW⟩, hS.F hu⟩) hS.2.2 dX5_in_15
  · have hf := ifn h1 hf
    refine lv_iload_n hx hb dX5_in_5 rfl (lv_at hl 0 rfl) ?_
    refine lv_iload_n hx hb dX5_in_6 rfl (lv_at hl 2 rfl) ?_
    refine lv_icmp_gt (tgt := 14) hx hb dX5_in_7 (by decide) (fun h2 => ?_) (fun h2 => ?_)
    · have hf := ifp h2 hf
      refine lv_iconst (v := 0) hx hb dX5_in_14 (by decide) ?_
      cases hf
      exact W.zret (ty := .boolean) hx hb hr (by decide) (fun u hu _ => ⟨⟨rfl, by rw [hu]; exact hW⟩, hS.F hu⟩) hS.2.2 dX5_in_15
    · have hf := ifn h2 hf
      refine lv_iconst (v := 1) hx hb dX5_in_10 (by decide) ?_
      refine lv_goto (tgt := 15) hx hb dX5_in_11 (by decide) ?_
      cases hf
      exact W.zret (ty := .boolean) hx hb hr (by decide) (fun u hu _ => ⟨⟨rfl, by rw [hu]; exact hW⟩, hS.F hu⟩) hS.2.2 dX5_in_15
def l_X5_lays_3 (d0 : Nat) (nd0 : Nat) (d2 : Nat) (nd2 : Nat) : Nat → Sg → Int32 → Int32 → Int32 → Option Sg
  | 0, _, _, _, _ => none
  | n + 1, τ, x1, x3, x4 => if 1785 ≤ x4 then (some τ) else (gd (x1 + x4) nd0 (gd (x3 + x4) nd2 (st (u2 τ d2 ((x3 + x4)).toNatClampNeg (τ d0 ((x1 + x4)).toNatClampNeg)) fun σ4 => l_X5_lays_3 d0 nd0 d2 nd2 n σ4 x1 x3 (x4 + 1))))
def f_X5_lays (d0 : Nat) (nd0 : Nat) (d2 : Nat) (nd2 : Nat) (σ : Sg) (p1 : Int32) (p3 : Int32) : Option Sg := l_X5_lays_3 d0 nd0 d2 nd2 10000 σ p1 p3 0
set_option maxHeartbeats 4000000 in
set_option maxRecDepth 100000 in
theorem c_X5_lays (l : Launch) (D : va_G) (t : Nat → ClassId) (b : Nat) (d0 : Nat) (nd0 : Nat) (d2 : Nat) (nd2 : Nat) (σ : Sg) (p1 : Int32) (p3 : Int32) (σr : Sg) (hd0 : sh d0 = (6, nd0)) (hd2 : sh d2 = (6, nd2)) (hf : f_X5_lays d0 nd0 d2 nd2 σ p1 p3 = some σr) : Met l yX5_lays (Cond.code yX5_lays cX5_lays 5 none :: ALL) ({ frames := 0, cells := 0, slots := 0, locals := 0 }) (PM D t b σ [.ref (b + d0), .int p1, .ref (b + d2), .int p3]) (QG D t b σr none) 0 0 (geA b) := by
  refine Met.ofW (cc := cX5_lays) (maxL := 5) (ret := none) (by decide) rfl ?_
  intro p e s m args below meth c s₁ B hml hv
  obtain ⟨rfl, hW, hE⟩ := hv
  have hx := B.exec
  have hb := B.bytes
  have hr := B.returns
  have hts := atoms_spec (ws := Cond.code yX5_lays cX5_lays 5 none :: ALL) B.pre
  have hta := fun w h => hts w (List.mem_cons_of_mem _ h)
  have hown : s.vm.findClass RX5 = some m.cls := findClass_of_methodNamed B.named
  have hlocks := B.notSynchronized
  have hS : va_S (geA b) s.heap s.heap [] := va_S.rf
  have hl := lv_entry ([.ref (b + d0), .int p1, .ref (b + d2), .int p3]) (n := 5) (Nat.le_of_ble_eq_true rfl)
  rw [lg_entry_eq]
  generalize (lg_sl ([.ref (b + d0), .int p1, .ref (b + d2), .int p3]) ++ List.replicate (5 - (lg_sl ([.ref (b + d0), .int p1, .ref (b + d2), .int p3])).length) Slot.unset).toArray = ls at hl ⊢
  have hl : lv_has ls 5 [(0, .ref (b + d0)), (1, .int p1), (2, .ref (b + d2)), (3, .int p3)] := hl
  unfold f_X5_lays at hf
  refine lv_iconst (v := 0) hx hb dX5_lays_0 (by decide) ?_
  refine lv_istore (lv' := [(4, .int 0), (0, .ref (b + d0)), (1, .int p1), (2, .ref (b + d2)), (3, .int p3)]) hx hb dX5_lays_1 hl (by decide) rfl (fun ls hl => ?_)
  have key_3 : ∀ (n : Nat) (τ : Sg) (x1 : Int32) (x3 : Int32) (x4 : Int32) (H : Heap) (locs : List Loc) (ls : Array Slot), l_X5_lays_3 d0 nd0 d2 nd2 n τ x1 x3 x4 = some σr → wd D t b τ H → va_S (geA b) s.heap H locs → lv_has ls 5 [(0, .ref (b + d0)), (1, .int x1), (2, .ref (b + d2)), (3, .int x3), (4, .int x4)] → W p l e (headSpec (Cond.code yX5_lays cX5_lays 5 none :: ALL) ({ frames := 0, cells := 0, slots := 0, locals := 0 })).room s m (([.ref (b + d0), .int p1, .ref (b + d2), .int p3] : List Value).toArray) below meth c H locs 0 0 (MQ below (QG D t b σr none) (([.ref (b + d0), .int p1, .ref (b + d2), .int p3] : List Value).toArray) s 0 0 (geA b)) (F0 m 3 ls []) := by
    intro n
    induction n with
    | zero =>
      intro τ x1 x3 x4 H locs ls hf
      rw [l_X5_lays_3.eq_1] at hf
      cases hf
    | succ n ih_3 =>
      intro τ x1 x3 x4 H locs ls hf hW hS hl
      rw [l_X5_lays_3.eq_2] at hf
      refine lv_iload hx hb dX5_lays_3 (lv_at hl 4 rfl) ?_
      refine lv_sipush (v := 1785) hx hb dX5_lays_5 (by decide) ?_
      refine lv_icmp_ge (tgt := 29) hx hb dX5_lays_8 (by decide) (fun h1 => ?_) (fun h1 => ?_)
      · have hf := ifp h1 hf
        cases hf
        exact W.vret hx hb hr (fun u hu _ => ⟨⟨rfl, by rw [hu]; exact hW⟩, hS.F hu⟩) hS.2.2 dX5_lays_29
      · have hf := ifn h1 hf
        refine lv_aload_n hx hb dX5_lays_11 rfl (lv_at hl 2 rfl) ?_
        refine lv_iload_n hx hb dX5_lays_12 rfl (lv_at hl 3 rfl) ?_
        refine lv_iload hx hb dX5_lays_13 (lv_at hl 4 rfl) ?_
        refine lv_iadd hx hb dX5_lays_15 ?_
        refine lv_aload_n hx hb dX5_lays_16 rfl (lv_at hl 0 rfl) ?_
        refine lv_iload_n hx hb dX5_lays_17 rfl (lv_at hl 1 rfl) ?_
        refine lv_iload hx hb dX5_lays_18 (lv_at hl 4 rfl) ?_
        refine lv_iadd hx hb dX5_lays_20 ?_
        obtain ⟨g2, hf⟩ := gd_e hf
        refine iald hx hb hE.1 hW hd0 g2 dX5_lays_21 ?_
        obtain ⟨g3, hf⟩ := gd_e hf
        refine iast (k := d2) (i := (x3 + x4)) (x := (τ d0 ((x1 + x4)).toNatClampNeg)) hx hb hE.1 hW hS hd2 g3 dX5_lays_22 (fun H locs hW hS => ?_)
        obtain ⟨σ4, e5, hf⟩ := st_e hf
        rw [e5] at hW
        refine lv_iinc (v := (x4 + 1)) (lv' := [(4, .int (x4 + 1)), (0, .ref (b + d0)), (1, .int x1), (2, .ref (b + d2)), (3, .int x3)]) hx hb dX5_lays_23 hl (k := 4) rfl (by rfl) (by decide) rfl (fun ls hl => ?_)
        refine lv_goto (tgt := 3) hx hb dX5_lays_26 (by decide) ?_
        exact ih_3 σ4 x1 x3 (x4 + 1) _ _ _ hf hW hS (lv_sub hl [1, 2, 3, 4, 0] rfl)
  exact key_3 10000 σ p1 p3 0 _ _ _ hf hW hS (lv_sub hl [1, 2, 3, 4, 0] rfl)
def l_X5_saves_10 (d1 : Nat) (nd1 : Nat) : Nat → Sg → Int32 → Option Sg
  | 0, _, _ => none
  | n + 1, τ, x2 => if 5355 ≤ x2 then (st (u2 τ 193 2 ((τ 193 2) - 1)) fun σ3 => b1 (f_X5_lays d1 nd1 195 7140 σ3 0 (1785 * (σ3 193 2))) fun σ7 => st (u2 σ7 193 2 ((σ7 193 2) + 1)) fun σ8 => some σ8) else (gd (x2 + 1785) 7140 (gd x2 7140 (st (u2 τ 195 (x2).toNatClampNeg (τ 195 ((x2 + 1785)).toNatClampNeg)) fun σ12 => l_X5_saves_10 d1 nd1 n σ12 (x2 + 1))))
def f_X5_saves (d1 : Nat) (nd1 : Nat) (σ : Sg) : Option Sg := if (σ 193 2) = 4 then (l_X5_saves_10 d1 nd1 10000 σ 0) else (b1 (f_X5_lays d1 nd1 195 7140 σ 0 (1785 * (σ 193 2))) fun σ16 => st (u2 σ16 193 2 ((σ16 193 2) + 1)) fun σ17 => some σ17)
set_option maxHeartbeats 4000000 in
set_option maxRecDepth 100000 in
theorem c_X5_saves (l : Launch) (D : va_G) (t : Nat → ClassId) (b : Nat) (d1 : Nat) (nd1 : Nat) (σ : Sg) (σr : Sg) (hd1 : sh d1 = (6, nd1)) (hf : f_X5_saves d1 nd1 σ = some σr) : Met l yX5_saves (Cond.code yX5_saves cX5_saves 3 none :: ALL) ({ frames := 1, cells := 0, slots := 0, locals := 24 }) (PM D t b σ [.ref (b + 193), .ref (b + d1)]) (QG D t b σr none) 0 0 (geA b) := by
  refine Met.ofW (cc := cX5_saves) (maxL := 3) (ret := none) (by decide) rfl ?_
  intro p e s m args below meth c s₁ B hml hv
  obtain ⟨rfl, hW, hE⟩ := hv
  have hx := B.exec
  have hb := B.bytes
  have hr := B.returns
  have hts := atoms_spec (ws := Cond.code yX5_saves cX5_saves 3 none :: ALL) B.pre
  have hta := fun w h => hts w (List.mem_cons_of_mem _ h)
  have hown : s.vm.findClass RX5 = some m.cls := findClass_of_methodNamed B.named
  have hlocks := B.notSynchronized
  have hS : va_S (geA b) s.heap s.heap [] := va_S.rf
  have hl := lv_entry ([.ref (b + 193), .ref (b + d1)]) (n := 3) (Nat.le_of_ble_eq_true rfl)
  rw [lg_entry_eq]
  generalize (lg_sl ([.ref (b + 193), .ref (b + d1)]) ++ List.replicate (3 - (lg_sl ([.ref (b + 193), .ref (b + d1)])).length) Slot.unset).toArray = ls at hl ⊢
  have hl : lv_has ls 3 [(0, .ref (b + 193)), (1, .ref (b + d1))] := hl
  unfold f_X5_saves at hf
  refine lv_aload_n hx hb dX5_saves_0 rfl (lv_at hl 0 rfl) ?_
  refine getM hx hb hta hown hE.1 hW 2 (by decide) q1183 rfl dX5_saves_1 ?_
  refine lv_iconst (v := 4) hx hb dX5_saves_4 (by decide) ?_
  refine lv_icmp_ne (tgt := 49) hx hb dX5_saves_5 (by decide) (fun h1 => ?_) (fun h1 => ?_)
  · have hf := ifn h1 hf
    refine lv_aload_n hx hb dX5_saves_49 rfl (lv_at hl 1 rfl) ?_
    refine lv_iconst (v := 0) hx hb dX5_saves_50 (by decide) ?_
    refine lv_aload_n hx hb dX5_saves_51 rfl (lv_at hl 0 rfl) ?_
    refine getM hx hb hta hown hE.1 hW 1 (by decide) q1182 rfl dX5_saves_52 ?_
    refine lv_sipush (v := 1785) hx hb dX5_saves_55 (by decide) ?_
    refine lv_aload_n hx hb dX5_saves_58 rfl (lv_at hl 0 rfl) ?_
    refine getM hx hb hta hown hE.1 hW 2 (by decide) q1183 rfl dX5_saves_59 ?_
    refine lv_imul hx hb dX5_saves_62 ?_
    obtain ⟨σ16, u15, hf⟩ := b1_e hf
    refine mS (n := 4) (As := [.ref (b + d1), .int 0, .ref (b + 195), .int (1785 * (σ 193 2))]) (rest := []) (c_X5_lays l D t b d1 nd1 195 7140 σ 0 (1785 * (σ 193 2)) σ16 hd1 sh_195 u15) hx hb hml hown hts hE hW hS q1260 q1261 q96 q1262 hs_X5_lays ⟨rfl, rfl⟩ ⟨Nat.le_of_ble_eq_true rfl, Nat.le_of_ble_eq_true rfl⟩ rfl rfl hl.1 (Nat.le_of_ble_eq_true rfl) ⟨Nat.zero_le _, Nat.zero_le _⟩ dX5_saves_63 (fun H locs hW hS => ?_)
    refine lv_aload_n hx hb dX5_saves_66 rfl (lv_at hl 0 rfl) ?_
    refine lv_dup hx hb dX5_saves_67 rfl ?_
    refine getM hx hb hta hown hE.1 hW 2 (by decide) q1183 rfl dX5_saves_68 ?_
    refine lv_iconst (v := 1) hx hb dX5_saves_71 (by decide) ?_
    refine lv_iadd hx hb dX5_saves_72 ?_
    refine putX (k := 193) (q := (5, 0)) (ci := 5) (x := ((σ16 193 2) + 1)) inA5 tyX5_ok nmX5 rfl (by decide) rfl hx hb hta hown hE.1 hW hS sh_193 2 (by decide) q1183 rfl rfl rfl (Nat.le_of_ble_eq_true rfl) rfl dX5_saves_73 (fun H locs hW hS => ?_)
    obtain ⟨σ17, e18, hf⟩ := st_e hf
    rw [e18] at hW
    cases hf
    exact W.vret hx hb hr (fun u hu _ => ⟨⟨rfl, by rw [hu]; exact hW⟩, hS.F hu⟩) hS.2.2 dX5_saves_76
  · have hf := ifp h1 hf
    refine lv_iconst (v := 0) hx hb dX5_saves_8 (by decide) ?_
    refine lv_istore_n (lv' := [(2, .int 0), (0, .ref (b + 193)), (1, .ref (b + d1))]) hx hb dX5_saves_9 rfl hl (by decide) rfl (fun ls hl => ?_)
    have key_10 : ∀ (n : Nat) (τ : Sg) (x2 : Int32) (H : Heap) (locs : List Loc) (ls : Array Slot), l_X5_saves_10 d1 nd1 n τ x2 = some σr → wd D t b τ H → va_S (geA b) s.heap H locs → lv_has ls 3 [(0, .ref (b + 193)), (1, .ref (b + d1)), (2, .int x2)] → W p l e (headSpec (Cond.code yX5_saves cX5_saves 3 none :: ALL) ({ frames := 1, cells := 0, slots := 0, locals := 24 })).room s m (([.ref (b + 193), .ref (b + d1)] : List Value).toArray) below meth c H locs 0 0 (MQ below (QG D t b σr none) (([.ref (b + 193), .ref (b + d1)] : List Value).toArray) s 0 0 (geA b)) (F0 m 10 ls []) := by
      intro n
      induction n with
      | zero =>
        intro τ x2 H locs ls hf
        rw [l_X5_saves_10.eq_1] at hf
        cases hf
      | succ n ih_10 =>
        intro τ x2 H locs ls hf hW hS hl
        rw [l_X5_saves_10.eq_2] at hf
        refine lv_iload_n hx hb dX5_saves_10 rfl (lv_at hl 2 rfl) ?_
        refine lv_sipush (v := 5355) hx hb dX5_saves_11 (by decide) ?_
        refine lv_icmp_ge (tgt := 39) hx hb dX5_saves_14 (by decide) (fun h2 => ?_) (fun h2 => ?_)
        · have hf := ifp h2 hf
          refine lv_aload_n hx hb dX5_saves_39 rfl (lv_at hl 0 rfl) ?_
          refine lv_dup hx hb dX5_saves_40 rfl ?_
          refine getM hx hb hta hown hE.1 hW 2 (by decide) q1183 rfl dX5_saves_41 ?_
          refine lv_iconst (v := 1) hx hb dX5_saves_44 (by decide) ?_
          refine lv_isub hx hb dX5_saves_45 ?_
          refine putX (k := 193) (q := (5, 0)) (ci := 5) (x := ((τ 193 2) - 1)) inA5 tyX5_ok nmX5 rfl (by decide) rfl hx hb hta hown hE.1 hW hS sh_193 2 (by decide) q1183 rfl rfl rfl (Nat.le_of_ble_eq_true rfl) rfl dX5_saves_46 (fun H locs hW hS => ?_)
          obtain ⟨σ3, e4, hf⟩ := st_e hf
          rw [e4] at hW
          refine lv_aload_n hx hb dX5_saves_49 rfl (lv_at hl 1 rfl) ?_
          refine lv_iconst (v := 0) hx hb dX5_saves_50 (by decide) ?_
          refine lv_aload_n hx hb dX5_saves_51 rfl (lv_at hl 0 rfl) ?_
          refine getM hx hb hta hown hE.1 hW 1 (by decide) q1182 rfl dX5_saves_52 ?_
          refine lv_sipush (v := 1785) hx hb dX5_saves_55 (by decide) ?_
          refine lv_aload_n hx hb dX5_saves_58 rfl (lv_at hl 0 rfl) ?_
          refine getM hx hb hta hown hE.1 hW 2 (by decide) q1183 rfl dX5_saves_59 ?_
          refine lv_imul hx hb dX5_saves_62 ?_
          obtain ⟨σ7, u6, hf⟩ := b1_e hf
          refine mS (n := 4) (As := [.ref (b + d1), .int 0, .ref (b + 195), .int (1785 * (σ3 193 2))]) (rest := []) (c_X5_lays l D t b d1 nd1 195 7140 σ3 0 (1785 * (σ3 193 2)) σ7 hd1 sh_195 u6) hx hb hml hown hts hE hW hS q1260 q1261 q96 q1262 hs_X5_lays ⟨rfl, rfl⟩ ⟨Nat.le_of_ble_eq_true rfl, Nat.le_of_ble_eq_true rfl⟩ rfl rfl hl.1 (Nat.le_of_ble_eq_true rfl) ⟨Nat.zero_le _, Nat.zero_le _⟩ dX5_saves_63 (fun H locs hW hS => ?_)
          refine lv_aload_n hx hb dX5_saves_66 rfl (lv_at hl 0 rfl) ?_
          refine lv_dup hx hb dX5_saves_67 rfl ?_
          refine getM hx hb hta hown hE.1 hW 2 (by decide) q1183 rfl dX5_saves_68 ?_
          refine lv_iconst (v := 1) hx hb dX5_saves_71 (by decide) ?_
          refine lv_iadd hx hb dX5_saves_72 ?_
          refine putX (k := 193) (q := (5, 0)) (ci := 5) (x := ((σ7 193 2) + 1)) inA5 tyX5_ok nmX5 rfl (by decide) rfl hx hb hta hown hE.1 hW hS sh_193 2 (by decide) q1183 rfl rfl rfl (Nat.le_of_ble_eq_true rfl) rfl dX5_saves_73 (fun H locs hW hS => ?_)
          obtain ⟨σ8, e9, hf⟩ := st_e hf
          rw [e9] at hW
          cases hf
          exact W.vret hx hb hr (fun u hu _ => ⟨⟨rfl, by rw [hu]; exact hW⟩, hS.F hu⟩) hS.2.2 dX5_saves_76
        · have hf := ifn h2 hf
          refine lv_aload_n hx hb dX5_saves_17 rfl (lv_at hl 0 rfl) ?_
          refine getM hx hb hta hown hE.1 hW 1 (by decide) q1182 rfl dX5_saves_18 ?_
          refine lv_iload_n hx hb dX5_saves_21 rfl (lv_at hl 2 rfl) ?_
          refine lv_aload_n hx hb dX5_saves_22 rfl (lv_at hl 0 rfl) ?_
          refine getM hx hb hta hown hE.1 hW 1 (by decide) q1182 rfl dX5_saves_23 ?_
          refine lv_iload_n hx hb dX5_saves_26 rfl (lv_at hl 2 rfl) ?_
          refine lv_sipush (v := 1785) hx hb dX5_saves_27 (by decide) ?_
          refine lv_iadd hx hb dX5_saves_30 ?_
          obtain ⟨g10, hf⟩ := gd_e hf
          refine iald hx hb hE.1 hW sh_195 g10 dX5_saves_31 ?_
          obtain ⟨g11, hf⟩ := gd_e hf
          refine iast (k := 195) (i := x2) (x := (τ 195 ((x2 + 1785)).toNatClampNeg)) hx hb hE.1 hW hS sh_195 g11 dX5_saves_32 (fun H locs hW hS => ?_)
          obtain ⟨σ12, e13, hf⟩ := st_e hf
          rw [e13] at hW
          refine lv_iinc (v := (x2 + 1)) (lv' := [(2, .int (x2 + 1)), (0, .ref (b + 193)), (1, .ref (b + d1))]) hx hb dX5_saves_33 hl (k := 2) rfl (by rfl) (by decide) rfl (fun ls hl => ?_)
          refine lv_goto (tgt := 10) hx hb dX5_saves_36 (by decide) ?_
          exact ih_10 σ12 (x2 + 1) _ _ _ hf hW hS (lv_sub hl [1, 2, 0] rfl)
    exact key_10 10000 σ 0 _ _ _ hf hW hS (lv_sub hl [1, 2, 0] rfl)
def f_X5_its (σ : Sg) (p1 : Int32) (p2 : Int32) : Option Int32 := gd ((24 + (23 * p1)) + p2) 1785 (some (σ 194 (((24 + (23 * p1)) + p2)).toNatClampNeg))
set_option maxHeartbeats 4000000 in
set_option maxRecDepth 100000 in
theorem c_X5_its (l : Launch) (D : va_G) (t : Nat → ClassId) (b : Nat) (σ : Sg) (p1 : Int32) (p2 : Int32) (r : Int32) (hf : f_X5_its σ p1 p2 = some r) : Met l yX5_its (Cond.code yX5_its cX5_its 3 (some .int) :: ALL) ({ frames := 0, cells := 0, slots := 0, locals := 0 }) (PM D t b σ [.ref (b + 193), .int p1, .int p2]) (QG D t b σ (some (.int r))) 0 0 (geA b) := by
  refine Met.ofW (cc := cX5_its) (maxL := 3) (ret := (some .int)) (by decide) rfl ?_
  intro p e s m args below meth c s₁ B hml hv
  obtain ⟨rfl, hW, hE⟩ := hv
  have hx := B.exec
  have hb := B.bytes
  have hr := B.returns
  have hts := atoms_spec (ws := Cond.code yX5_its cX5_its 3 (some .int) :: ALL) B.pre
  have hta := fun w h => hts w (List.mem_cons_of_mem _ h)
  have hown : s.vm.findClass RX5 = some m.cls := findClass_of_methodNamed B.named
  have hlocks := B.notSynchronized
  have hS : va_S (geA b) s.heap s.heap [] := va_S.rf
  have hl := lv_entry ([.ref (b + 193), .int p1, .int p2]) (n := 3) (Nat.le_of_ble_eq_true rfl)
  rw [lg_entry_eq]
  generalize (lg_sl ([.ref (b + 193), .int p1, .int p2]) ++ List.replicate (3 - (lg_sl ([.ref (b + 193), .int p1, .int p2])).length) Slot.unset).toArray = ls at hl ⊢
  have hl : lv_has ls 3 [(0, .ref (b + 193)), (1, .int p1), (2, .int p2)] := hl
  unfold f_X5_its at hf
  refine lv_aload_n hx hb dX5_its_0 rfl (lv_at hl 0 rfl) ?_
  refine getM hx hb hta hown hE.1 hW 0 (by decide) q1181 rfl dX5_its_1 ?_
  refine lv_bipush (v := 24) hx hb dX5_its_4 (by decide) ?_
  refine lv_bipush (v := 23) hx hb dX5_its_6 (by decide) ?_
  refine lv_iload_n hx hb dX5_its_8 rfl (lv_at hl 1 rfl) ?_
  refine lv_imul hx hb dX5_its_9 ?_
  refine lv_iadd hx hb dX5_its_10 ?_
  refine lv_iload_n hx hb dX5_its_11 rfl (lv_at hl 2 rfl) ?_
  refine lv_iadd hx hb dX5_its_12 ?_
  obtain ⟨g1, hf⟩ := gd_e hf
  refine iald hx hb hE.1 hW sh_194 g1 dX5_its_13 ?_
  cases hf
  exact W.iret hx hb hr (fun u hu _ => ⟨⟨rfl, by rw [hu]; exact hW⟩, hS.F hu⟩) hS.2.2 dX5_its_14
def f_X5_sets (σ : Sg) (p1 : Int32) (p2 : Int32) (p3 : Int32) : Option Sg := gd ((24 + (23 * p1)) + p2) 1785 (st (u2 σ 194 (((24 + (23 * p1)) + p2)).toNatClampNeg p3) fun σ2 => some σ2)
set_option maxHeartbeats 4000000 in
set_option maxRecDepth 100000 in
theorem c_X5_sets (l : Launch) (D : va_G) (t : Nat → ClassId) (b : Nat) (σ : Sg) (p1 : Int32) (p2 : Int32) (p3 : Int32) (σr : Sg) (hf : f_X5_sets σ p1 p2 p3 = some σr) : Met l yX5_sets (Cond.code yX5_sets cX5_sets 4 none :: ALL) ({ frames := 0, cells := 0, slots := 0, locals := 0 }) (PM D t b σ [.ref (b + 193), .int p1, .int p2, .int p3]) (QG D t b σr none) 0 0 (geA b) := by
  refine Met.ofW (cc := cX5_sets) (maxL := 4) (ret := none) (by decide) rfl ?_
  intro p e s m args below meth c s₁ B hml hv
  obtain ⟨rfl, hW, hE⟩ := hv
  have hx := B.exec
  have hb := B.bytes
  have hr := B.returns
  have hts := atoms_spec (ws := Cond.code yX5_sets cX5_sets 4 none :: ALL) B.pre
  have hta := fun w h => hts w (List.mem_cons_of_mem _ h)
  have hown : s.vm.findClass RX5 = some m.cls := findClass_of_methodNamed B.named
  have hlocks := B.notSynchronized
  have hS : va_S (geA b) s.heap s.heap [] := va_S.rf
  have hl := lv_entry ([.ref (b + 193), .int p1, .int p2, .int p3]) (n := 4) (Nat.le_of_ble_eq_true rfl)
  rw [lg_entry_eq]
  generalize (lg_sl ([.ref (b + 193), .int p1, .int p2, .int p3]) ++ List.replicate (4 - (lg_sl ([.ref (b + 193), .int p1, .int p2, .int p3])).length) Slot.unset).toArray = ls at hl ⊢
  have hl : lv_has ls 4 [(0, .ref (b + 193)), (1, .int p1), (2, .int p2), (3, .int p3)] := hl
  unfold f_X5_sets at hf
  refine lv_aload_n hx hb dX5_sets_0 rfl (lv_at hl 0 rfl) ?_
  refine getM hx hb hta hown hE.1 hW 0 (by decide) q1181 rfl dX5_sets_1 ?_
  refine lv_bipush (v := 24) hx hb dX5_sets_4 (by decide) ?_
  refine lv_bipush (v := 23) hx hb dX5_sets_6 (by decide) ?_
  refine lv_iload_n hx hb dX5_sets_8 rfl (lv_at hl 1 rfl) ?_
  refine lv_imul hx hb dX5_sets_9 ?_
  refine lv_iadd hx hb dX5_sets_10 ?_
  refine lv_iload_n hx hb dX5_sets_11 rfl (lv_at hl 2 rfl) ?_
  refine lv_iadd hx hb dX5_sets_12 ?_
  refine lv_iload_n hx hb dX5_sets_13 rfl (lv_at hl 3 rfl) ?_
  obtain ⟨g1, hf⟩ := gd_e hf
  refine iast (k := 194) (i := ((24 + (23 * p1)) + p2)) (x := p3) hx hb hE.1 hW hS sh_194 g1 dX5_sets_14 (fun H locs hW hS => ?_)
  obtain ⟨σ2, e3, hf⟩ := st_e hf
  rw [e3] at hW
  cases hf
  exact W.vret hx hb hr (fun u hu _ => ⟨⟨rfl, by rw [hu]; exact hW⟩, hS.F hu⟩) hS.2.2 dX5_sets_15
def f_X5_of (σ : Sg) (p1 : Int32) (p2 : Int32) : Option Int32 := gd ((185 + (8 * p1)) + p2) 1785 (some (σ 194 (((185 + (8 * p1)) + p2)).toNatClampNeg))
set_option maxHeartbeats 4000000 in
set_option maxRecDepth 100000 in
theorem c_X5_of (l : Launch) (D : va_G) (t : Nat → ClassId) (b : Nat) (σ : Sg) (p1 : Int32) (p2 : Int32) (r : Int32) (hf : f_X5_of σ p1 p2 = some r) : Met l yX5_of (Cond.code yX5_of cX5_of 3 (some .int) :: ALL) ({ frames := 0, cells := 0, slots := 0, locals := 0 }) (PM D t b σ [.ref (b + 193), .int p1, .int p2]) (QG D t b σ (some (.int r))) 0 0 (geA b) := by
  refine Met.ofW (cc := cX5_of) (maxL := 3) (ret := (some .int)) (by decide) rfl ?_
  intro p e s m args below meth c s₁ B hml hv
  obtain ⟨rfl, hW, hE⟩ := hv
  have hx := B.exec
  have hb := B.bytes
  have hr := B.returns
  have hts := atoms_spec (ws := Cond.code yX5_of cX5_of 3 (some .int) :: ALL) B.pre
  have hta := fun w h => hts w (List.mem_cons_of_mem _ h)
  have hown : s.vm.findClass RX5 = some m.cls := findClass_of_methodNamed B.named
  have hlocks := B.notSynchronized
  have hS : va_S (geA b) s.heap s.heap [] := va_S.rf
  have hl := lv_entry ([.ref (b + 193), .int p1, .int p2]) (n := 3) (Nat.le_of_ble_eq_true rfl)
  rw [lg_entry_eq]
  generalize (lg_sl ([.ref (b + 193), .int p1, .int p2]) ++ List.replicate (3 - (lg_sl ([.ref (b + 193), .int p1, .int p2])).length) Slot.unset).toArray = ls at hl ⊢
  have hl : lv_has ls 3 [(0, .ref (b + 193)), (1, .int p1), (2, .int p2)] := hl
  unfold f_X5_of at hf
  refine lv_aload_n hx hb dX5_of_0 rfl (lv_at hl 0 rfl) ?_
  refine getM hx hb hta hown hE.1 hW 0 (by decide) q1181 rfl dX5_of_1 ?_
  refine lv_sipush (v := 185) hx hb dX5_of_4 (by decide) ?_
  refine lv_bipush (v := 8) hx hb dX5_of_7 (by decide) ?_
  refine lv_iload_n hx hb dX5_of_9 rfl (lv_at hl 1 rfl) ?_
  refine lv_imul hx hb dX5_of_10 ?_
  refine lv_iadd hx hb dX5_of_11 ?_
  refine lv_iload_n hx hb dX5_of_12 rfl (lv_at hl 2 rfl) ?_
  refine lv_iadd hx hb dX5_of_13 ?_
  obtain ⟨g1, hf⟩ := gd_e hf
  refine iald hx hb hE.1 hW sh_194 g1 dX5_of_14 ?_
  cases hf
  exact W.iret hx hb hr (fun u hu _ => ⟨⟨rfl, by rw [hu]; exact hW⟩, hS.F hu⟩) hS.2.2 dX5_of_15
def f_X5_lay (σ : Sg) (p1 : Int32) (p2 : Int32) (p3 : Int32) : Option Sg := gd ((185 + (8 * p1)) + p2) 1785 (st (u2 σ 194 (((185 + (8 * p1)) + p2)).toNatClampNeg p3) fun σ2 => some σ2)
set_option maxHeartbeats 4000000 in
set_option maxRecDepth 100000 in
theorem c_X5_lay (l : Launch) (D : va_G) (t : Nat → ClassId) (b : Nat) (σ : Sg) (p1 : Int32) (p2 : Int32) (p3 : Int32) (σr : Sg) (hf : f_X5_lay σ p1 p2 p3 = some σr) : Met l yX5_lay (Cond.code yX5_lay cX5_lay 4 none :: ALL) ({ frames := 0, cells := 0, slots := 0, locals := 0 }) (PM D t b σ [.ref (b + 193), .int p1, .int p2, .int p3]) (QG D t b σr none) 0 0 (geA b) := by
  refine Met.ofW (cc := cX5_lay) (maxL := 4) (ret := none) (by decide) rfl ?_
  intro p e s m args below meth c s₁ B hml hv
  obtain ⟨rfl, hW, hE⟩ := hv
  have hx := B.exec
  have hb := B.bytes
  have hr := B.returns
  have hts := atoms_spec (ws := Cond.code yX5_lay cX5_lay 4 none :: ALL) B.pre
  have hta := fun w h => hts w (List.mem_cons_of_mem _ h)
  have hown : s.vm.findClass RX5 = some m.cls := findClass_of_methodNamed B.named
  have hlocks := B.notSynchronized
  have hS : va_S (geA b) s.heap s.heap [] := va_S.rf
  have hl := lv_entry ([.ref (b + 193), .int p1, .int p2, .int p3]) (n := 4) (Nat.le_of_ble_eq_true rfl)
  rw [lg_entry_eq]
  generalize (lg_sl ([.ref (b + 193), .int p1, .int p2, .int p3]) ++ List.replicate (4 - (lg_sl ([.ref (b + 193), .int p1, .int p2, .int p3])).length) Slot.unset).toArray = ls at hl ⊢
  have hl : lv_has ls 4 [(0, .ref (b + 193)), (1, .int p1), (2, .int p2), (3, .int p3)] := hl
  unfold f_X5_lay at hf
  refine lv_aload_n hx hb dX5_lay_0 rfl (lv_at hl 0 rfl) ?_
  refine getM hx hb hta hown hE.1 hW 0 (by decide) q1181 rfl dX5_lay_1 ?_
  refine lv_sipush (v := 185) hx hb dX5_lay_4 (by decide) ?_
  refine lv_bipush (v := 8) hx hb dX5_lay_7 (by decide) ?_
  refine lv_iload_n hx hb dX5_lay_9 rfl (lv_at hl 1 rfl) ?_
  refine lv_imul hx hb dX5_lay_10 ?_
  refine lv_iadd hx hb dX5_lay_11 ?_
  refine lv_iload_n hx hb dX5_lay_12 rfl (lv_at hl 2 rfl) ?_
  refine lv_iadd hx hb dX5_lay_13 ?_
  refine lv_iload_n hx hb dX5_lay_14 rfl (lv_at hl 3 rfl) ?_
  obtain ⟨g1, hf⟩ := gd_e hf
  refine iast (k := 194) (i := ((185 + (8 * p1)) + p2)) (x := p3) hx hb hE.1 hW hS sh_194 g1 dX5_lay_15 (fun H locs hW hS => ?_)
  obtain ⟨σ2, e3, hf⟩ := st_e hf
  rw [e3] at hW
  cases hf
  exact W.vret hx hb hr (fun u hu _ => ⟨⟨rfl, by rw [hu]; exact hW⟩, hS.F hu⟩) hS.2.2 dX5_lay_16
def f_X5_isStall (σ : Sg) (p1 : Int32) : Option Int32 := b1 (f_X5_in σ p1 0 ((σ 194 (8 : Int32).toNatClampNeg) - 1)) fun y1 => gd y1 2 (some y1)
set_option maxHeartbeats 4000000 in
set_option maxRecDepth 100000 in
theorem c_X5_isStall (l : Launch) (D : va_G) (t : Nat → ClassId) (b : Nat) (σ : Sg) (p1 : Int32) (r : Int32) (hf : f_X5_isStall σ p1 = some r) : Met l yX5_isStall (Cond.code yX5_isStall cX5_isStall 2 (some .boolean) :: ALL) ({ frames := 1, cells := 0, slots := 0, locals := 22 }) (PM D t b σ [.ref (b + 193), .int p1]) (QG D t b σ (some (.int r))) 0 0 (geA b) := by
  refine Met.ofW (cc := cX5_isStall) (maxL := 2) (ret := (some .boolean)) (by decide) rfl ?_
  intro p e s m args below meth c s₁ B hml hv
  obtain ⟨rfl, hW, hE⟩ := hv
  have hx := B.exec
  have hb := B.bytes
  have hr := B.returns
  have hts := atoms_spec (ws := Cond.code yX5_isStall cX5_isStall 2 (some .boolean) :: ALL) B.pre
  have hta := fun w h => hts w (List.mem_cons_of_mem _ h)
  have hown : s.vm.findClass RX5 = some m.cls := findClass_of_methodNamed B.named
  have hlocks := B.notSynchronized
  have hS : va_S (geA b) s.heap s.heap [] := va_S.rf
  have hl := lv_entry ([.ref (b + 193), .int p1]) (n := 2) (Nat.le_of_ble_eq_true rfl)
  rw [lg_entry_eq]
  generalize (lg_sl ([.ref (b + 193), .int p1]) ++ List.replicate (2 - (lg_sl ([.ref (b + 193), .int p1])).length) Slot.unset).toArray = ls at hl ⊢
  have hl : lv_has ls 2 [(0, .ref (b + 193)), (1, .int p1)] := hl
  unfold f_X5_isStall at hf
  refine lv_iload_n hx hb dX5_isStall_0 rfl (lv_at hl 1 rfl) ?_
  refine lv_iconst (v := 0) hx hb dX5_isStall_1 (by decide) ?_
  refine lv_aload_n hx hb dX5_isStall_2 rfl (lv_at hl 0 rfl) ?_
  refine getM hx hb hta hown hE.1 hW 0 (by decide) q1181 rfl dX5_isStall_3 ?_
  refine lv_bipush (v := 8) hx hb dX5_isStall_6 (by decide) ?_
  refine iald hx hb hE.1 hW sh_194 (vp_lit (by decide +kernel)) dX5_isStall_8 ?_
  refine lv_iconst (v := 1) hx hb dX5_isStall_9 (by decide) ?_
  refine lv_isub hx hb dX5_isStall_10 ?_
  obtain ⟨y1, u2, hf⟩ := b1_e hf
  refine mS (n := 3) (As := [.int p1, .int 0, .int ((σ 194 (8 : Int32).toNatClampNeg) - 1)]) (rest := []) (c_X5_in l D t b σ p1 0 ((σ 194 (8 : Int32).toNatClampNeg) - 1) y1 u2) hx hb hml hown hts hE hW hS q1239 q1240 q96 q1241 hs_X5_in ⟨rfl, rfl⟩ ⟨Nat.le_of_ble_eq_true rfl, Nat.le_of_ble_eq_true rfl⟩ rfl rfl hl.1 (Nat.le_of_ble_eq_true rfl) ⟨Nat.zero_le _, Nat.zero_le _⟩ dX5_isStall_11 (fun H locs hW hS => ?_)
  obtain ⟨g3, hf⟩ := gd_e hf
  cases hf
  exact W.zret (ty := .boolean) hx hb hr (nar_bool g3).1 (fun u hu _ => ⟨⟨rfl, by rw [hu]; exact hW⟩, hS.F hu⟩) hS.2.2 dX5_isStall_14
def f_X5_isChild (σ : Sg) (p1 : Int32) : Option Int32 := b1 (f_X5_in σ p1 0 ((σ 194 (9 : Int32).toNatClampNeg) - 1)) fun y1 => gd y1 2 (some y1)
set_option maxHeartbeats 4000000 in
set_option maxRecDepth 100000 in
theorem c_X5_isChild (l : Launch) (D : va_G) (t : Nat → ClassId) (b : Nat) (σ : Sg) (p1 : Int32) (r : Int32) (hf : f_X5_isChild σ p1 = some r) : Met l yX5_isChild (Cond.code yX5_isChild cX5_isChild 2 (some .boolean) :: ALL) ({ frames := 1, cells := 0, slots := 0, locals := 22 }) (PM D t b σ [.ref (b + 193), .int p1]) (QG D t b σ (some (.int r))) 0 0 (geA b) := by
  refine Met.ofW (cc := cX5_isChild) (maxL := 2) (ret := (some .boolean)) (by decide) rfl ?_
  intro p e s m args below meth c s₁ B hml hv
  obtain ⟨rfl, hW, hE⟩ := hv
  have hx := B.exec
  have hb := B.bytes
  have hr := B.returns
  have hts := atoms_spec (ws := Cond.code yX5_isChild cX5_isChild 2 (some .boolean) :: ALL) B.pre
  have hta := fun w h => hts w (List.mem_cons_of_mem _ h)
  have hown : s.vm.findClass RX5 = some m.cls := findClass_of_methodNamed B.named
  have hlocks := B.notSynchronized
  have hS : va_S (geA b) s.heap s.heap [] := va_S.rf
  have hl := lv_entry ([.ref (b + 193), .int p1]) (n := 2) (Nat.le_of_ble_eq_true rfl)
  rw [lg_entry_eq]
  generalize (lg_sl ([.ref (b + 193), .int p1]) ++ List.replicate (2 - (lg_sl ([.ref (b + 193), .int p1])).length) Slot.unset).toArray = ls at hl ⊢
  have hl : lv_has ls 2 [(0, .ref (b + 193)), (1, .int p1)] := hl
  unfold f_X5_isChild at hf
  refine lv_iload_n hx hb dX5_isChild_0 rfl (lv_at hl 1 rfl) ?_
  refine lv_iconst (v := 0) hx hb dX5_isChild_1 (by decide) ?_
  refine lv_aload_n hx hb dX5_isChild_2 rfl (lv_at hl 0 rfl) ?_
  refine getM hx hb hta hown hE.1 hW 0 (by decide) q1181 rfl dX5_isChild_3 ?_
  refine lv_bipush (v := 9) hx hb dX5_isChild_6 (by decide) ?_
  refine iald hx hb hE.1 hW sh_194 (vp_lit (by decide +kernel)) dX5_isChild_8 ?_
  refine lv_iconst (v := 1) hx hb dX5_isChild_9 (by decide) ?_
  refine lv_isub hx hb dX5_isChild_10 ?_
  obtain ⟨y1, u2, hf⟩ := b1_e hf
  refine mS (n := 3) (As := [.int p1, .int 0, .int ((σ 194 (9 : Int32).toNatClampNeg) - 1)]) (rest := []) (c_X5_in l D t b σ p1 0 ((σ 194 (9 : Int32).toNatClampNeg) - 1) y1 u2) hx hb hml hown hts hE hW hS q1239 q1240 q96 q1241 hs_X5_in ⟨rfl, rfl⟩ ⟨Nat.le_of_ble_eq_true rfl, Nat.le_of_ble_eq_true rfl⟩ rfl rfl hl.1 (Nat.le_of_ble_eq_true rfl) ⟨Nat.zero_le _, Nat.zero_le _⟩ dX5_isChild_11 (fun H locs hW hS => ?_)
  obtain ⟨g3, hf⟩ := gd_e hf
  cases hf
  exact W.zret (ty := .boolean) hx hb hr (nar_bool g3).1 (fun u hu _ => ⟨⟨rfl, by rw [hu]; exact hW⟩, hS.F hu⟩) hS.2.2 dX5_isChild_14
def f_X5_isPitch (σ : Sg) (p0 : Int32) : Option Int32 := b1 (f_X5_in σ p0 0 11) fun y1 => gd y1 2 (some y1)
set_option maxHeartbeats 4000000 in
set_option maxRecDepth 100000 in
theorem c_X5_isPitch (l : Launch) (D : va_G) (t : Nat → ClassId) (b : Nat) (σ : Sg) (p0 : Int32) (r : Int32) (hf : f_X5_isPitch σ p0 = some r) : Met l yX5_isPitch (Cond.code yX5_isPitch cX5_isPitch 1 (some .boolean) :: ALL) ({ frames := 1, cells := 0, slots := 0, locals := 22 }) (PM D t b σ [.int p0]) (QG D t b σ (some (.int r))) 0 0 (geA b) := by
  refine Met.ofW (cc := cX5_isPitch) (maxL := 1) (ret := (some .boolean)) (by decide) rfl ?_
  intro p e s m args below meth c s₁ B hml hv
  obtain ⟨rfl, hW, hE⟩ := hv
  have hx := B.exec
  have hb := B.bytes
  have hr := B.returns
  have hts := atoms_spec (ws := Cond.code yX5_isPitch cX5_isPitch 1 (some .boolean) :: ALL) B.pre
  have hta := fun w h => hts w (List.mem_cons_of_mem _ h)
  have hown : s.vm.findClass RX5 = some m.cls := findClass_of_methodNamed B.named
  have hlocks := B.notSynchronized
  have hS : va_S (geA b) s.heap s.heap [] := va_S.rf
  have hl := lv_entry ([.int p0]) (n := 1) (Nat.le_of_ble_eq_true rfl)
  rw [lg_entry_eq]
  generalize (lg_sl ([.int p0]) ++ List.replicate (1 - (lg_sl ([.int p0])).length) Slot.unset).toArray = ls at hl ⊢
  have hl : lv_has ls 1 [(0, .int p0)] := hl
  unfold f_X5_isPitch at hf
  refine lv_iload_n hx hb dX5_isPitch_0 rfl (lv_at hl 0 rfl) ?_
  refine lv_iconst (v := 0) hx hb dX5_isPitch_1 (by decide) ?_
  refine lv_bipush (v := 11) hx hb dX5_isPitch_2 (by decide) ?_
  obtain ⟨y1, u2, hf⟩ := b1_e hf
  refine mS (n := 3) (As := [.int p0, .int 0, .int 11]) (rest := []) (c_X5_in l D t b σ p0 0 11 y1 u2) hx hb hml hown hts hE hW hS q1239 q1240 q96 q1241 hs_X5_in ⟨rfl, rfl⟩ ⟨Nat.le_of_ble_eq_true rfl, Nat.le_of_ble_eq_true rfl⟩ rfl rfl hl.1 (Nat.le_of_ble_eq_true rfl) ⟨Nat.zero_le _, Nat.zero_le _⟩ dX5_isPitch_4 (fun H locs hW hS => ?_)
  obtain ⟨g3, hf⟩ := gd_e hf
  cases hf
  exact W.zret (ty := .boolean) hx hb hr (nar_bool g3).1 (fun u hu _ => ⟨⟨rfl, by rw [hu]; exact hW⟩, hS.F hu⟩) hS.2.2 dX5_isPitch_7
def f_X5_isKind (σ : Sg) (p0 : Int32) : Option Int32 := b1 (f_X5_in σ p0 0 4) fun y1 => gd y1 2 (some y1)
set_option maxHeartbeats 4000000 in
set_option maxRecDepth 100000 in
theorem c_X5_isKind (l : Launch) (D : va_G) (t : Nat → ClassId) (b : Nat) (σ : Sg) (p0 : Int32) (r : Int32) (hf : f_X5_isKind σ p0 = some r) : Met l yX5_isKind (Cond.code yX5_isKind cX5_isKind 1 (some .boolean) :: ALL) ({ frames := 1, cells := 0, slots := 0, locals := 22 }) (PM D t b σ [.int p0]) (QG D t b σ (some (.int r))) 0 0 (geA b) := by
  refine Met.ofW (cc := cX5_isKind) (maxL := 1) (ret := (some .boolean)) (by decide) rfl ?_
  intro p e s m args below meth c s₁ B hml hv
  obtain ⟨rfl, hW, hE⟩ := hv
  have hx := B.exec
  have hb := B.bytes
  have hr := B.returns
  have hts := atoms_spec (ws := Cond.code yX5_isKind cX5_isKind 1 (some .boolean) :: ALL) B.pre
  have hta := fun w h => hts w (List.mem_cons_of_mem _ h)
  have hown : s.vm.findClass RX5 = some m.cls := findClass_of_methodNamed B.named
  have hlocks := B.notSynchronized
  have hS : va_S (geA b) s.heap s.heap [] := va_S.rf
  have hl := lv_entry ([.int p0]) (n := 1) (Nat.le_of_ble_eq_true rfl)
  rw [lg_entry_eq]
  generalize (lg_sl ([.int p0]) ++ List.replicate (1 - (lg_sl ([.int p0])).length) Slot.unset).toArray = ls at hl ⊢
  have hl : lv_has ls 1 [(0, .int p0)] := hl
  unfold f_X5_isKind at hf
  refine lv_iload_n hx hb dX5_isKind_0 rfl (lv_at hl 0 rfl) ?_
  refine lv_iconst (v := 0) hx hb dX5_isKind_1 (by decide) ?_
  refine lv_iconst (v := 4) hx hb dX5_isKind_2 (by decide) ?_
  obtain ⟨y1, u2, hf⟩ := b1_e hf
  refine mS (n := 3) (As := [.int p0, .int 0, .int 4]) (rest := []) (c_X5_in l D t b σ p0 0 4 y1 u2) hx hb hml hown hts hE hW hS q1239 q1240 q96 q1241 hs_X5_in ⟨rfl, rfl⟩ ⟨Nat.le_of_ble_eq_true rfl, Nat.le_of_ble_eq_true rfl⟩ rfl rfl hl.1 (Nat.le_of_ble_eq_true rfl) ⟨Nat.zero_le _, Nat.zero_le _⟩ dX5_isKind_3 (fun H locs hW hS => ?_)
  obtain ⟨g3, hf⟩ := gd_e hf
  cases hf
  exact W.zret (ty := .boolean) hx hb hr (nar_bool g3).1 (fun u hu _ => ⟨⟨rfl, by rw [hu]; exact hW⟩, hS.F hu⟩) hS.2.2 dX5_isKind_6
def f_X5_isFour (σ : Sg) (p0 : Int32) : Option Int32 := b1 (f_X5_in σ p0 0 3) fun y1 => gd y1 2 (some y1)
set_option maxHeartbeats 4000000 in
set_option maxRecDepth 100000 in
theorem c_X5_isFour (l : Launch) (D : va_G) (t : Nat → ClassId) (b : Nat) (σ : Sg) (p0 : Int32) (r : Int32) (hf : f_X5_isFour σ p0 = some r) : Met l yX5_isFour (Cond.code yX5_isFour cX5_isFour 1 (some .boolean) :: ALL) ({ frames := 1, cells := 0, slots := 0, locals := 22 }) (PM D t b σ [.int p0]) (QG D t b σ (some (.int r))) 0 0 (geA b) := by
  refine Met.ofW (cc := cX5_isFour) (maxL := 1) (ret := (some .boolean)) (by decide) rfl ?_
  intro p e s m args below meth c s₁ B hml hv
  obtain ⟨rfl, hW, hE⟩ := hv
  have hx := B.exec
  have hb := B.bytes
  have hr := B.returns
  have hts := atoms_spec (ws := Cond.code yX5_isFour cX5_isFour 1 (some .boolean) :: ALL) B.pre
  have hta := fun w h => hts w (List.mem_cons_of_mem _ h)
  have hown : s.vm.findClass RX5 = some m.cls := findClass_of_methodNamed B.named
  have hlocks := B.notSynchronized
  have hS : va_S (geA b) s.heap s.heap [] := va_S.rf
  have hl := lv_entry ([.int p0]) (n := 1) (Nat.le_of_ble_eq_true rfl)
  rw [lg_entry_eq]
  generalize (lg_sl ([.int p0]) ++ List.replicate (1 - (lg_sl ([.int p0])).length) Slot.unset).toArray = ls at hl ⊢
  have hl : lv_has ls 1 [(0, .int p0)] := hl
  unfold f_X5_isFour at hf
  refine lv_iload_n hx hb dX5_isFour_0 rfl (lv_at hl 0 rfl) ?_
  refine lv_iconst (v := 0) hx hb dX5_isFour_1 (by decide) ?_
  refine lv_iconst (v := 3) hx hb dX5_isFour_2 (by decide) ?_
  obtain ⟨y1, u2, hf⟩ := b1_e hf
  refine mS (n := 3) (As := [.int p0, .int 0, .int 3]) (rest := []) (c_X5_in l D t b σ p0 0 3 y1 u2) hx hb hml hown hts hE hW hS q1239 q1240 q96 q1241 hs_X5_in ⟨rfl, rfl⟩ ⟨Nat.le_of_ble_eq_true rfl, Nat.le_of_ble_eq_true rfl⟩ rfl rfl hl.1 (Nat.le_of_ble_eq_true rfl) ⟨Nat.zero_le _, Nat.zero_le _⟩ dX5_isFour_3 (fun H locs hW hS => ?_)
  obtain ⟨g3, hf⟩ := gd_e hf
  cases hf
  exact W.zret (ty := .boolean) hx hb hr (nar_bool g3).1 (fun u hu _ => ⟨⟨rfl, by rw [hu]; exact hW⟩, hS.F hu⟩) hS.2.2 dX5_isFour_6
def f_X5_isPrice (σ : Sg) (p0 : Int32) : Option Int32 := b1 (f_X5_in σ p0 1 9) fun y1 => gd y1 2 (some y1)
set_option maxHeartbeats 4000000 in
set_option maxRecDepth 100000 in
theorem c_X5_isPrice (l : Launch) (D : va_G) (t : Nat → ClassId) (b : Nat) (σ : Sg) (p0 : Int32) (r : Int32) (hf : f_X5_isPrice σ p0 = some r) : Met l yX5_isPrice (Cond.code yX5_isPrice cX5_isPrice 1 (some .boolean) :: ALL) ({ frames := 1, cells := 0, slots := 0, locals := 22 }) (PM D t b σ [.int p0]) (QG D t b σ (some (.int r))) 0 0 (geA b) := by
  refine Met.ofW (cc := cX5_isPrice) (maxL := 1) (ret := (some .boolean)) (by decide) rfl ?_
  intro p e s m args below meth c s₁ B hml hv
  obtain ⟨rfl, hW, hE⟩ := hv
  have hx := B.exec
  have hb := B.bytes
  have hr := B.returns
  have hts := atoms_spec (ws := Cond.code yX5_isPrice cX5_isPrice 1 (some .boolean) :: ALL) B.pre
  have hta := fun w h => hts w (List.mem_cons_of_mem _ h)
  have hown : s.vm.findClass RX5 = some m.cls := findClass_of_methodNamed B.named
  have hlocks := B.notSynchronized
  have hS : va_S (geA b) s.heap s.heap [] := va_S.rf
  have hl := lv_entry ([.int p0]) (n := 1) (Nat.le_of_ble_eq_true rfl)
  rw [lg_entry_eq]
  generalize (lg_sl ([.int p0]) ++ List.replicate (1 - (lg_sl ([.int p0])).length) Slot.unset).toArray = ls at hl ⊢
  have hl : lv_has ls 1 [(0, .int p0)] := hl
  unfold f_X5_isPrice at hf
  refine lv_iload_n hx hb dX5_isPrice_0 rfl (lv_at hl 0 rfl) ?_
  refine lv_iconst (v := 1) hx hb dX5_isPrice_1 (by decide) ?_
  refine lv_bipush (v := 9) hx hb dX5_isPrice_2 (by decide) ?_
  obtain ⟨y1, u2, hf⟩ := b1_e hf
  refine mS (n := 3) (As := [.int p0, .int 1, .int 9]) (rest := []) (c_X5_in l D t b σ p0 1 9 y1 u2) hx hb hml hown hts hE hW hS q1239 q1240 q96 q1241 hs_X5_in ⟨rfl, rfl⟩ ⟨Nat.le_of_ble_eq_true rfl, Nat.le_of_ble_eq_true rfl⟩ rfl rfl hl.1 (Nat.le_of_ble_eq_true rfl) ⟨Nat.zero_le _, Nat.zero_le _⟩ dX5_isPrice_4 (fun H locs hW hS => ?_)
  obtain ⟨g3, hf⟩ := gd_e hf
  cases hf
  exact W.zret (ty := .boolean) hx hb hr (nar_bool g3).1 (fun u hu _ => ⟨⟨rfl, by rw [hu]; exact hW⟩, hS.F hu⟩) hS.2.2 dX5_isPrice_7
def f_X5_half (σ : Sg) (p0 : Int32) : Option Int32 := some (p0 / 2)
set_option maxHeartbeats 4000000 in
set_option maxRecDepth 100000 in
theorem c_X5_half (l : Launch) (D : va_G) (t : Nat → ClassId) (b : Nat) (σ : Sg) (p0 : Int32) (r : Int32) (hf : f_X5_half σ p0 = some r) : Met l yX5_half (Cond.code yX5_half cX5_half 1 (some .int) :: ALL) ({ frames := 0, cells := 0, slots := 0, locals := 0 }) (PM D t b σ [.int p0]) (QG D t b σ (some (.int r))) 0 0 (geA b) := by
  refine Met.ofW (cc := cX5_half) (maxL := 1) (ret := (some .int)) (by decide) rfl ?_
  intro p e s m args below meth c s₁ B hml hv
  obtain ⟨rfl, hW, hE⟩ := hv
  have hx := B.exec
  have hb := B.bytes
  have hr := B.returns
  have hts := atoms_spec (ws := Cond.code yX5_half cX5_half 1 (some .int) :: ALL) B.pre
  have hta := fun w h => hts w (List.mem_cons_of_mem _ h)
  have hown : s.vm.findClass RX5 = some m.cls := findClass_of_methodNamed B.named
  have hlocks := B.notSynchronized
  have hS : va_S (geA b) s.heap s.heap [] := va_S.rf
  have hl := lv_entry ([.int p0]) (n := 1) (Nat.le_of_ble_eq_true rfl)
  rw [lg_entry_eq]
  generalize (lg_sl ([.int p0]) ++ List.replicate (1 - (lg_sl ([.int p0])).length) Slot.unset).toArray = ls at hl ⊢
  have hl : lv_has ls 1 [(0, .int p0)] := hl
  unfold f_X5_half at hf
  refine lv_iload_n hx hb dX5_half_0 rfl (lv_at hl 0 rfl) ?_
  refine lv_iconst (v := 2) hx hb dX5_half_1 (by decide) ?_
  refine lv_idiv hx hb dX5_half_2 (by decide) ?_
  cases hf
  exact W.iret hx hb hr (fun u hu _ => ⟨⟨rfl, by rw [hu]; exact hW⟩, hS.F hu⟩) hS.2.2 dX5_half_3
def l_X5_on_2 : Nat → Sg → Int32 → Int32 → Option Int32
  | 0, _, _, _ => none
  | n + 1, τ, x1, x2 => if (τ 194 (8 : Int32).toNatClampNeg) ≤ x2 then (some (-1)) else (b1 (f_X5_its τ x2 0) fun y2 => if y2 = x1 then (some x2) else (l_X5_on_2 n τ x1 (x2 + 1)))
def f_X5_on (σ : Sg) (p1 : Int32) : Option Int32 := l_X5_on_2 10000 σ p1 0
set_option maxHeartbeats 4000000 in
set_option maxRecDepth 100000 in
theorem c_X5_on (l : Launch) (D : va_G) (t : Nat → ClassId) (b : Nat) (σ : Sg) (p1 : Int32) (r : Int32) (hf : f_X5_on σ p1 = some r) : Met l yX5_on (Cond.code yX5_on cX5_on 3 (some .int) :: ALL) ({ frames := 1, cells := 0, slots := 0, locals := 22 }) (PM D t b σ [.ref (b + 193), .int p1]) (QG D t b σ (some (.int r))) 0 0 (geA b) := by
  refine Met.ofW (cc := cX5_on) (maxL := 3) (ret := (some .int)) (by decide) rfl ?_
  intro p e s m args below meth c s₁ B hml hv
  obtain ⟨rfl, hW, hE⟩ := hv
  have hx := B.exec
  have hb := B.bytes
  have hr := B.returns
  have hts := atoms_spec (ws := Cond.code yX5_on cX5_on 3 (some .int) :: ALL) B.pre
  have hta := fun w h => hts w (List.mem_cons_of_mem _ h)
  have hown : s.vm.findClass RX5 = some m.cls := findClass_of_methodNamed B.named
  have hlocks := B.notSynchronized
  have hS : va_S (geA b) s.heap s.heap [] := va_S.rf
  have hl := lv_entry ([.ref (b + 193), .int p1]) (n := 3) (Nat.le_of_ble_eq_true rfl)
  rw [lg_entry_eq]
  generalize (lg_sl ([.ref (b + 193), .int p1]) ++ List.replicate (3 - (lg_sl ([.ref (b + 193), .int p1])).length) Slot.unset).toArray = ls at hl ⊢
  have hl : lv_has ls 3 [(0, .ref (b + 193)), (1, .int p1)] := hl
  unfold f_X5_on at hf
  refine lv_iconst (v := 0) hx hb dX5_on_0 (by decide) ?_
  refine lv_istore_n (lv' := [(2, .int 0), (0, .ref (b + 193)), (1, .int p1)]) hx hb dX5_on_1 rfl hl (by decide) rfl (fun ls hl => ?_)
  have key_2 : ∀ (n : Nat) (τ : Sg) (x1 : Int32) (x2 : Int32) (H : Heap) (locs : List Loc) (ls : Array Slot), l_X5_on_2 n τ x1 x2 = some r → wd D t b τ H → va_S (geA b) s.heap H locs → lv_has ls 3 [(0, .ref (b + 193)), (1, .int x1), (2, .int x2)] → W p l e (headSpec (Cond.code yX5_on cX5_on 3 (some .int) :: ALL) ({ frames := 1, cells := 0, slots := 0, locals := 22 })).room s m (([.ref (b + 193), .int p1] : List Value).toArray) below meth c H locs 0 0 (MQ below (QG D t b τ (some (.int r))) (([.ref (b + 193), .int p1] : List Value).toArray) s 0 0 (geA b)) (F0 m 2 ls []) := by
    intro n
    induction n with
    | zero =>
      intro τ x1 x2 H locs ls hf
      rw [l_X5_on_2.eq_1] at hf
      cases hf
    | succ n ih_2 =>
      intro τ x1 x2 H locs ls hf hW hS hl
      rw [l_X5_on_2.eq_2] at hf
      refine lv_iload_n hx hb dX5_on_2 rfl (lv_at hl 2 rfl) ?_
      refine lv_aload_n hx hb dX5_on_3 rfl (lv_at hl 0 rfl) ?_
      refine getM hx hb hta hown hE.1 hW 0 (by decide) q1181 rfl dX5_on_4 ?_
      refine lv_bipush (v := 8) hx hb dX5_on_7 (by decide) ?_
      refine iald hx hb hE.1 hW sh_194 (vp_lit (by decide +kernel)) dX5_on_9 ?_
      refine lv_icmp_ge (tgt := 31) hx hb dX5_on_10 (by decide) (fun h1 => ?_) (fun h1 => ?_)
      · have hf := ifp h1 hf
        refine lv_iconst (v := (-1)) hx hb dX5_on_31 (by decide) ?_
        cases hf
        exact W.iret hx hb hr (fun u hu _ => ⟨⟨rfl, by rw [hu]; exact hW⟩, hS.F hu⟩) hS.2.2 dX5_on_32
      · have hf := ifn h1 hf
        refine lv_aload_n hx hb dX5_on_13 rfl (lv_at hl 0 rfl) ?_
        refine lv_iload_n hx hb dX5_on_14 rfl (lv_at hl 2 rfl) ?_
        refine lv_iconst (v := 0) hx hb dX5_on_15 (by decide) ?_
        obtain ⟨y2, u3, hf⟩ := b1_e hf
        refine mV (k := 193) (q := (5, 0)) (C := RX5) (T := TX5) (N := 14) (ci := 5) (n := 2) (As := [.int x2, .int 0]) (rest := []) (c_X5_its l D t b τ x2 0 y2 u3) sh_193 (by decide) rfl rfl hx hb hml hown hts hE hW hS q1252 q1254 q35 q96 q1255 hy_X5_its ⟨rfl, rfl⟩ ⟨Nat.le_of_ble_eq_true rfl, Nat.le_of_ble_eq_true rfl⟩ rfl rfl hl.1 (Nat.le_of_ble_eq_true rfl) ⟨Nat.zero_le _, Nat.zero_le _⟩ dX5_on_16 (fun H locs hW hS => ?_)
        refine lv_iload_n hx hb dX5_on_19 rfl (lv_at hl 1 rfl) ?_
        refine lv_icmp_ne (tgt := 25) hx hb dX5_on_20 (by decide) (fun h4 => ?_) (fun h4 => ?_)
        · have hf := ifn h4 hf
          refine lv_iinc (v := (x2 + 1)) (lv' := [(2, .int (x2 + 1)), (0, .ref (b + 193)), (1, .int x1)]) hx hb dX5_on_25 hl (k := 2) rfl (by rfl) (by decide) rfl (fun ls hl => ?_)
          refine lv_goto (tgt := 2) hx hb dX5_on_28 (by decide) ?_
          exact ih_2 τ x1 (x2 + 1) _ _ _ hf hW hS (lv_sub hl [1, 2, 0] rfl)
        · have hf := ifp h4 hf
          refine lv_iload_n hx hb dX5_on_23 rfl (lv_at hl 2 rfl) ?_
          cases hf
          exact W.iret hx hb hr (fun u hu _ => ⟨⟨rfl, by rw [hu]; exact hW⟩, hS.F hu⟩) hS.2.2 dX5_on_24
  exact key_2 10000 σ p1 0 _ _ _ hf hW hS (lv_sub hl [1, 2, 0] rfl)
def f_X5_openOn (σ : Sg) (p1 : Int32) : Option Int32 := b1 (f_X5_on σ p1) fun y1 => if y1 = (-1) then (some (-1)) else (b1 (f_X5_its σ y1 6) fun y4 => if y4 = 1 then (some y1) else (some (-1)))
set_option maxHeartbeats 4000000 in
set_option maxRecDepth 100000 in
theorem c_X5_openOn (l : Launch) (D : va_G) (t : Nat → ClassId) (b : Nat) (σ : Sg) (p1 : Int32) (r : Int32) (hf : f_X5_openOn σ p1 = some r) : Met l yX5_openOn (Cond.code yX5_openOn cX5_openOn 3 (some .int) :: ALL) ({ frames := 2, cells := 0, slots := 0, locals := 44 }) (PM D t b σ [.ref (b + 193), .int p1]) (QG D t b σ (some (.int r))) 0 0 (geA b) := by
  refine Met.ofW (cc := cX5_openOn) (maxL := 3) (ret := (some .int)) (by decide) rfl ?_
  intro p e s m args below meth c s₁ B hml hv
  obtain ⟨rfl, hW, hE⟩ := hv
  have hx := B.exec
  have hb := B.bytes
  have hr := B.returns
  have hts := atoms_spec (ws := Cond.code yX5_openOn cX5_openOn 3 (some .int) :: ALL) B.pre
  have hta := fun w h => hts w (List.mem_cons_of_mem _ h)
  have hown : s.vm.findClass RX5 = some m.cls := findClass_of_methodNamed B.named
  have hlocks := B.notSynchronized
  have hS : va_S (geA b) s.heap s.heap [] := va_S.rf
  have hl := lv_entry ([.ref (b + 193), .int p1]) (n := 3) (Nat.le_of_ble_eq_true rfl)
  rw [lg_entry_eq]
  generalize (lg_sl ([.ref (b + 193), .int p1]) ++ List.replicate (3 - (lg_sl ([.ref (b + 193), .int p1])).length) Slot.unset).toArray = ls at hl ⊢
  have hl : lv_has ls 3 [(0, .ref (b + 193)), (1, .int p1)] := hl
  unfold f_X5_openOn at hf
  refine lv_aload_n hx hb dX5_openOn_0 rfl (lv_at hl 0 rfl) ?_
  refine lv_iload_n hx hb dX5_openOn_1 rfl (lv_at hl 1 rfl) ?_
  obtain ⟨y1, u2, hf⟩ := b1_e hf
  refine mV (k := 193) (q := (5, 0)) (C := RX5) (T := TX5) (N := 14) (ci := 5) (n := 1) (As := [.int p1]) (rest := []) (c_X5_on l D t b σ p1 y1 u2) sh_193 (by decide) rfl rfl hx hb hml hown hts hE hW hS q1248 q1250 q34 q96 q1251 hy_X5_on ⟨rfl, rfl⟩ ⟨Nat.le_of_ble_eq_true rfl, Nat.le_of_ble_eq_true rfl⟩ rfl rfl hl.1 (Nat.le_of_ble_eq_true rfl) ⟨Nat.zero_le _, Nat.zero_le _⟩ dX5_openOn_2 (fun H locs hW hS => ?_)
  refine lv_istore_n (lv' := [(2, .int y1), (0, .ref (b + 193)), (1, .int p1)]) hx hb dX5_openOn_5 rfl hl (by decide) rfl (fun ls hl => ?_)
  refine lv_iload_n hx hb dX5_openOn_6 rfl (lv_at hl 0 rfl) ?_
  refine lv_iconst (v := (-1)) hx hb dX5_openOn_7 (by decide) ?_
  refine lv_icmp_eq (tgt := 26) hx hb dX5_openOn_8 (by decide) (fun h3 => ?_) (fun h3 => ?_)
  · have hf := ifp h3 hf
    refine lv_iconst (v := (-1)) hx hb dX5_openOn_26 (by decide) ?_
    cases hf
    exact W.iret hx hb hr (fun u hu _ => ⟨⟨rfl, by rw [hu]; exact hW⟩, hS.F hu⟩) hS.2.2 dX5_openOn_27
  · have hf := ifn h3 hf
    refine lv_aload_n hx hb dX5_openOn_11 rfl (lv_at hl 1 rfl) ?_
    refine lv_iload_n hx hb dX5_openOn_12 rfl (lv_at hl 0 rfl) ?_
    refine lv_bipush (v := 6) hx hb dX5_openOn_13 (by decide) ?_
    obtain ⟨y4, u5, hf⟩ := b1_e hf
    refine mV (k := 193) (q := (5, 0)) (C := RX5) (T := TX5) (N := 14) (ci := 5) (n := 2) (As := [.int y1, .int 6]) (rest := []) (c_X5_its l D t b σ y1 6 y4 u5) sh_193 (by decide) rfl rfl hx hb hml hown hts hE hW hS q1252 q1254 q35 q96 q1255 hy_X5_its ⟨rfl, rfl⟩ ⟨Nat.le_of_ble_eq_true rfl, Nat.le_of_ble_eq_true rfl⟩ rfl rfl hl.1 (Nat.le_of_ble_eq_true rfl) ⟨Nat.zero_le _, Nat.zero_le _⟩ dX5_openOn_15 (fun H locs hW hS => ?_)
    refine lv_iconst (v := 1) hx hb dX5_openOn_18 (by decide) ?_
    refine lv_icmp_ne (tgt := 26) hx hb dX5_openOn_19 (by decide) (fun h6 => ?_) (fun h6 => ?_)
    · have hf := ifn h6 hf
      refine lv_iconst (v := (-1)) hx hb dX5_openOn_26 (by decide) ?_
      cases hf
      exact W.iret hx hb hr (fun u hu _ => ⟨⟨rfl, by rw [hu]; exact hW⟩, hS.F hu⟩) hS.2.2 dX5_openOn_27
    · have hf := ifp h6 hf
      refine lv_iload_n hx hb dX5_openOn_22 rfl (lv_at hl 0 rfl) ?_
      refine lv_goto (tgt := 27) hx hb dX5_openOn_23 (by decide) ?_
      cases hf
      exact W.iret hx hb hr (fun u hu _ => ⟨⟨rfl, by rw [hu]; exact hW⟩, hS.F hu⟩) hS.2.2 dX5_openOn_27
def f_X5_every (σ : Sg) (p0 : Int32) : Option Int32 := if p0 = 0 then (some 4) else (if p0 = 1 then (some 3) else (if p0 = 2 then (some 5) else (if p0 = 3 then (some 1) else (some 0))))
set_option maxHeartbeats 4000000 in
set_option maxRecDepth 100000 in
theorem c_X5_every (l : Launch) (D : va_G) (t : Nat → ClassId) (b : Nat) (σ : Sg) (p0 : Int32) (r : Int32) (hf : f_X5_every σ p0 = some r) : Met l yX5_every (Cond.code yX5_every cX5_every 1 (some .int) :: ALL) ({ frames := 0, cells := 0, slots := 0, locals := 0 }) (PM D t b σ [.int p0]) (QG D t b σ (some (.int r))) 0 0 (geA b) := by
  refine Met.ofW (cc := cX5_every) (maxL := 1) (ret := (some .int)) (by decide) rfl ?_
  intro p e s m args below meth c s₁ B hml hv
  obtain ⟨rfl, hW, hE⟩ := hv
  have hx := B.exec
  have hb := B.bytes
  have hr := B.returns
  have hts := atoms_spec (ws := Cond.code yX5_every cX5_every 1 (some .int) :: ALL) B.pre
  have hta := fun w h => hts w (List.mem_cons_of_mem _ h)
  have hown : s.vm.findClass RX5 = some m.cls := findClass_of_methodNamed B.named
  have hlocks := B.notSynchronized
  have hS : va_S (geA b) s.heap s.heap [] := va_S.rf
  have hl := lv_entry ([.int p0]) (n := 1) (Nat.le_of_ble_eq_true rfl)
  rw [lg_entry_eq]
  generalize (lg_sl ([.int p0]) ++ List.replicate (1 - (lg_sl ([.int p0])).length) Slot.unset).toArray = ls at hl ⊢
  have hl : lv_has ls 1 [(0, .int p0)] := hl
  unfold f_X5_every at hf
  refine lv_iload_n hx hb dX5_every_0 rfl (lv_at hl 0 rfl) ?_
  refine lv_if_ne (tgt := 8) hx hb dX5_every_1 (by decide) (fun h1 => ?_) (fun h1 => ?_)
  · have hf := ifn h1 hf
    refine lv_iload_n hx hb dX5_every_8 rfl (lv_at hl 0 rfl) ?_
    refine lv_iconst (v := 1) hx hb dX5_every_9 (by decide) ?_
    refine lv_icmp_ne (tgt := 17) hx hb dX5_every_10 (by decide) (fun h2 => ?_) (fun h2 => ?_)
    · have hf := ifn h2 hf
      refine lv_iload_n hx hb dX5_every_17 rfl (lv_at hl 0 rfl) ?_
      refine lv_iconst (v := 2) hx hb dX5_every_18 (by decide) ?_
      refine lv_icmp_ne (tgt := 26) hx hb dX5_every_19 (by decide) (fun h3 => ?_) (fun h3 => ?_)
      · have hf := ifn h3 hf
        refine lv_iload_n hx hb dX5_every_26 rfl (lv_at hl 0 rfl) ?_
        refine lv_iconst (v := 3) hx hb dX5_every_27 (by decide) ?_
        refine lv_icmp_ne (tgt := 35) hx hb dX5_every_28 (by decide) (fun h4 => ?_) (fun h4 => ?_)
        · have hf := ifn h4 hf
          refine lv_iconst (v := 0) hx hb dX5_every_35 (by decide) ?_
          cases hf
          exact W.iret hx hb hr (fun u hu _ => ⟨⟨rfl, by rw [hu]; exact hW⟩, hS.F hu⟩) hS.2.2 dX5_every_36
        · have hf := ifp h4 hf
          refine lv_iconst (v := 1) hx hb dX5_every_31 (by decide) ?_
          refine lv_goto (tgt := 36) hx hb dX5_every_32 (by decide) ?_
          cases hf
          exact W.iret hx hb hr (fun u hu _ => ⟨⟨rfl, by rw [hu]; exact hW⟩, hS.F hu⟩) hS.2.2 dX5_every_36
      · have hf := ifp h3 hf
        refine lv_iconst (v := 5) hx hb dX5_every_22 (by decide) ?_
        refine lv_goto (tgt := 36) hx hb dX5_every_23 (by decide) ?_
        cases hf
        exact W.iret hx hb hr (fun u hu _ => ⟨⟨rfl, by rw [hu]; exact hW⟩, hS.F hu⟩) hS.2.2 dX5_every_36
    · have hf := ifp h2 hf
      refine lv_iconst (v := 3) hx hb dX5_every_13 (by decide) ?_
      refine lv_goto (tgt := 36) hx hb dX5_every_14 (by decide) ?_
      cases hf
      exact W.iret hx hb hr (fun u hu _ => ⟨⟨rfl, by rw [hu]; exact hW⟩, hS.F hu⟩) hS.2.2 dX5_every_36
  · have hf := ifp h1 hf
    refine lv_iconst (v := 4) hx hb dX5_every_4 (by decide) ?_
    refine lv_goto (tgt := 36) hx hb dX5_every_5 (by decide) ?_
    cases hf
    exact W.iret hx hb hr (fun u hu _ => ⟨⟨rfl, by rw [hu]; exact hW⟩, hS.F hu⟩) hS.2.2 dX5_every_36
def f_X5_greatest (σ : Sg) (p0 : Int32) : Option Int32 := if p0 = 0 then (some 2) else (if p0 = 1 then (some 1) else (if p0 = 2 then (some 3) else (if p0 = 3 then (some 0) else (some (-1)))))
set_option maxHeartbeats 4000000 in
set_option maxRecDepth 100000 in
theorem c_X5_greatest (l : Launch) (D : va_G) (t : Nat → ClassId) (b : Nat) (σ : Sg) (p0 : Int32) (r : Int32) (hf : f_X5_greatest σ p0 = some r) : Met l yX5_greatest (Cond.code yX5_greatest cX5_greatest 1 (some .int) :: ALL) ({ frames := 0, cells := 0, slots := 0, locals := 0 }) (PM D t b σ [.int p0]) (QG D t b σ (some (.int r))) 0 0 (geA b) := by
  refine Met.ofW (cc := cX5_greatest) (maxL := 1) (ret := (some .int)) (by decide) rfl ?_
  intro p e s m args below meth c s₁ B hml hv
  obtain ⟨rfl, hW, hE⟩ := hv
  have hx := B.exec
  have hb := B.bytes
  have hr := B.returns
  have hts := atoms_spec (ws := Cond.code yX5_greatest cX5_greatest 1 (some .int) :: ALL) B.pre
  have hta := fun w h => hts w (List.mem_cons_of_mem _ h)
  have hown : s.vm.findClass RX5 = some m.cls := findClass_of_methodNamed B.named
  have hlocks := B.notSynchronized
  have hS : va_S (geA b) s.heap s.heap [] := va_S.rf
  have hl := lv_entry ([.int p0]) (n := 1) (Nat.le_of_ble_eq_true rfl)
  rw [lg_entry_eq]
  generalize (lg_sl ([.int p0]) ++ List.replicate (1 - (lg_sl ([.int p0])).length) Slot.unset).toArray = ls at hl ⊢
  have hl : lv_has ls 1 [(0, .int p0)] := hl
  unfold f_X5_greatest at hf
  refine lv_iload_n hx hb dX5_greatest_0 rfl (lv_at hl 0 rfl) ?_
  refine lv_if_ne (tgt := 8) hx hb dX5_greatest_1 (by decide) (fun h1 => ?_) (fun h1 => ?_)
  · have hf := ifn h1 hf
    refine lv_iload_n hx hb dX5_greatest_8 rfl (lv_at hl 0 rfl) ?_
    refine lv_iconst (v := 1) hx hb dX5_greatest_9 (by decide) ?_
    refine lv_icmp_ne (tgt := 17) hx hb dX5_greatest_10 (by decide) (fun h2 => ?_) (fun h2 => ?_)
    · have hf := ifn h2 hf
      refine lv_iload_n hx hb dX5_greatest_17 rfl (lv_at hl 0 rfl) ?_
      refine lv_iconst (v := 2) hx hb dX5_greatest_18 (by decide) ?_
      refine lv_icmp_ne (tgt := 26) hx hb dX5_greatest_19 (by decide) (fun h3 => ?_) (fun h3 => ?_)
      · have hf := ifn h3 hf
        refine lv_iload_n hx hb dX5_greatest_26 rfl (lv_at hl 0 rfl) ?_
        refine lv_iconst (v := 3) hx hb dX5_greatest_27 (by decide) ?_
        refine lv_icmp_ne (tgt := 35) hx hb dX5_greatest_28 (by decide) (fun h4 => ?_) (fun h4 => ?_)
        · have hf := ifn h4 hf
          refine lv_iconst (v := (-1)) hx hb dX5_greatest_35 (by decide) ?_
          cases hf
          exact W.iret hx hb hr (fun u hu _ => ⟨⟨rfl, by rw [hu]; exact hW⟩, hS.F hu⟩) hS.2.2 dX5_greatest_36
        · have hf := ifp h4 hf
          refine lv_iconst (v := 0) hx hb dX5_greatest_31 (by decide) ?_
          refine lv_goto (tgt := 36) hx hb dX5_greatest_32 (by decide) ?_
          cases hf
          exact W.iret hx hb hr (fun u hu _ => ⟨⟨rfl, by rw [hu]; exact hW⟩, hS.F hu⟩) hS.2.2 dX5_greatest_36
      · have hf := ifp h3 hf
        refine lv_iconst (v := 3) hx hb dX5_greatest_22 (by decide) ?_
        refine lv_goto (tgt := 36) hx hb dX5_greatest_23 (by decide) ?_
        cases hf
        exact W.iret hx hb hr (fun u hu _ => ⟨⟨rfl, by rw [hu]; exact hW⟩, hS.F hu⟩) hS.2.2 dX5_greatest_36
    · have hf := ifp h2 hf
      refine lv_iconst (v := 1) hx hb dX5_greatest_13 (by decide) ?_
      refine lv_goto (tgt := 36) hx hb dX5_greatest_14 (by decide) ?_
      cases hf
      exact W.iret hx hb hr (fun u hu _ => ⟨⟨rfl, by rw [hu]; exact hW⟩, hS.F hu⟩) hS.2.2 dX5_greatest_36
  · have hf := ifp h1 hf
    refine lv_iconst (v := 2) hx hb dX5_greatest_4 (by decide) ?_
    refine lv_goto (tgt := 36) hx hb dX5_greatest_5 (by decide) ?_
    cases hf
    exact W.iret hx hb hr (fun u hu _ => ⟨⟨rfl, by rw [hu]; exact hW⟩, hS.F hu⟩) hS.2.2 dX5_greatest_36
def f_X5_prizes (σ : Sg) (p1 : Int32) (p2 : Int32) (p3 : Int32) : Option Int32 := b1 (f_X5_its σ p1 ((7 + (4 * p2)) + p3)) fun y1 => some y1
set_option maxHeartbeats 4000000 in
set_option maxRecDepth 100000 in
theorem c_X5_prizes (l : Launch) (D : va_G) (t : Nat → ClassId) (b : Nat) (σ : Sg) (p1 : Int32) (p2 : Int32) (p3 : Int32) (r : Int32) (hf : f_X5_prizes σ p1 p2 p3 = some r) : Met l yX5_prizes (Cond.code yX5_prizes cX5_prizes 4 (some .int) :: ALL) ({ frames := 1, cells := 0, slots := 0, locals := 22 }) (PM D t b σ [.ref (b + 193), .int p1, .int p2, .int p3]) (QG D t b σ (some (.int r))) 0 0 (geA b) := by
  refine Met.ofW (cc := cX5_prizes) (maxL := 4) (ret := (some .int)) (by decide) rfl ?_
  intro p e s m args below meth c s₁ B hml hv
  obtain ⟨rfl, hW, hE⟩ := hv
  have hx := B.exec
  have hb := B.bytes
  have hr := B.returns
  have hts := atoms_spec (ws := Cond.code yX5_prizes cX5_prizes 4 (some .int) :: ALL) B.pre
  have hta := fun w h => hts w (List.mem_cons_of_mem _ h)
  have hown : s.vm.findClass RX5 = some m.cls := findClass_of_methodNamed B.named
  have hlocks := B.notSynchronized
  have hS : va_S (geA b) s.heap s.heap [] := va_S.rf
  have hl := lv_entry ([.ref (b + 193), .int p1, .int p2, .int p3]) (n := 4) (Nat.le_of_ble_eq_true rfl)
  rw [lg_entry_eq]
  generalize (lg_sl ([.ref (b + 193), .int p1, .int p2, .int p3]) ++ List.replicate (4 - (lg_sl ([.ref (b + 193), .int p1, .int p2, .int p3])).length) Slot.unset).toArray = ls at hl ⊢
  have hl : lv_has ls 4 [(0, .ref (b + 193)), (1, .int p1), (2, .int p2), (3, .int p3)] := hl
  unfold f_X5_prizes at hf
  refine lv_aload_n hx hb dX5_prizes_0 rfl (lv_at hl 0 rfl) ?_
  refine lv_iload_n hx hb dX5_prizes_1 rfl (lv_at hl 1 rfl) ?_
  refine lv_bipush (v := 7) hx hb dX5_prizes_2 (by decide) ?_
  refine lv_iconst (v := 4) hx hb dX5_prizes_4 (by decide) ?_
  refine lv_iload_n hx hb dX5_prizes_5 rfl (lv_at hl 2 rfl) ?_
  refine lv_imul hx hb dX5_prizes_6 ?_
  refine lv_iadd hx hb dX5_prizes_7 ?_
  refine lv_iload_n hx hb dX5_prizes_8 rfl (lv_at hl 3 rfl) ?_
  refine lv_iadd hx hb dX5_prizes_9 ?_
  obtain ⟨y1, u2, hf⟩ := b1_e hf
  refine mV (k := 193) (q := (5, 0)) (C := RX5) (T := TX5) (N := 14) (ci := 5) (n := 2) (As := [.int p1, .int ((7 + (4 * p2)) + p3)]) (rest := []) (c_X5_its l D t b σ p1 ((7 + (4 * p2)) + p3) y1 u2) sh_193 (by decide) rfl rfl hx hb hml hown hts hE hW hS q1252 q1254 q35 q96 q1255 hy_X5_its ⟨rfl, rfl⟩ ⟨Nat.le_of_ble_eq_true rfl, Nat.le_of_ble_eq_true rfl⟩ rfl rfl hl.1 (Nat.le_of_ble_eq_true rfl) ⟨Nat.zero_le _, Nat.zero_le _⟩ dX5_prizes_10 (fun H locs hW hS => ?_)
  cases hf
  exact W.iret hx hb hr (fun u hu _ => ⟨⟨rfl, by rw [hu]; exact hW⟩, hS.F hu⟩) hS.2.2 dX5_prizes_13
def l_X5_onShelf_4 : Nat → Sg → Int32 → Int32 → Int32 → Option Int32
  | 0, _, _, _, _ => none
  | n + 1, τ, x1, x2, x3 => if 16 ≤ x3 then (some x2) else (b1 (f_X5_its τ x1 (7 + x3)) fun y2 => l_X5_onShelf_4 n τ x1 (x2 + y2) (x3 + 1))
def f_X5_onShelf (σ : Sg) (p1 : Int32) : Option Int32 := l_X5_onShelf_4 10000 σ p1 0 0
set_option maxHeartbeats 4000000 in
set_option maxRecDepth 100000 in
theorem c_X5_onShelf (l : Launch) (D : va_G) (t : Nat → ClassId) (b : Nat) (σ : Sg) (p1 : Int32) (r : Int32) (hf : f_X5_onShelf σ p1 = some r) : Met l yX5_onShelf (Cond.code yX5_onShelf cX5_onShelf 4 (some .int) :: ALL) ({ frames := 1, cells := 0, slots := 0, locals := 22 }) (PM D t b σ [.ref (b + 193), .int p1]) (QG D t b σ (some (.int r))) 0 0 (geA b) := by
  refine Met.ofW (cc := cX5_onShelf) (maxL := 4) (ret := (some .int)) (by decide) rfl ?_
  intro p e s m args below meth c s₁ B hml hv
  obtain ⟨rfl, hW, hE⟩ := hv
  have hx := B.exec
  have hb := B.bytes
  have hr := B.returns
  have hts := atoms_spec (ws := Cond.code yX5_onShelf cX5_onShelf 4 (some .int) :: ALL) B.pre
  have hta := fun w h => hts w (List.mem_cons_of_mem _ h)
  have hown : s.vm.findClass RX5 = some m.cls := findClass_of_methodNamed B.named
  have hlocks := B.notSynchronized
  have hS : va_S (geA b) s.heap s.heap [] := va_S.rf
  have hl := lv_entry ([.ref (b + 193), .int p1]) (n := 4) (Nat.le_of_ble_eq_true rfl)
  rw [lg_entry_eq]
  generalize (lg_sl ([.ref (b + 193), .int p1]) ++ List.replicate (4 - (lg_sl ([.ref (b + 193), .int p1])).length) Slot.unset).toArray = ls at hl ⊢
  have hl : lv_has ls 4 [(0, .ref (b + 193)), (1, .int p1)] := hl
  unfold f_X5_onShelf at hf
  refine lv_iconst (v := 0) hx hb dX5_onShelf_0 (by decide) ?_
  refine lv_istore_n (lv' := [(2, .int 0), (0, .ref (b + 193)), (1, .int p1)]) hx hb dX5_onShelf_1 rfl hl (by decide) rfl (fun ls hl => ?_)
  refine lv_iconst (v := 0) hx hb dX5_onShelf_2 (by decide) ?_
  refine lv_istore_n (lv' := [(3, .int 0), (2, .int 0), (0, .ref (b + 193)), (1, .int p1)]) hx hb dX5_onShelf_3 rfl hl (by decide) rfl (fun ls hl => ?_)
  have key_4 : ∀ (n : Nat) (τ : Sg) (x1 : Int32) (x2 : Int32) (x3 : Int32) (H : Heap) (locs : List Loc) (ls : Array Slot), l_X5_onShelf_4 n τ x1 x2 x3 = some r → wd D t b τ H → va_S (geA b) s.heap H locs → lv_has ls 4 [(0, .ref (b + 193)), (1, .int x1), (2, .int x2), (3, .int x3)] → W p l e (headSpec (Cond.code yX5_onShelf cX5_onShelf 4 (some .int) :: ALL) ({ frames := 1, cells := 0, slots := 0, locals := 22 })).room s m (([.ref (b + 193), .int p1] : List Value).toArray) below meth c H locs 0 0 (MQ below (QG D t b τ (some (.int r))) (([.ref (b + 193), .int p1] : List Value).toArray) s 0 0 (geA b)) (F0 m 4 ls []) := by
    intro n
    induction n with
    | zero =>
      intro τ x1 x2 x3 H locs ls hf
      rw [l_X5_onShelf_4.eq_1] at hf
      cases hf
    | succ n ih_4 =>
      intro τ x1 x2 x3 H locs ls hf hW hS hl
      rw [l_X5_onShelf_4.eq_2] at hf
      refine lv_iload_n hx hb dX5_onShelf_4 rfl (lv_at hl 3 rfl) ?_
      refine lv_bipush (v := 16) hx hb dX5_onShelf_5 (by decide) ?_
      refine lv_icmp_ge (tgt := 28) hx hb dX5_onShelf_7 (by decide) (fun h1 => ?_) (fun h1 => ?_)
      · have hf := ifp h1 hf
        refine lv_iload_n hx hb dX5_onShelf_28 rfl (lv_at hl 2 rfl) ?_
        cases hf
        exact W.iret hx hb hr (fun u hu _ => ⟨⟨rfl, by rw [hu]; exact hW⟩, hS.F hu⟩) hS.2.2 dX5_onShelf_29
      · have hf := ifn h1 hf
        refine lv_iload_n hx hb dX5_onShelf_10 rfl (lv_at hl 2 rfl) ?_
        refine lv_aload_n hx hb dX5_onShelf_11 rfl (lv_at hl 0 rfl) ?_
        refine lv_iload_n hx hb dX5_onShelf_12 rfl (lv_at hl 1 rfl) ?_
        refine lv_bipush (v := 7) hx hb dX5_onShelf_13 (by decide) ?_
        refine lv_iload_n hx hb dX5_onShelf_15 rfl (lv_at hl 3 rfl) ?_
        refine lv_iadd hx hb dX5_onShelf_16 ?_
        obtain ⟨y2, u3, hf⟩ := b1_e hf
        refine mV (k := 193) (q := (5, 0)) (C := RX5) (T := TX5) (N := 14) (ci := 5) (n := 2) (As := [.int x1, .int (7 + x3)]) (rest := [.int x2]) (c_X5_its l D t b τ x1 (7 + x3) y2 u3) sh_193 (by decide) rfl rfl hx hb hml hown hts hE hW hS q1252 q1254 q35 q96 q1255 hy_X5_its ⟨rfl, rfl⟩ ⟨Nat.le_of_ble_eq_true rfl, Nat.le_of_ble_eq_true rfl⟩ rfl rfl hl.1 (Nat.le_of_ble_eq_true rfl) ⟨Nat.zero_le _, Nat.zero_le _⟩ dX5_onShelf_17 (fun H locs hW hS => ?_)
        refine lv_iadd hx hb dX5_onShelf_20 ?_
        refine lv_istore_n (lv' := [(2, .int (x2 + y2)), (0, .ref (b + 193)), (1, .int x1), (3, .int x3)]) hx hb dX5_onShelf_21 rfl hl (by decide) rfl (fun ls hl => ?_)
        refine lv_iinc (v := (x3 + 1)) (lv' := [(3, .int (x3 + 1)), (2, .int (x2 + y2)), (0, .ref (b + 193)), (1, .int x1)]) hx hb dX5_onShelf_22 hl (k := 3) rfl (by rfl) (by decide) rfl (fun ls hl => ?_)
        refine lv_goto (tgt := 4) hx hb dX5_onShelf_25 (by decide) ?_
        exact ih_4 τ x1 (x2 + y2) (x3 + 1) _ _ _ hf hW hS (lv_sub hl [2, 3, 1, 0] rfl)
  exact key_4 10000 σ p1 0 0 _ _ _ hf hW hS (lv_sub hl [2, 3, 1, 0] rfl)
def f_X5_ofLevel (σ : Sg) (p1 : Int32) (p2 : Int32) : Option Int32 := b1 (f_X5_prizes σ p1 p2 0) fun y1 => b1 (f_X5_prizes σ p1 p2 1) fun y3 => b1 (f_X5_prizes σ p1 p2 2) fun y5 => b1 (f_X5_prizes σ p1 p2 3) fun y7 => some (((y1 + y3) + y5) + y7)
set_option maxHeartbeats 4000000 in
set_option maxRecDepth 100000 in
theorem c_X5_ofLevel (l : Launch) (D : va_G) (t : Nat → ClassId) (b : Nat) (σ : Sg) (p1 : Int32) (p2 : Int32) (r : Int32) (hf : f_X5_ofLevel σ p1 p2 = some r) : Met l yX5_ofLevel (Cond.code yX5_ofLevel cX5_ofLevel 3 (some .int) :: ALL) ({ frames := 2, cells := 0, slots := 0, locals := 45 }) (PM D t b σ [.ref (b + 193), .int p1, .int p2]) (QG D t b σ (some (.int r))) 0 0 (geA b) := by
  refine Met.ofW (cc := cX5_ofLevel) (maxL := 3) (ret := (some .int)) (by decide) rfl ?_
  intro p e s m args below meth c s₁ B hml hv
  obtain ⟨rfl, hW, hE⟩ := hv
  have hx := B.exec
  have hb := B.bytes
  have hr := B.returns
  have hts := atoms_spec (ws := Cond.code yX5_ofLevel cX5_ofLevel 3 (some .int) :: ALL) B.pre
  have hta := fun w h => hts w (List.mem_cons_of_mem _ h)
  have hown : s.vm.findClass RX5 = some m.cls := findClass_of_methodNamed B.named
  have hlocks := B.notSynchronized
  have hS : va_S (geA b) s.heap s.heap [] := va_S.rf
  have hl := lv_entry ([.ref (b + 193), .int p1, .int p2]) (n := 3) (Nat.le_of_ble_eq_true rfl)
  rw [lg_entry_eq]
  generalize (lg_sl ([.ref (b + 193), .int p1, .int p2]) ++ List.replicate (3 - (lg_sl ([.ref (b + 193), .int p1, .int p2])).length) Slot.unset).toArray = ls at hl ⊢
  have hl : lv_has ls 3 [(0, .ref (b + 193)), (1, .int p1), (2, .int p2)] := hl
  unfold f_X5_ofLevel at hf
  refine lv_aload_n hx hb dX5_ofLevel_0 rfl (lv_at hl 0 rfl) ?_
  refine lv_iload_n hx hb dX5_ofLevel_1 rfl (lv_at hl 1 rfl) ?_
  refine lv_iload_n hx hb dX5_ofLevel_2 rfl (lv_at hl 2 rfl) ?_
  refine lv_iconst (v := 0) hx hb dX5_ofLevel_3 (by decide) ?_
  obtain ⟨y1, u2, hf⟩ := b1_e hf
  refine mV (k := 193) (q := (5, 0)) (C := RX5) (T := TX5) (N := 14) (ci := 5) (n := 3) (As := [.int p1, .int p2, .int 0]) (rest := []) (c_X5_prizes l D t b σ p1 p2 0 y1 u2) sh_193 (by decide) rfl rfl hx hb hml hown hts hE hW hS q1313 q1315 q44 q96 q1316 hy_X5_prizes ⟨rfl, rfl⟩ ⟨Nat.le_of_ble_eq_true rfl, Nat.le_of_ble_eq_true rfl⟩ rfl rfl hl.1 (Nat.le_of_ble_eq_true rfl) ⟨Nat.zero_le _, Nat.zero_le _⟩ dX5_ofLevel_4 (fun H locs hW hS => ?_)
  refine lv_aload_n hx hb dX5_ofLevel_7 rfl (lv_at hl 0 rfl) ?_
  refine lv_iload_n hx hb dX5_ofLevel_8 rfl (lv_at hl 1 rfl) ?_
  refine lv_iload_n hx hb dX5_ofLevel_9 rfl (lv_at hl 2 rfl) ?_
  refine lv_iconst (v := 1) hx hb dX5_ofLevel_10 (by decide) ?_
  obtain ⟨y3, u4, hf⟩ := b1_e hf
  refine mV (k := 193) (q := (5, 0)) (C := RX5) (T := TX5) (N := 14) (ci := 5) (n := 3) (As := [.int p1, .int p2, .int 1]) (rest := [.int y1]) (c_X5_prizes l D t b σ p1 p2 1 y3 u4) sh_193 (by decide) rfl rfl hx hb hml hown hts hE hW hS q1313 q1315 q44 q96 q1316 hy_X5_prizes ⟨rfl, rfl⟩ ⟨Nat.le_of_ble_eq_true rfl, Nat.le_of_ble_eq_true rfl⟩ rfl rfl hl.1 (Nat.le_of_ble_eq_true rfl) ⟨Nat.zero_le _, Nat.zero_le _⟩ dX5_ofLevel_11 (fun H locs hW hS => ?_)
  refine lv_iadd hx hb dX5_ofLevel_14 ?_
  refine lv_aload_n hx hb dX5_ofLevel_15 rfl (lv_at hl 0 rfl) ?_
  refine lv_iload_n hx hb dX5_ofLevel_16 rfl (lv_at hl 1 rfl) ?_
  refine lv_iload_n hx hb dX5_ofLevel_17 rfl (lv_at hl 2 rfl) ?_
  refine lv_iconst (v := 2) hx hb dX5_ofLevel_18 (by decide) ?_
  obtain ⟨y5, u6, hf⟩ := b1_e hf
  refine mV (k := 193) (q := (5, 0)) (C := RX5) (T := TX5) (N := 14) (ci := 5) (n := 3) (As := [.int p1, .int p2, .int 2]) (rest := [.int (y1 + y3)]) (c_X5_prizes l D t b σ p1 p2 2 y5 u6) sh_193 (by decide) rfl rfl hx hb hml hown hts hE hW hS q1313 q1315 q44 q96 q1316 hy_X5_prizes ⟨rfl, rfl⟩ ⟨Nat.le_of_ble_eq_true rfl, Nat.le_of_ble_eq_true rfl⟩ rfl rfl hl.1 (Nat.le_of_ble_eq_true rfl) ⟨Nat.zero_le _, Nat.zero_le _⟩ dX5_ofLevel_19 (fun H locs hW hS => ?_)
  refine lv_iadd hx hb dX5_ofLevel_22 ?_
  refine lv_aload_n hx hb dX5_ofLevel_23 rfl (lv_at hl 0 rfl) ?_
  refine lv_iload_n hx hb dX5_ofLevel_24 rfl (lv_at hl 1 rfl) ?_
  refine lv_iload_n hx hb dX5_ofLevel_25 rfl (lv_at hl 2 rfl) ?_
  refine lv_iconst (v := 3) hx hb dX5_ofLevel_26 (by decide) ?_
  obtain ⟨y7, u8, hf⟩ := b1_e hf
  refine mV (k := 193) (q := (5, 0)) (C := RX5) (T := TX5) (N := 14) (ci := 5) (n := 3) (As := [.int p1, .int p2, .int 3]) (rest := [.int ((y1 + y3) + y5)]) (c_X5_prizes l D t b σ p1 p2 3 y7 u8) sh_193 (by decide) rfl rfl hx hb hml hown hts hE hW hS q1313 q1315 q44 q96 q1316 hy_X5_prizes ⟨rfl, rfl⟩ ⟨Nat.le_of_ble_eq_true rfl, Nat.le_of_ble_eq_true rfl⟩ rfl rfl hl.1 (Nat.le_of_ble_eq_true rfl) ⟨Nat.zero_le _, Nat.zero_le _⟩ dX5_ofLevel_27 (fun H locs hW hS => ?_)
  refine lv_iadd hx hb dX5_ofLevel_30 ?_
  cases hf
  exact W.iret hx hb hr (fun u hu _ => ⟨⟨rfl, by rw [hu]; exact hW⟩, hS.F hu⟩) hS.2.2 dX5_ofLevel_31
def l_X5_bestLevel_10 : Nat → Sg → Int32 → Int32 → Option Int32
  | 0, _, _, _ => none
  | n + 1, τ, x1, x2 => if x2 < 0 then (some x2) else (b1 (f_X5_ofLevel τ x1 x2) fun y6 => if y6 = 0 then (l_X5_bestLevel_10 n τ x1 (x2 + (-1))) else (some x2))
def f_X5_bestLevel (σ : Sg) (p1 : Int32) : Option Int32 := b1 (f_X5_its σ p1 1) fun y1 => b1 (f_X5_greatest σ y1) fun y3 => l_X5_bestLevel_10 10000 σ p1 y3
set_option maxHeartbeats 4000000 in
set_option maxRecDepth 100000 in
theorem c_X5_bestLevel (l : Launch) (D : va_G) (t : Nat → ClassId) (b : Nat) (σ : Sg) (p1 : Int32) (r : Int32) (hf : f_X5_bestLevel σ p1 = some r) : Met l yX5_bestLevel (Cond.code yX5_bestLevel cX5_bestLevel 3 (some .int) :: ALL) ({ frames := 3, cells := 0, slots := 0, locals := 67 }) (PM D t b σ [.ref (b + 193), .int p1]) (QG D t b σ (some (.int r))) 0 0 (geA b) := by
  refine Met.ofW (cc := cX5_bestLevel) (maxL := 3) (ret := (some .int)) (by decide) rfl ?_
  intro p e s m args below meth c s₁ B hml hv
  obtain ⟨rfl, hW, hE⟩ := hv
  have hx := B.exec
  have hb := B.bytes
  have hr := B.returns
  have hts := atoms_spec (ws := Cond.code yX5_bestLevel cX5_bestLevel 3 (some .int) :: ALL) B.pre
  have hta := fun w h => hts w (List.mem_cons_of_mem _ h)
  have hown : s.vm.findClass RX5 = some m.cls := findClass_of_methodNamed B.named
  have hlocks := B.notSynchronized
  have hS : va_S (geA b) s.heap s.heap [] := va_S.rf
  have hl := lv_entry ([.ref (b + 193), .int p1]) (n := 3) (Nat.le_of_ble_eq_true rfl)
  rw [lg_entry_eq]
  generalize (lg_sl ([.ref (b + 193), .int p1]) ++ List.replicate (3 - (lg_sl ([.ref (b + 193), .int p1])).length) Slot.unset).toArray = ls at hl ⊢
  have hl : lv_has ls 3 [(0, .ref (b + 193)), (1, .int p1)] := hl
  unfold f_X5_bestLevel at hf
  refine lv_aload_n hx hb dX5_bestLevel_0 rfl (lv_at hl 0 rfl) ?_
  refine lv_iload_n hx hb dX5_bestLevel_1 rfl (lv_at hl 1 rfl) ?_
  refine lv_iconst (v := 1) hx hb dX5_bestLevel_2 (by decide) ?_
  obtain ⟨y1, u2, hf⟩ := b1_e hf
  refine mV (k := 193) (q := (5, 0)) (C := RX5) (T := TX5) (N := 14) (ci := 5) (n := 2) (As := [.int p1, .int 1]) (rest := []) (c_X5_its l D t b σ p1 1 y1 u2) sh_193 (by decide) rfl rfl hx hb hml hown hts hE hW hS q1252 q1254 q35 q96 q1255 hy_X5_its ⟨rfl, rfl⟩ ⟨Nat.le_of_ble_eq_true rfl, Nat.le_of_ble_eq_true rfl⟩ rfl rfl hl.1 (Nat.le_of_ble_eq_true rfl) ⟨Nat.zero_le _, Nat.zero_le _⟩ dX5_bestLevel_3 (fun H locs hW hS => ?_)
  obtain ⟨y3, u4, hf⟩ := b1_e hf
  refine mS (n := 1) (As := [.int y1]) (rest := []) (c_X5_greatest l D t b σ y1 y3 u4) hx hb hml hown hts hE hW hS q1438 q1439 q96 q1440 hs_X5_greatest ⟨rfl, rfl⟩ ⟨Nat.le_of_ble_eq_true rfl, Nat.le_of_ble_eq_true rfl⟩ rfl rfl hl.1 (Nat.le_of_ble_eq_true rfl) ⟨Nat.zero_le _, Nat.zero_le _⟩ dX5_bestLevel_6 (fun H locs hW hS => ?_)
  refine lv_istore_n (lv' := [(2, .int y3), (0, .ref (b + 193)), (1, .int p1)]) hx hb dX5_bestLevel_9 rfl hl (by decide) rfl (fun ls hl => ?_)
  have key_10 : ∀ (n : Nat) (τ : Sg) (x1 : Int32) (x2 : Int32) (H : Heap) (locs : List Loc) (ls : Array Slot), l_X5_bestLevel_10 n τ x1 x2 = some r → wd D t b τ H → va_S (geA b) s.heap H locs → lv_has ls 3 [(0, .ref (b + 193)), (1, .int x1), (2, .int x2)] → W p l e (headSpec (Cond.code yX5_bestLevel cX5_bestLevel 3 (some .int) :: ALL) ({ frames := 3, cells := 0, slots := 0, locals := 67 })).room s m (([.ref (b + 193), .int p1] : List Value).toArray) below meth c H locs 0 0 (MQ below (QG D t b τ (some (.int r))) (([.ref (b + 193), .int p1] : List Value).toArray) s 0 0 (geA b)) (F0 m 10 ls []) := by
    intro n
    induction n with
    | zero =>
      intro τ x1 x2 H locs ls hf
      rw [l_X5_bestLevel_10.eq_1] at hf
      cases hf
    | succ n ih_10 =>
      intro τ x1 x2 H locs ls hf hW hS hl
      rw [l_X5_bestLevel_10.eq_2] at hf
      refine lv_iload_n hx hb dX5_bestLevel_10 rfl (lv_at hl 2 rfl) ?_
      refine lv_if_lt (tgt := 29) hx hb dX5_bestLevel_11 (by decide) (fun h5 => ?_) (fun h5 => ?_)
      · have hf := ifp h5 hf
        refine lv_iload_n hx hb dX5_bestLevel_29 rfl (lv_at hl 2 rfl) ?_
        cases hf
        exact W.iret hx hb hr (fun u hu _ => ⟨⟨rfl, by rw [hu]; exact hW⟩, hS.F hu⟩) hS.2.2 dX5_bestLevel_30
      · have hf := ifn h5 hf
        refine lv_aload_n hx hb dX5_bestLevel_14 rfl (lv_at hl 0 rfl) ?_
        refine lv_iload_n hx hb dX5_bestLevel_15 rfl (lv_at hl 1 rfl) ?_
        refine lv_iload_n hx hb dX5_bestLevel_16 rfl (lv_at hl 2 rfl) ?_
        obtain ⟨y6, u7, hf⟩ := b1_e hf
        refine mV (k := 193) (q := (5, 0)) (C := RX5) (T := TX5) (N := 14) (ci := 5) (n := 2) (As := [.int x1, .int x2]) (rest := []) (c_X5_ofLevel l D t b τ x1 x2 y6 u7) sh_193 (by decide) rfl rfl hx hb hml hown hts hE hW hS q1441 q1443 q68 q96 q1444 hy_X5_ofLevel ⟨rfl, rfl⟩ ⟨Nat.le_of_ble_eq_true rfl, Nat.le_of_ble_eq_true rfl⟩ rfl rfl hl.1 (Nat.le_of_ble_eq_true rfl) ⟨Nat.zero_le _, Nat.zero_le _⟩ dX5_bestLevel_17 (fun H locs hW hS => ?_)
        refine lv_if_ne (tgt := 29) hx hb dX5_bestLevel_20 (by decide) (fun h8 => ?_) (fun h8 => ?_)
        · have hf := ifn h8 hf
          refine lv_iload_n hx hb dX5_bestLevel_29 rfl (lv_at hl 2 rfl) ?_
          cases hf
          exact W.iret hx hb hr (fun u hu _ => ⟨⟨rfl, by rw [hu]; exact hW⟩, hS.F hu⟩) hS.2.2 dX5_bestLevel_30
        · have hf := ifp h8 hf
          refine lv_iinc (v := (x2 + (-1))) (lv' := [(2, .int (x2 + (-1))), (0, .ref (b + 193)), (1, .int x1)]) hx hb dX5_bestLevel_23 hl (k := 2) rfl (by rfl) (by decide) rfl (fun ls hl => ?_)
          refine lv_goto (tgt := 10) hx hb dX5_bestLevel_26 (by decide) ?_
          exact ih_10 τ x1 (x2 + (-1)) _ _ _ hf hW hS (lv_sub hl [1, 2, 0] rfl)
  exact key_10 10000 σ p1 y3 _ _ _ hf hW hS (lv_sub hl [1, 2, 0] rfl)
def f_X5_rent (σ : Sg) (p0 : Int32) : Option Int32 := b1 (f_X5_half σ (12 - p0)) fun y1 => some (2 + y1)
set_option maxHeartbeats 4000000 in
set_option maxRecDepth 100000 in
theorem c_X5_rent (l : Launch) (D : va_G) (t : Nat → ClassId) (b : Nat) (σ : Sg) (p0 : Int32) (r : Int32) (hf : f_X5_rent σ p0 = some r) : Met l yX5_rent (Cond.code yX5_rent cX5_rent 1 (some .int) :: ALL) ({ frames := 1, cells := 0, slots := 0, locals := 20 }) (PM D t b σ [.int p0]) (QG D t b σ (some (.int r))) 0 0 (geA b) := by
  refine Met.ofW (cc := cX5_rent) (maxL := 1) (ret := (some .int)) (by decide) rfl ?_
  intro p e s m args below meth c s₁ B hml hv
  obtain ⟨rfl, hW, hE⟩ := hv
  have hx := B.exec
  have hb := B.bytes
  have hr := B.returns
  have hts := atoms_spec (ws := Cond.code yX5_rent cX5_rent 1 (some .int) :: ALL) B.pre
  have hta := fun w h => hts w (List.mem_cons_of_mem _ h)
  have hown : s.vm.findClass RX5 = some m.cls := findClass_of_methodNamed B.named
  have hlocks := B.notSynchronized
  have hS : va_S (geA b) s.heap s.heap [] := va_S.rf
  have hl := lv_entry ([.int p0]) (n := 1) (Nat.le_of_ble_eq_true rfl)
  rw [lg_entry_eq]
  generalize (lg_sl ([.int p0]) ++ List.replicate (1 - (lg_sl ([.int p0])).length) Slot.unset).toArray = ls at hl ⊢
  have hl : lv_has ls 1 [(0, .int p0)] := hl
  unfold f_X5_rent at hf
  refine lv_iconst (v := 2) hx hb dX5_rent_0 (by decide) ?_
  refine lv_bipush (v := 12) hx hb dX5_rent_1 (by decide) ?_
  refine lv_iload_n hx hb dX5_rent_3 rfl (lv_at hl 0 rfl) ?_
  refine lv_isub hx hb dX5_rent_4 ?_
  obtain ⟨y1, u2, hf⟩ := b1_e hf
  refine mS (n := 1) (As := [.int (12 - p0)]) (rest := [.int 2]) (c_X5_half l D t b σ (12 - p0) y1 u2) hx hb hml hown hts hE hW hS q1408 q1409 q96 q1410 hs_X5_half ⟨rfl, rfl⟩ ⟨Nat.le_of_ble_eq_true rfl, Nat.le_of_ble_eq_true rfl⟩ rfl rfl hl.1 (Nat.le_of_ble_eq_true rfl) ⟨Nat.zero_le _, Nat.zero_le _⟩ dX5_rent_5 (fun H locs hW hS => ?_)
  refine lv_iadd hx hb dX5_rent_8 ?_
  cases hf
  exact W.iret hx hb hr (fun u hu _ => ⟨⟨rfl, by rw [hu]; exact hW⟩, hS.F hu⟩) hS.2.2 dX5_rent_9
def f_X5_costOf (σ : Sg) (p0 : Int32) : Option Int32 := if p0 = 0 then (some 1) else (if p0 = 1 then (some 3) else (if p0 = 2 then (some 6) else (some 10)))
set_option maxHeartbeats 4000000 in
set_option maxRecDepth 100000 in
theorem c_X5_costOf (l : Launch) (D : va_G) (t : Nat → ClassId) (b : Nat) (σ : Sg) (p0 : Int32) (r : Int32) (hf : f_X5_costOf σ p0 = some r) : Met l yX5_costOf (Cond.code yX5_costOf cX5_costOf 1 (some .int) :: ALL) ({ frames := 0, cells := 0, slots := 0, locals := 0 }) (PM D t b σ [.int p0]) (QG D t b σ (some (.int r))) 0 0 (geA b) := by
  refine Met.ofW (cc := cX5_costOf) (maxL := 1) (ret := (some .int)) (by decide) rfl ?_
  intro p e s m args below meth c s₁ B hml hv
  obtain ⟨rfl, hW, hE⟩ := hv
  have hx := B.exec
  have hb := B.bytes
  have hr := B.returns
  have hts := atoms_spec (ws := Cond.code yX5_costOf cX5_costOf 1 (some .int) :: ALL) B.pre
  have hta := fun w h => hts w (List.mem_cons_of_mem _ h)
  have hown : s.vm.findClass RX5 = some m.cls := findClass_of_methodNamed B.named
  have hlocks := B.notSynchronized
  have hS : va_S (geA b) s.heap s.heap [] := va_S.rf
  have hl := lv_entry ([.int p0]) (n := 1) (Nat.le_of_ble_eq_true rfl)
  rw [lg_entry_eq]
  generalize (lg_sl ([.int p0]) ++ List.replicate (1 - (lg_sl ([.int p0])).length) Slot.unset).toArray = ls at hl ⊢
  have hl : lv_has ls 1 [(0, .int p0)] := hl
  unfold f_X5_costOf at hf
  refine lv_iload_n hx hb dX5_costOf_0 rfl (lv_at hl 0 rfl) ?_
  refine lv_if_ne (tgt := 8) hx hb dX5_costOf_1 (by decide) (fun h1 => ?_) (fun h1 => ?_)
  · have hf := ifn h1 hf
    refine lv_iload_n hx hb dX5_costOf_8 rfl (lv_at hl 0 rfl) ?_
    refine lv_iconst (v := 1) hx hb dX5_costOf_9 (by decide) ?_
    refine lv_icmp_ne (tgt := 17) hx hb dX5_costOf_10 (by decide) (fun h2 => ?_) (fun h2 => ?_)
    · have hf := ifn h2 hf
      refine lv_iload_n hx hb dX5_costOf_17 rfl (lv_at hl 0 rfl) ?_
      refine lv_iconst (v := 2) hx hb dX5_costOf_18 (by decide) ?_
      refine lv_icmp_ne (tgt := 27) hx hb dX5_costOf_19 (by decide) (fun h3 => ?_) (fun h3 => ?_)
      · have hf := ifn h3 hf
        refine lv_bipush (v := 10) hx hb dX5_costOf_27 (by decide) ?_
        cases hf
        exact W.iret hx hb hr (fun u hu _ => ⟨⟨rfl, by rw [hu]; exact hW⟩, hS.F hu⟩) hS.2.2 dX5_costOf_29
      · have hf := ifp h3 hf
        refine lv_bipush (v := 6) hx hb dX5_costOf_22 (by decide) ?_
        refine lv_goto (tgt := 29) hx hb dX5_costOf_24 (by decide) ?_
        cases hf
        exact W.iret hx hb hr (fun u hu _ => ⟨⟨rfl, by rw [hu]; exact hW⟩, hS.F hu⟩) hS.2.2 dX5_costOf_29
    · have hf := ifp h2 hf
      refine lv_iconst (v := 3) hx hb dX5_costOf_13 (by decide) ?_
      refine lv_goto (tgt := 29) hx hb dX5_costOf_14 (by decide) ?_
      cases hf
      exact W.iret hx hb hr (fun u hu _ => ⟨⟨rfl, by rw [hu]; exact hW⟩, hS.F hu⟩) hS.2.2 dX5_costOf_29
  · have hf := ifp h1 hf
    refine lv_iconst (v := 1) hx hb dX5_costOf_4 (by decide) ?_
    refine lv_goto (tgt := 29) hx hb dX5_costOf_5 (by decide) ?_
    cases hf
    exact W.iret hx hb hr (fun u hu _ => ⟨⟨rfl, by rw [hu]; exact hW⟩, hS.F hu⟩) hS.2.2 dX5_costOf_29
def f_X5_whyNotBuilt (σ : Sg) (p1 : Int32) (p2 : Int32) (p3 : Int32) (p4 : Int32) : Option Int32 := b1 (f_X5_isPitch σ p1) fun y1 => if y1 = 0 then (some 1) else (b1 (f_X5_isKind σ p2) fun y4 => if y4 = 0 then (some 1) else (b1 (f_X5_isPrice σ p3) fun y7 => if y7 = 0 then (some 2) else (b1 (f_X5_on σ p1) fun y10 => if y10 = (-1) then (if (σ 194 (8 : Int32).toNatClampNeg) = 6 then (some 3) else (if p4 = 0 then (if 30 ≤ (σ 194 (0 : Int32).toNatClampNeg) then (some 0) else (some 3)) else (if 50 ≤ (σ 194 (0 : Int32).toNatClampNeg) then (some 0) else (some 3)))) else (some 3))))
set_option maxHeartbeats 4000000 in
set_option maxRecDepth 100000 in
theorem c_X5_whyNotBuilt (l : Launch) (D : va_G) (t : Nat → ClassId) (b : Nat) (σ : Sg) (p1 : Int32) (p2 : Int32) (p3 : Int32) (p4 : Int32) (r : Int32) (hf : f_X5_whyNotBuilt σ p1 p2 p3 p4 = some r) : Met l yX5_whyNotBuilt (Cond.code yX5_whyNotBuilt cX5_whyNotBuilt 5 (some .int) :: ALL) ({ frames := 2, cells := 0, slots := 0, locals := 44 }) (PM D t b σ [.ref (b + 193), .int p1, .int p2, .int p3, .int p4]) (QG D t b σ (some (.int r))) 0 0 (geA b) := by
  refine Met.ofW (cc := cX5_whyNotBuilt) (maxL := 5) (ret := (some .int)) (by decide) rfl ?_
  intro p e s m args below meth c s₁ B hml hv
  obtain ⟨rfl, hW, hE⟩ := hv
  have hx := B.exec
  have hb := B.bytes
  have hr := B.returns
  have hts := atoms_spec (ws := Cond.code yX5_whyNotBuilt cX5_whyNotBuilt 5 (some .int) :: ALL) B.pre
  have hta := fun w h => hts w (List.mem_cons_of_mem _ h)
  have hown : s.vm.findClass RX5 = some m.cls := findClass_of_methodNamed B.named
  have hlocks := B.notSynchronized
  have hS : va_S (geA b) s.heap s.heap [] := va_S.rf
  have hl := lv_entry ([.ref (b + 193), .int p1, .int p2, .int p3, .int p4]) (n := 5) (Nat.le_of_ble_eq_true rfl)
  rw [lg_entry_eq]
  generalize (lg_sl ([.ref (b + 193), .int p1, .int p2, .int p3, .int p4]) ++ List.replicate (5 - (lg_sl ([.ref (b + 193), .int p1, .int p2, .int p3, .int p4])).length) Slot.unset).toArray = ls at hl ⊢
  have hl : lv_has ls 5 [(0, .ref (b + 193)), (1, .int p1), (2, .int p2), (3, .int p3), (4, .int p4)] := hl
  unfold f_X5_whyNotBuilt at hf
  refine lv_iload_n hx hb dX5_whyNotBuilt_0 rfl (lv_at hl 1 rfl) ?_
  obtain ⟨y1, u2, hf⟩ := b1_e hf
  refine mS (n := 1) (As := [.int p1]) (rest := []) (c_X5_isPitch l D t b σ p1 y1 u2) hx hb hml hown hts hE hW hS q1236 q1237 q96 q1238 hs_X5_isPitch ⟨rfl, rfl⟩ ⟨Nat.le_of_ble_eq_true rfl, Nat.le_of_ble_eq_true rfl⟩ rfl rfl hl.1 (Nat.le_of_ble_eq_true rfl) ⟨Nat.zero_le _, Nat.zero_le _⟩ dX5_whyNotBuilt_1 (fun H locs hW hS => ?_)
  refine lv_if_eq (tgt := 14) hx hb dX5_whyNotBuilt_4 (by decide) (fun h3 => ?_) (fun h3 => ?_)
  · have hf := ifp h3 hf
    refine lv_iconst (v := 1) hx hb dX5_whyNotBuilt_14 (by decide) ?_
    cases hf
    exact W.iret hx hb hr (fun u hu _ => ⟨⟨rfl, by rw [hu]; exact hW⟩, hS.F hu⟩) hS.2.2 dX5_whyNotBuilt_15
  · have hf := ifn h3 hf
    refine lv_iload_n hx hb dX5_whyNotBuilt_7 rfl (lv_at hl 2 rfl) ?_
    obtain ⟨y4, u5, hf⟩ := b1_e hf
    refine mS (n := 1) (As := [.int p2]) (rest := []) (c_X5_isKind l D t b σ p2 y4 u5) hx hb hml hown hts hE hW hS q1242 q1243 q96 q1244 hs_X5_isKind ⟨rfl, rfl⟩ ⟨Nat.le_of_ble_eq_true rfl, Nat.le_of_ble_eq_true rfl⟩ rfl rfl hl.1 (Nat.le_of_ble_eq_true rfl) ⟨Nat.zero_le _, Nat.zero_le _⟩ dX5_whyNotBuilt_8 (fun H locs hW hS => ?_)
    refine lv_if_ne (tgt := 16) hx hb dX5_whyNotBuilt_11 (by decide) (fun h6 => ?_) (fun h6 => ?_)
    · have hf := ifn h6 hf
      refine lv_iload_n hx hb dX5_whyNotBuilt_16 rfl (lv_at hl 3 rfl) ?_
      obtain ⟨y7, u8, hf⟩ := b1_e hf
      refine mS (n := 1) (As := [.int p3]) (rest := []) (c_X5_isPrice l D t b σ p3 y7 u8) hx hb hml hown hts hE hW hS q1245 q1246 q96 q1247 hs_X5_isPrice ⟨rfl, rfl⟩ ⟨Nat.le_of_ble_eq_true rfl, Nat.le_of_ble_eq_true rfl⟩ rfl rfl hl.1 (Nat.le_of_ble_eq_true rfl) ⟨Nat.zero_le _, Nat.zero_le _⟩ dX5_whyNotBuilt_17 (fun H locs hW hS => ?_)
      refine lv_if_ne (tgt := 27) hx hb dX5_whyNotBuilt_20 (by decide) (fun h9 => ?_) (fun h9 => ?_)
      · have hf := ifn h9 hf
        refine lv_aload_n hx hb dX5_whyNotBuilt_27 rfl (lv_at hl 0 rfl) ?_
        refine lv_iload_n hx hb dX5_whyNotBuilt_28 rfl (lv_at hl 1 rfl) ?_
        obtain ⟨y10, u11, hf⟩ := b1_e hf
        refine mV (k := 193) (q := (5, 0)) (C := RX5) (T := TX5) (N := 14) (ci := 5) (n := 1) (As := [.int p1]) (rest := []) (c_X5_on l D t b σ p1 y10 u11) sh_193 (by decide) rfl rfl hx hb hml hown hts hE hW hS q1248 q1250 q34 q96 q1251 hy_X5_on ⟨rfl, rfl⟩ ⟨Nat.le_of_ble_eq_true rfl, Nat.le_of_ble_eq_true rfl⟩ rfl rfl hl.1 (Nat.le_of_ble_eq_true rfl) ⟨Nat.zero_le _, Nat.zero_le _⟩ dX5_whyNotBuilt_29 (fun H locs hW hS => ?_)
        refine lv_iconst (v := (-1)) hx hb dX5_whyNotBuilt_32 (by decide) ?_
        refine lv_icmp_ne (tgt := 69) hx hb dX5_whyNotBuilt_33 (by decide) (fun h12 => ?_) (fun h12 => ?_)
        · have hf := ifn h12 hf
          refine lv_iconst (v := 3) hx hb dX5_whyNotBuilt_69 (by decide) ?_
          refine lv_goto (tgt := 74) hx hb dX5_whyNotBuilt_70 (by decide) ?_
          cases hf
          exact W.iret hx hb hr (fun u hu _ => ⟨⟨rfl, by rw [hu]; exact hW⟩, hS.F hu⟩) hS.2.2 dX5_whyNotBuilt_74
        · have hf := ifp h12 hf
          refine lv_aload_n hx hb dX5_whyNotBuilt_36 rfl (lv_at hl 0 rfl) ?_
          refine getM hx hb hta hown hE.1 hW 0 (by decide) q1181 rfl dX5_whyNotBuilt_37 ?_
          refine lv_bipush (v := 8) hx hb dX5_whyNotBuilt_40 (by decide) ?_
          refine iald hx hb hE.1 hW sh_194 (vp_lit (by decide +kernel)) dX5_whyNotBuilt_42 ?_
          refine lv_bipush (v := 6) hx hb dX5_whyNotBuilt_43 (by decide) ?_
          refine lv_icmp_eq (tgt := 69) hx hb dX5_whyNotBuilt_45 (by decide) (fun h13 => ?_) (fun h13 => ?_)
          · have hf := ifp h13 hf
            refine lv_iconst (v := 3) hx hb dX5_whyNotBuilt_69 (by decide) ?_
            refine lv_goto (tgt := 74) hx hb dX5_whyNotBuilt_70 (by decide) ?_
            cases hf
            exact W.iret hx hb hr (fun u hu _ => ⟨⟨rfl, by rw [hu]; exact hW⟩, hS.F hu⟩) hS.2.2 dX5_whyNotBuilt_74
          · have hf := ifn h13 hf
            refine lv_aload_n hx hb dX5_whyNotBuilt_48 rfl (lv_at hl 0 rfl) ?_
            refine getM hx hb hta hown hE.1 hW 0 (by decide) q1181 rfl dX5_whyNotBuilt_49 ?_
            refine lv_iconst (v := 0) hx hb dX5_whyNotBuilt_52 (by decide) ?_
            refine iald hx hb hE.1 hW sh_194 (vp_lit (by decide +kernel)) dX5_whyNotBuilt_53 ?_
            refine lv_iload hx hb dX5_whyNotBuilt_54 (lv_at hl 4 rfl) ?_
            refine lv_if_eq (tgt := 64) hx hb dX5_whyNotBuilt_56 (by decide) (fun h14 => ?_) (fun h14 => ?_)
            · have hf := ifp h14 hf
              refine lv_bipush (v := 30) hx hb dX5_whyNotBuilt_64 (by decide) ?_
              refine lv_icmp_ge (tgt := 73) hx hb dX5_whyNotBuilt_66 (by decide) (fun h15 => ?_) (fun h15 => ?_)
              · have hf := ifp h15 hf
                refine lv_iconst (v := 0) hx hb dX5_whyNotBuilt_73 (by decide) ?_
                cases hf
                exact W.iret hx hb hr (fun u hu _ => ⟨⟨rfl, by rw [hu]; exact hW⟩, hS.F hu⟩) hS.2.2 dX5_whyNotBuilt_74
              · have hf := ifn h15 hf
                refine lv_iconst (v := 3) hx hb dX5_whyNotBuilt_69 (by decide) ?_
                refine lv_goto (tgt := 74) hx hb dX5_whyNotBuilt_70 (by decide) ?_
                cases hf
                exact W.iret hx hb hr (fun u hu _ => ⟨⟨rfl, by rw [hu]; exact hW⟩, hS.F hu⟩) hS.2.2 dX5_whyNotBuilt_74
            · have hf := ifn h14 hf
              refine lv_bipush (v := 50) hx hb dX5_whyNotBuilt_59 (by decide) ?_
              refine lv_goto (tgt := 66) hx hb dX5_whyNotBuilt_61 (by decide) ?_
              refine lv_icmp_ge (tgt := 73) hx hb dX5_whyNotBuilt_66 (by decide) (fun h16 => ?_) (fun h16 => ?_)
              · have hf := ifp h16 hf
                refine lv_iconst (v := 0) hx hb dX5_whyNotBuilt_73 (by decide) ?_
                cases hf
                exact W.iret hx hb hr (fun u hu _ => ⟨⟨rfl, by rw [hu]; exact hW⟩, hS.F hu⟩) hS.2.2 dX5_whyNotBuilt_74
              · have hf := ifn h16 hf
                refine lv_iconst (v := 3) hx hb dX5_whyNotBuilt_69 (by decide) ?_
                refine lv_goto (tgt := 74) hx hb dX5_whyNotBuilt_70 (by decide) ?_
                cases hf
                exact W.iret hx hb hr (fun u hu _ => ⟨⟨rfl, by rw [hu]; exact hW⟩, hS.F hu⟩) hS.2.2 dX5_whyNotBuilt_74
      · have hf := ifp h9 hf
        refine lv_iconst (v := 2) hx hb dX5_whyNotBuilt_23 (by decide) ?_
        refine lv_goto (tgt := 74) hx hb dX5_whyNotBuilt_24 (by decide) ?_
        cases hf
        exact W.iret hx hb hr (fun u hu _ => ⟨⟨rfl, by rw [hu]; exact hW⟩, hS.F hu⟩) hS.2.2 dX5_whyNotBuilt_74
    · have hf := ifp h6 hf
      refine lv_iconst (v := 1) hx hb dX5_whyNotBuilt_14 (by decide) ?_
      cases hf
      exact W.iret hx hb hr (fun u hu _ => ⟨⟨rfl, by rw [hu]; exact hW⟩, hS.F hu⟩) hS.2.2 dX5_whyNotBuilt_15
def l_X5_builds_12 : Nat → Sg → Int32 → Int32 → Int32 → Int32 → Int32 → Int32 → Option (Int32 × Sg)
  | 0, _, _, _, _, _, _, _ => none
  | n + 1, τ, x1, x2, x3, x4, x5, x6 => if 23 ≤ x6 then (b1 (f_X5_sets τ x5 0 x1) fun σ4 => b1 (f_X5_sets σ4 x5 1 x2) fun σ7 => b1 (f_X5_sets σ7 x5 2 x3) fun σ10 => if x4 = 0 then (b1 (f_X5_sets σ10 x5 3 0) fun σ14 => b1 (f_X5_sets σ14 x5 6 1) fun σ17 => st (u2 σ17 194 (8 : Int32).toNatClampNeg ((σ17 194 (8 : Int32).toNatClampNeg) + 1)) fun σ18 => some (x5, σ18)) else (b1 (f_X5_sets σ10 x5 3 1) fun σ22 => b1 (f_X5_sets σ22 x5 6 1) fun σ25 => st (u2 σ25 194 (8 : Int32).toNatClampNeg ((σ25 194 (8 : Int32).toNatClampNeg) + 1)) fun σ26 => some (x5, σ26))) else (b1 (f_X5_sets τ x5 x6 0) fun σ30 => l_X5_builds_12 n σ30 x1 x2 x3 x4 x5 (x6 + 1))
def f_X5_builds (σ : Sg) (p1 : Int32) (p2 : Int32) (p3 : Int32) (p4 : Int32) : Option (Int32 × Sg) := l_X5_builds_12 10000 σ p1 p2 p3 p4 (σ 194 (8 : Int32).toNatClampNeg) 0
set_option maxHeartbeats 4000000 in
set_option maxRecDepth 100000 in
theorem c_X5_builds (l : Launch) (D : va_G) (t : Nat → ClassId) (b : Nat) (σ : Sg) (p1 : Int32) (p2 : Int32) (p3 : Int32) (p4 : Int32) (r : Int32) (σr : Sg) (hf : f_X5_builds σ p1 p2 p3 p4 = some (r, σr)) : Met l yX5_builds (Cond.code yX5_builds cX5_builds 7 (some .int) :: ALL) ({ frames := 1, cells := 0, slots := 0, locals := 23 }) (PM D t b σ [.ref (b + 193), .int p1, .int p2, .int p3, .int p4]) (QG D t b σr (some (.int r))) 0 0 (geA b) := by
  refine Met.ofW (cc := cX5_builds) (maxL := 7) (ret := (some .int)) (by decide) rfl ?_
  intro p e s m args below meth c s₁ B hml hv
  obtain ⟨rfl, hW, hE⟩ := hv
  have hx := B.exec
  have hb := B.bytes
  have hr := B.returns
  have hts := atoms_spec (ws := Cond.code yX5_builds cX5_builds 7 (some .int) :: ALL) B.pre
  have hta := fun w h => hts w (List.mem_cons_of_mem _ h)
  have hown : s.vm.findClass RX5 = some m.cls := findClass_of_methodNamed B.named
  have hlocks := B.notSynchronized
  have hS : va_S (geA b) s.heap s.heap [] := va_S.rf
  have hl := lv_entry ([.ref (b + 193), .int p1, .int p2, .int p3, .int p4]) (n := 7) (Nat.le_of_ble_eq_true rfl)
  rw [lg_entry_eq]
  generalize (lg_sl ([.ref (b + 193), .int p1, .int p2, .int p3, .int p4]) ++ List.replicate (7 - (lg_sl ([.ref (b + 193), .int p1, .int p2, .int p3, .int p4])).length) Slot.unset).toArray = ls at hl ⊢
  have hl : lv_has ls 7 [(0, .ref (b + 193)), (1, .int p1), (2, .int p2), (3, .int p3), (4, .int p4)] := hl
  unfold f_X5_builds at hf
  refine lv_aload_n hx hb dX5_builds_0 rfl (lv_at hl 0 rfl) ?_
  refine getM hx hb hta hown hE.1 hW 0 (by decide) q1181 rfl dX5_builds_1 ?_
  refine lv_bipush (v := 8) hx hb dX5_builds_4 (by decide) ?_
  refine iald hx hb hE.1 hW sh_194 (vp_lit (by decide +kernel)) dX5_builds_6 ?_
  refine lv_istore (lv' := [(5, .int (σ 194 (8 : Int32).toNatClampNeg)), (0, .ref (b + 193)), (1, .int p1), (2, .int p2), (3, .int p3), (4, .int p4)]) hx hb dX5_builds_7 hl (by decide) rfl (fun ls hl => ?_)
  refine lv_iconst (v := 0) hx hb dX5_builds_9 (by decide) ?_
  refine lv_istore (lv' := [(6, .int 0), (5, .int (σ 194 (8 : Int32).toNatClampNeg)), (0, .ref (b + 193)), (1, .int p1), (2, .int p2), (3, .int p3), (4, .int p4)]) hx hb dX5_builds_10 hl (by decide) rfl (fun ls hl => ?_)
  have key_12 : ∀ (n : Nat) (τ : Sg) (x1 : Int32) (x2 : Int32) (x3 : Int32) (x4 : Int32) (x5 : Int32) (x6 : Int32) (H : Heap) (locs : List Loc) (ls : Array Slot), l_X5_builds_12 n τ x1 x2 x3 x4 x5 x6 = some (r, σr) → wd D t b τ H → va_S (geA b) s.heap H locs → lv_has ls 7 [(0, .ref (b + 193)), (1, .int x1), (2, .int x2), (3, .int x3), (4, .int x4), (5, .int x5), (6, .int x6)] → W p l e (headSpec (Cond.code yX5_builds cX5_builds 7 (some .int) :: ALL) ({ frames := 1, cells := 0, slots := 0, locals := 23 })).room s m (([.ref (b + 193), .int p1, .int p2, .int p3, .int p4] : List Value).toArray) below meth c H locs 0 0 (MQ below (QG D t b σr (some (.int r))) (([.ref (b + 193), .int p1, .int p2, .int p3, .int p4] : List Value).toArray) s 0 0 (geA b)) (F0 m 12 ls []) := by
    intro n
    induction n with
    | zero =>
      intro τ x1 x2 x3 x4 x5 x6 H locs ls hf
      rw [l_X5_builds_12.eq_1] at hf
      cases hf
    | succ n ih_12 =>
      intro τ x1 x2 x3 x4 x5 x6 H locs ls hf hW hS hl
      rw [l_X5_builds_12.eq_2] at hf
      refine lv_iload hx hb dX5_builds_12 (lv_at hl 6 rfl) ?_
      refine lv_bipush (v := 23) hx hb dX5_builds_14 (by decide) ?_
      refine lv_icmp_ge (tgt := 34) hx hb dX5_builds_16 (by decide) (fun h1 => ?_) (fun h1 => ?_)
      · have hf := ifp h1 hf
        refine lv_aload_n hx hb dX5_builds_34 rfl (lv_at hl 0 rfl) ?_
        refine lv_iload hx hb dX5_builds_35 (lv_at hl 5 rfl) ?_
        refine lv_iconst (v := 0) hx hb dX5_builds_37 (by decide) ?_
        refine lv_iload_n hx hb dX5_builds_38 rfl (lv_at hl 1 rfl) ?_
        obtain ⟨σ4, u3, hf⟩ := b1_e hf
        refine mV (k := 193) (q := (5, 0)) (C := RX5) (T := TX5) (N := 14) (ci := 5) (n := 3) (As := [.int x5, .int 0, .int x1]) (rest := []) (c_X5_sets l D t b τ x5 0 x1 σ4 u3) sh_193 (by decide) rfl rfl hx hb hml hown hts hE hW hS q1271 q1273 q39 q96 q1274 hy_X5_sets ⟨rfl, rfl⟩ ⟨Nat.le_of_ble_eq_true rfl, Nat.le_of_ble_eq_true rfl⟩ rfl rfl hl.1 (Nat.le_of_ble_eq_true rfl) ⟨Nat.zero_le _, Nat.zero_le _⟩ dX5_builds_39 (fun H locs hW hS => ?_)
        refine lv_aload_n hx hb dX5_builds_42 rfl (lv_at hl 0 rfl) ?_
        refine lv_iload hx hb dX5_builds_43 (lv_at hl 5 rfl) ?_
        refine lv_iconst (v := 1) hx hb dX5_builds_45 (by decide) ?_
        refine lv_iload_n hx hb dX5_builds_46 rfl (lv_at hl 2 rfl) ?_
        obtain ⟨σ7, u6, hf⟩ := b1_e hf
        refine mV (k := 193) (q := (5, 0)) (C := RX5) (T := TX5) (N := 14) (ci := 5) (n := 3) (As := [.int x5, .int 1, .int x2]) (rest := []) (c_X5_sets l D t b σ4 x5 1 x2 σ7 u6) sh_193 (by decide) rfl rfl hx hb hml hown hts hE hW hS q1271 q1273 q39 q96 q1274 hy_X5_sets ⟨rfl, rfl⟩ ⟨Nat.le_of_ble_eq_true rfl, Nat.le_of_ble_eq_true rfl⟩ rfl rfl hl.1 (Nat.le_of_ble_eq_true rfl) ⟨Nat.zero_le _, Nat.zero_le _⟩ dX5_builds_47 (fun H locs hW hS => ?_)
        refine lv_aload_n hx hb dX5_builds_50 rfl (lv_at hl 0 rfl) ?_
        refine lv_iload hx hb dX5_builds_51 (lv_at hl 5 rfl) ?_
        refine lv_iconst (v := 2) hx hb dX5_builds_53 (by decide) ?_
        refine lv_iload_n hx hb dX5_builds_54 rfl (lv_at hl 3 rfl) ?_
        obtain ⟨σ10, u9, hf⟩ := b1_e hf
        refine mV (k := 193) (q := (5, 0)) (C := RX5) (T := TX5) (N := 14) (ci := 5) (n := 3) (As := [.int x5, .int 2, .int x3]) (rest := []) (c_X5_sets l D t b σ7 x5 2 x3 σ10 u9) sh_193 (by decide) rfl rfl hx hb hml hown hts hE hW hS q1271 q1273 q39 q96 q1274 hy_X5_sets ⟨rfl, rfl⟩ ⟨Nat.le_of_ble_eq_true rfl, Nat.le_of_ble_eq_true rfl⟩ rfl rfl hl.1 (Nat.le_of_ble_eq_true rfl) ⟨Nat.zero_le _, Nat.zero_le _⟩ dX5_builds_55 (fun H locs hW hS => ?_)
        refine lv_aload_n hx hb dX5_builds_58 rfl (lv_at hl 0 rfl) ?_
        refine lv_iload hx hb dX5_builds_59 (lv_at hl 5 rfl) ?_
        refine lv_iconst (v := 3) hx hb dX5_builds_61 (by decide) ?_
        refine lv_iload hx hb dX5_builds_62 (lv_at hl 4 rfl) ?_
        refine lv_if_eq (tgt := 71) hx hb dX5_builds_64 (by decide) (fun h11 => ?_) (fun h11 => ?_)
        · have hf := ifp h11 hf
          refine lv_iconst (v := 0) hx hb dX5_builds_71 (by decide) ?_
          obtain ⟨σ14, u13, hf⟩ := b1_e hf
          refine mV (k := 193) (q := (5, 0)) (C := RX5) (T := TX5) (N := 14) (ci := 5) (n := 3) (As := [.int x5, .int 3, .int 0]) (rest := []) (c_X5_sets l D t b σ10 x5 3 0 σ14 u13) sh_193 (by decide) rfl rfl hx hb hml hown hts hE hW hS q1271 q1273 q39 q96 q1274 hy_X5_sets ⟨rfl, rfl⟩ ⟨Nat.le_of_ble_eq_true rfl, Nat.le_of_ble_eq_true rfl⟩ rfl rfl hl.1 (Nat.le_of_ble_eq_true rfl) ⟨Nat.zero_le _, Nat.zero_le _⟩ dX5_builds_72 (fun H locs hW hS => ?_)
          refine lv_aload_n hx hb dX5_builds_75 rfl (lv_at hl 0 rfl) ?_
          refine lv_iload hx hb dX5_builds_76 (lv_at hl 5 rfl) ?_
          refine lv_bipush (v := 6) hx hb dX5_builds_78 (by decide) ?_
          refine lv_iconst (v := 1) hx hb dX5_builds_80 (by decide) ?_
          obtain ⟨σ17, u16, hf⟩ := b1_e hf
          refine mV (k := 193) (q := (5, 0)) (C := RX5) (T := TX5) (N := 14) (ci := 5) (n := 3) (As := [.int x5, .int 6, .int 1]) (rest := []) (c_X5_sets l D t b σ14 x5 6 1 σ17 u16) sh_193 (by decide) rfl rfl hx hb hml hown hts hE hW hS q1271 q1273 q39 q96 q1274 hy_X5_sets ⟨rfl, rfl⟩ ⟨Nat.le_of_ble_eq_true rfl, Nat.le_of_ble_eq_true rfl⟩ rfl rfl hl.1 (Nat.le_of_ble_eq_true rfl) ⟨Nat.zero_le _, Nat.zero_le _⟩ dX5_builds_81 (fun H locs hW hS => ?_)
          refine lv_aload_n hx hb dX5_builds_84 rfl (lv_at hl 0 rfl) ?_
          refine getM hx hb hta hown hE.1 hW 0 (by decide) q1181 rfl dX5_builds_85 ?_
          refine lv_bipush (v := 8) hx hb dX5_builds_88 (by decide) ?_
          refine lv_dup2_11 hx hb dX5_builds_90 rfl rfl ?_
          refine iald hx hb hE.1 hW sh_194 (vp_lit (by decide +kernel)) dX5_builds_91 ?_
          refine lv_iconst (v := 1) hx hb dX5_builds_92 (by decide) ?_
          refine lv_iadd hx hb dX5_builds_93 ?_
          refine iast (k := 194) (i := 8) (x := ((σ17 194 (8 : Int32).toNatClampNeg) + 1)) hx hb hE.1 hW hS sh_194 (vp_lit (by decide +kernel)) dX5_builds_94 (fun H locs hW hS => ?_)
          obtain ⟨σ18, e19, hf⟩ := st_e hf
          rw [e19] at hW
          refine lv_iload hx hb dX5_builds_95 (lv_at hl 5 rfl) ?_
          cases hf
          exact W.iret hx hb hr (fun u hu _ => ⟨⟨rfl, by rw [hu]; exact hW⟩, hS.F hu⟩) hS.2.2 dX5_builds_97
        · have hf := ifn h11 hf
          refine lv_iconst (v := 1) hx hb dX5_builds_67 (by decide) ?_
          refine lv_goto (tgt := 72) hx hb dX5_builds_68 (by decide) ?_
          obtain ⟨σ22, u21, hf⟩ := b1_e hf
          refine mV (k := 193) (q := (5, 0)) (C := RX5) (T := TX5) (N := 14) (ci := 5) (n := 3) (As := [.int x5, .int 3, .int 1]) (rest := []) (c_X5_sets l D t b σ10 x5 3 1 σ22 u21) sh_193 (by decide) rfl rfl hx hb hml hown hts hE hW hS q1271 q1273 q39 q96 q1274 hy_X5_sets ⟨rfl, rfl⟩ ⟨Nat.le_of_ble_eq_true rfl, Nat.le_of_ble_eq_true rfl⟩ rfl rfl hl.1 (Nat.le_of_ble_eq_true rfl) ⟨Nat.zero_le _, Nat.zero_le _⟩ dX5_builds_72 (fun H locs hW hS => ?_)
          refine lv_aload_n hx hb dX5_builds_75 rfl (lv_at hl 0 rfl) ?_
          refine lv_iload hx hb dX5_builds_76 (lv_at hl 5 rfl) ?_
          refine lv_bipush (v := 6) hx hb dX5_builds_78 (by decide) ?_
          refine lv_iconst (v := 1) hx hb dX5_builds_80 (by decide) ?_
          obtain ⟨σ25, u24, hf⟩ := b1_e hf
          refine mV (k := 193) (q := (5, 0)) (C := RX5) (T := TX5) (N := 14) (ci := 5) (n := 3) (As := [.int x5, .int 6, .int 1]) (rest := []) (c_X5_sets l D t b σ22 x5 6 1 σ25 u24) sh_193 (by decide) rfl rfl hx hb hml hown hts hE hW hS q1271 q1273 q39 q96 q1274 hy_X5_sets ⟨rfl, rfl⟩ ⟨Nat.le_of_ble_eq_true rfl, Nat.le_of_ble_eq_true rfl⟩ rfl rfl hl.1 (Nat.le_of_ble_eq_true rfl) ⟨Nat.zero_le _, Nat.zero_le _⟩ dX5_builds_81 (fun H locs hW hS => ?_)
          refine lv_aload_n hx hb dX5_builds_84 rfl (lv_at hl 0 rfl) ?_
          refine getM hx hb hta hown hE.1 hW 0 (by decide) q1181 rfl dX5_builds_85 ?_
          refine lv_bipush (v := 8) hx hb dX5_builds_88 (by decide) ?_
          refine lv_dup2_11 hx hb dX5_builds_90 rfl rfl ?_
          refine iald hx hb hE.1 hW sh_194 (vp_lit (by decide +kernel)) dX5_builds_91 ?_
          refine lv_iconst (v := 1) hx hb dX5_builds_92 (by decide) ?_
          refine lv_iadd hx hb dX5_builds_93 ?_
          refine iast (k := 194) (i := 8) (x := ((σ25 194 (8 : Int32).toNatClampNeg) + 1)) hx hb hE.1 hW hS sh_194 (vp_lit (by decide +kernel)) dX5_builds_94 (fun H locs hW hS => ?_)
          obtain ⟨σ26, e27, hf⟩ := st_e hf
          rw [e27] at hW
          refine lv_iload hx hb dX5_builds_95 (lv_at hl 5 rfl) ?_
          cases hf
          exact W.iret hx hb hr (fun u hu _ => ⟨⟨rfl, by rw [hu]; exact hW⟩, hS.F hu⟩) hS.2.2 dX5_builds_97
      · have hf := ifn h1 hf
        refine lv_aload_n hx hb dX5_builds_19 rfl (lv_at hl 0 rfl) ?_
        refine lv_iload hx hb dX5_builds_20 (lv_at hl 5 rfl) ?_
        refine lv_iload hx hb dX5_builds_22 (lv_at hl 6 rfl) ?_
        refine lv_iconst (v := 0) hx hb dX5_builds_24 (by decide) ?_
        obtain ⟨σ30, u29, hf⟩ := b1_e hf
        refine mV (k := 193) (q := (5, 0)) (C := RX5) (T := TX5) (N := 14) (ci := 5) (n := 3) (As := [.int x5, .int x6, .int 0]) (rest := []) (c_X5_sets l D t b τ x5 x6 0 σ30 u29) sh_193 (by decide) rfl rfl hx hb hml hown hts hE hW hS q1271 q1273 q39 q96 q1274 hy_X5_sets ⟨rfl, rfl⟩ ⟨Nat.le_of_ble_eq_true rfl, Nat.le_of_ble_eq_true rfl⟩ rfl rfl hl.1 (Nat.le_of_ble_eq_true rfl) ⟨Nat.zero_le _, Nat.zero_le _⟩ dX5_builds_25 (fun H locs hW hS => ?_)
        refine lv_iinc (v := (x6 + 1)) (lv' := [(6, .int (x6 + 1)), (0, .ref (b + 193)), (1, .int x1), (2, .int x2), (3, .int x3), (4, .int x4), (5, .int x5)]) hx hb dX5_builds_28 hl (k := 6) rfl (by rfl) (by decide) rfl (fun ls hl => ?_)
        refine lv_goto (tgt := 12) hx hb dX5_builds_31 (by decide) ?_
        exact ih_12 σ30 x1 x2 x3 x4 x5 (x6 + 1) _ _ _ hf hW hS (lv_sub hl [1, 2, 3, 4, 5, 6, 0] rfl)
  exact key_12 10000 σ p1 p2 p3 p4 (σ 194 (8 : Int32).toNatClampNeg) 0 _ _ _ hf hW hS (lv_sub hl [2, 3, 4, 5, 6, 1, 0] rfl)
def f_X5_paysBuilding (σ : Sg) (p1 : Int32) (p2 : Int32) (p3 : Int32) (p4 : Int32) : Option (Int32 × Sg) := if p4 = 0 then (st (u2 σ 194 (0 : Int32).toNatClampNeg ((σ 194 (0 : Int32).toNatClampNeg) - 30)) fun σ2 => st (u2 σ2 194 (2 : Int32).toNatClampNeg ((σ2 194 (2 : Int32).toNatClampNeg) + 30)) fun σ4 => b2 (f_X5_builds σ4 p1 p2 p3 p4) fun y6 σ8 => some (y6, σ8)) else (st (u2 σ 194 (0 : Int32).toNatClampNeg ((σ 194 (0 : Int32).toNatClampNeg) - 50)) fun σ9 => st (u2 σ9 194 (2 : Int32).toNatClampNeg ((σ9 194 (2 : Int32).toNatClampNeg) + 50)) fun σ11 => b2 (f_X5_builds σ11 p1 p2 p3 p4) fun y13 σ15 => some (y13, σ15))
set_option maxHeartbeats 4000000 in
set_option maxRecDepth 100000 in
theorem c_X5_paysBuilding (l : Launch) (D : va_G) (t : Nat → ClassId) (b : Nat) (σ : Sg) (p1 : Int32) (p2 : Int32) (p3 : Int32) (p4 : Int32) (r : Int32) (σr : Sg) (hf : f_X5_paysBuilding σ p1 p2 p3 p4 = some (r, σr)) : Met l yX5_paysBuilding (Cond.code yX5_paysBuilding cX5_paysBuilding 6 (some .int) :: ALL) ({ frames := 2, cells := 0, slots := 0, locals := 49 }) (PM D t b σ [.ref (b + 193), .int p1, .int p2, .int p3, .int p4]) (QG D t b σr (some (.int r))) 0 0 (geA b) := by
  refine Met.ofW (cc := cX5_paysBuilding) (maxL := 6) (ret := (some .int)) (by decide) rfl ?_
  intro p e s m args below meth c s₁ B hml hv
  obtain ⟨rfl, hW, hE⟩ := hv
  have hx := B.exec
  have hb := B.bytes
  have hr := B.returns
  have hts := atoms_spec (ws := Cond.code yX5_paysBuilding cX5_paysBuilding 6 (some .int) :: ALL) B.pre
  have hta := fun w h => hts w (List.mem_cons_of_mem _ h)
  have hown : s.vm.findClass RX5 = some m.cls := findClass_of_methodNamed B.named
  have hlocks := B.notSynchronized
  have hS : va_S (geA b) s.heap s.heap [] := va_S.rf
  have hl := lv_entry ([.ref (b + 193), .int p1, .int p2, .int p3, .int p4]) (n := 6) (Nat.le_of_ble_eq_true rfl)
  rw [lg_entry_eq]
  generalize (lg_sl ([.ref (b + 193), .int p1, .int p2, .int p3, .int p4]) ++ List.replicate (6 - (lg_sl ([.ref (b + 193), .int p1, .int p2, .int p3, .int p4])).length) Slot.unset).toArray = ls at hl ⊢
  have hl : lv_has ls 6 [(0, .ref (b + 193)), (1, .int p1), (2, .int p2), (3, .int p3), (4, .int p4)] := hl
  unfold f_X5_paysBuilding at hf
  refine lv_iload hx hb dX5_paysBuilding_0 (lv_at hl 4 rfl) ?_
  refine lv_if_eq (tgt := 10) hx hb dX5_paysBuilding_2 (by decide) (fun h1 => ?_) (fun h1 => ?_)
  · have hf := ifp h1 hf
    refine lv_bipush (v := 30) hx hb dX5_paysBuilding_10 (by decide) ?_
    refine lv_istore (lv' := [(5, .int 30), (0, .ref (b + 193)), (1, .int p1), (2, .int p2), (3, .int p3), (4, .int p4)]) hx hb dX5_paysBuilding_12 hl (by decide) rfl (fun ls hl => ?_)
    refine lv_aload_n hx hb dX5_paysBuilding_14 rfl (lv_at hl 1 rfl) ?_
    refine getM hx hb hta hown hE.1 hW 0 (by decide) q1181 rfl dX5_paysBuilding_15 ?_
    refine lv_iconst (v := 0) hx hb dX5_paysBuilding_18 (by decide) ?_
    refine lv_dup2_11 hx hb dX5_paysBuilding_19 rfl rfl ?_
    refine iald hx hb hE.1 hW sh_194 (vp_lit (by decide +kernel)) dX5_paysBuilding_20 ?_
    refine lv_iload hx hb dX5_paysBuilding_21 (lv_at hl 0 rfl) ?_
    refine lv_isub hx hb dX5_paysBuilding_23 ?_
    refine iast (k := 194) (i := 0) (x := ((σ 194 (0 : Int32).toNatClampNeg) - 30)) hx hb hE.1 hW hS sh_194 (vp_lit (by decide +kernel)) dX5_paysBuilding_24 (fun H locs hW hS => ?_)
    obtain ⟨σ2, e3, hf⟩ := st_e hf
    rw [e3] at hW
    refine lv_aload_n hx hb dX5_paysBuilding_25 rfl (lv_at hl 1 rfl) ?_
    refine getM hx hb hta hown hE.1 hW 0 (by decide) q1181 rfl dX5_paysBuilding_26 ?_
    refine lv_iconst (v := 2) hx hb dX5_paysBuilding_29 (by decide) ?_
    refine lv_dup2_11 hx hb dX5_paysBuilding_30 rfl rfl ?_
    refine iald hx hb hE.1 hW sh_194 (vp_lit (by decide +kernel)) dX5_paysBuilding_31 ?_
    refine lv_iload hx hb dX5_paysBuilding_32 (lv_at hl 0 rfl) ?_
    refine lv_iadd hx hb dX5_paysBuilding_34 ?_
    refine iast (k := 194) (i := 2) (x := ((σ2 194 (2 : Int32).toNatClampNeg) + 30)) hx hb hE.1 hW hS sh_194 (vp_lit (by decide +kernel)) dX5_paysBuilding_35 (fun H locs hW hS => ?_)
    obtain ⟨σ4, e5, hf⟩ := st_e hf
    rw [e5] at hW
    refine lv_aload_n hx hb dX5_paysBuilding_36 rfl (lv_at hl 1 rfl) ?_
    refine lv_iload_n hx hb dX5_paysBuilding_37 rfl (lv_at hl 2 rfl) ?_
    refine lv_iload_n hx hb dX5_paysBuilding_38 rfl (lv_at hl 3 rfl) ?_
    refine lv_iload_n hx hb dX5_paysBuilding_39 rfl (lv_at hl 4 rfl) ?_
    refine lv_iload hx hb dX5_paysBuilding_40 (lv_at hl 5 rfl) ?_
    obtain ⟨y6, σ8, u7, hf⟩ := b2_e hf
    refine mV (k := 193) (q := (5, 0)) (C := RX5) (T := TX5) (N := 14) (ci := 5) (n := 4) (As := [.int p1, .int p2, .int p3, .int p4]) (rest := []) (c_X5_builds l D t b σ4 p1 p2 p3 p4 y6 σ8 u7) sh_193 (by decide) rfl rfl hx hb hml hown hts hE hW hS q1267 q1269 q38 q96 q1270 hy_X5_builds ⟨rfl, rfl⟩ ⟨Nat.le_of_ble_eq_true rfl, Nat.le_of_ble_eq_true rfl⟩ rfl rfl hl.1 (Nat.le_of_ble_eq_true rfl) ⟨Nat.zero_le _, Nat.zero_le _⟩ dX5_paysBuilding_42 (fun H locs hW hS => ?_)
    cases hf
    exact W.iret hx hb hr (fun u hu _ => ⟨⟨rfl, by rw [hu]; exact hW⟩, hS.F hu⟩) hS.2.2 dX5_paysBuilding_45
  · have hf := ifn h1 hf
    refine lv_bipush (v := 50) hx hb dX5_paysBuilding_5 (by decide) ?_
    refine lv_goto (tgt := 12) hx hb dX5_paysBuilding_7 (by decide) ?_
    refine lv_istore (lv' := [(5, .int 50), (0, .ref (b + 193)), (1, .int p1), (2, .int p2), (3, .int p3), (4, .int p4)]) hx hb dX5_paysBuilding_12 hl (by decide) rfl (fun ls hl => ?_)
    refine lv_aload_n hx hb dX5_paysBuilding_14 rfl (lv_at hl 1 rfl) ?_
    refine getM hx hb hta hown hE.1 hW 0 (by decide) q1181 rfl dX5_paysBuilding_15 ?_
    refine lv_iconst (v := 0) hx hb dX5_paysBuilding_18 (by decide) ?_
    refine lv_dup2_11 hx hb dX5_paysBuilding_19 rfl rfl ?_
    refine iald hx hb hE.1 hW sh_194 (vp_lit (by decide +kernel)) dX5_paysBuilding_20 ?_
    refine lv_iload hx hb dX5_paysBuilding_21 (lv_at hl 0 rfl) ?_
    refine lv_isub hx hb dX5_paysBuilding_23 ?_
    refine iast (k := 194) (i := 0) (x := ((σ 194 (0 : Int32).toNatClampNeg) - 50)) hx hb hE.1 hW hS sh_194 (vp_lit (by decide +kernel)) dX5_paysBuilding_24 (fun H locs hW hS => ?_)
    obtain ⟨σ9, e10, hf⟩ := st_e hf
    rw [e10] at hW
    refine lv_aload_n hx hb dX5_paysBuilding_25 rfl (lv_at hl 1 rfl) ?_
    refine getM hx hb hta hown hE.1 hW 0 (by decide) q1181 rfl dX5_paysBuilding_26 ?_
    refine lv_iconst (v := 2) hx hb dX5_paysBuilding_29 (by decide) ?_
    refine lv_dup2_11 hx hb dX5_paysBuilding_30 rfl rfl ?_
    refine iald hx hb hE.1 hW sh_194 (vp_lit (by decide +kernel)) dX5_paysBuilding_31 ?_
    refine lv_iload hx hb dX5_paysBuilding_32 (lv_at hl 0 rfl) ?_
    refine lv_iadd hx hb dX5_paysBuilding_34 ?_
    refine iast (k := 194) (i := 2) (x := ((σ9 194 (2 : Int32).toNatClampNeg) + 50)) hx hb hE.1 hW hS sh_194 (vp_lit (by decide +kernel)) dX5_paysBuilding_35 (fun H locs hW hS => ?_)
    obtain ⟨σ11, e12, hf⟩ := st_e hf
    rw [e12] at hW
    refine lv_aload_n hx hb dX5_paysBuilding_36 rfl (lv_at hl 1 rfl) ?_
    refine lv_iload_n hx hb dX5_paysBuilding_37 rfl (lv_at hl 2 rfl) ?_
    refine lv_iload_n hx hb dX5_paysBuilding_38 rfl (lv_at hl 3 rfl) ?_
    refine lv_iload_n hx hb dX5_paysBuilding_39 rfl (lv_at hl 4 rfl) ?_
    refine lv_iload hx hb dX5_paysBuilding_40 (lv_at hl 5 rfl) ?_
    obtain ⟨y13, σ15, u14, hf⟩ := b2_e hf
    refine mV (k := 193) (q := (5, 0)) (C := RX5) (T := TX5) (N := 14) (ci := 5) (n := 4) (As := [.int p1, .int p2, .int p3, .int p4]) (rest := []) (c_X5_builds l D t b σ11 p1 p2 p3 p4 y13 σ15 u14) sh_193 (by decide) rfl rfl hx hb hml hown hts hE hW hS q1267 q1269 q38 q96 q1270 hy_X5_builds ⟨rfl, rfl⟩ ⟨Nat.le_of_ble_eq_true rfl, Nat.le_of_ble_eq_true rfl⟩ rfl rfl hl.1 (Nat.le_of_ble_eq_true rfl) ⟨Nat.zero_le _, Nat.zero_le _⟩ dX5_paysBuilding_42 (fun H locs hW hS => ?_)
    cases hf
    exact W.iret hx hb hr (fun u hu _ => ⟨⟨rfl, by rw [hu]; exact hW⟩, hS.F hu⟩) hS.2.2 dX5_paysBuilding_45
def f_X5_whyNotStocked (σ : Sg) (p1 : Int32) (p2 : Int32) (p3 : Int32) (p4 : Int32) : Option Int32 := b1 (f_X5_isStall σ p1) fun y1 => if y1 = 0 then (some 1) else (b1 (f_X5_isFour σ p2) fun y4 => if y4 = 0 then (some 1) else (b1 (f_X5_isFour σ p3) fun y7 => if y7 = 0 then (some 1) else (b1 (f_X5_in σ p4 1 40) fun y10 => if y10 = 0 then (some 2) else (b1 (f_X5_onShelf σ p1) fun y13 => if 40 < (y13 + p4) then (some 3) else (b1 (f_X5_its σ p1 4) fun y16 => b1 (f_X5_costOf σ p2) fun y18 => if (p4 * y18) ≤ y16 then (some 0) else (some 3))))))
set_option maxHeartbeats 4000000 in
set_option maxRecDepth 100000 in
theorem c_X5_whyNotStocked (l : Launch) (D : va_G) (t : Nat → ClassId) (b : Nat) (σ : Sg) (p1 : Int32) (p2 : Int32) (p3 : Int32) (p4 : Int32) (r : Int32) (hf : f_X5_whyNotStocked σ p1 p2 p3 p4 = some r) : Met l yX5_whyNotStocked (Cond.code yX5_whyNotStocked cX5_whyNotStocked 5 (some .int) :: ALL) ({ frames := 2, cells := 0, slots := 0, locals := 45 }) (PM D t b σ [.ref (b + 193), .int p1, .int p2, .int p3, .int p4]) (QG D t b σ (some (.int r))) 0 0 (geA b) := by
  refine Met.ofW (cc := cX5_whyNotStocked) (maxL := 5) (ret := (some .int)) (by decide) rfl ?_
  intro p e s m args below meth c s₁ B hml hv
  obtain ⟨rfl, hW, hE⟩ := hv
  have hx := B.exec
  have hb := B.bytes
  have hr := B.returns
  have hts := atoms_spec (ws := Cond.code yX5_whyNotStocked cX5_whyNotStocked 5 (some .int) :: ALL) B.pre
  have hta := fun w h => hts w (List.mem_cons_of_mem _ h)
  have hown : s.vm.findClass RX5 = some m.cls := findClass_of_methodNamed B.named
  have hlocks := B.notSynchronized
  have hS : va_S (geA b) s.heap s.heap [] := va_S.rf
  have hl := lv_entry ([.ref (b + 193), .int p1, .int p2, .int p3, .int p4]) (n := 5) (Nat.le_of_ble_eq_true rfl)
  rw [lg_entry_eq]
  generalize (lg_sl ([.ref (b + 193), .int p1, .int p2, .int p3, .int p4]) ++ List.replicate (5 - (lg_sl ([.ref (b + 193), .int p1, .int p2, .int p3, .int p4])).length) Slot.unset).toArray = ls at hl ⊢
  have hl : lv_has ls 5 [(0, .ref (b + 193)), (1, .int p1), (2, .int p2), (3, .int p3), (4, .int p4)] := hl
  unfold f_X5_whyNotStocked at hf
  refine lv_aload_n hx hb dX5_whyNotStocked_0 rfl (lv_at hl 0 rfl) ?_
  refine lv_iload_n hx hb dX5_whyNotStocked_1 rfl (lv_at hl 1 rfl) ?_
  obtain ⟨y1, u2, hf⟩ := b1_e hf
  refine mV (k := 193) (q := (5, 0)) (C := RX5) (T := TX5) (N := 14) (ci := 5) (n := 1) (As := [.int p1]) (rest := []) (c_X5_isStall l D t b σ p1 y1 u2) sh_193 (by decide) rfl rfl hx hb hml hown hts hE hW hS q1279 q1281 q40 q96 q1282 hy_X5_isStall ⟨rfl, rfl⟩ ⟨Nat.le_of_ble_eq_true rfl, Nat.le_of_ble_eq_true rfl⟩ rfl rfl hl.1 (Nat.le_of_ble_eq_true rfl) ⟨Nat.zero_le _, Nat.zero_le _⟩ dX5_whyNotStocked_2 (fun H locs hW hS => ?_)
  refine lv_if_eq (tgt := 22) hx hb dX5_whyNotStocked_5 (by decide) (fun h3 => ?_) (fun h3 => ?_)
  · have hf := ifp h3 hf
    refine lv_iconst (v := 1) hx hb dX5_whyNotStocked_22 (by decide) ?_
    cases hf
    exact W.iret hx hb hr (fun u hu _ => ⟨⟨rfl, by rw [hu]; exact hW⟩, hS.F hu⟩) hS.2.2 dX5_whyNotStocked_23
  · have hf := ifn h3 hf
    refine lv_iload_n hx hb dX5_whyNotStocked_8 rfl (lv_at hl 2 rfl) ?_
    obtain ⟨y4, u5, hf⟩ := b1_e hf
    refine mS (n := 1) (As := [.int p2]) (rest := []) (c_X5_isFour l D t b σ p2 y4 u5) hx hb hml hown hts hE hW hS q1299 q1300 q96 q1301 hs_X5_isFour ⟨rfl, rfl⟩ ⟨Nat.le_of_ble_eq_true rfl, Nat.le_of_ble_eq_true rfl⟩ rfl rfl hl.1 (Nat.le_of_ble_eq_true rfl) ⟨Nat.zero_le _, Nat.zero_le _⟩ dX5_whyNotStocked_9 (fun H locs hW hS => ?_)
    refine lv_if_eq (tgt := 22) hx hb dX5_whyNotStocked_12 (by decide) (fun h6 => ?_) (fun h6 => ?_)
    · have hf := ifp h6 hf
      refine lv_iconst (v := 1) hx hb dX5_whyNotStocked_22 (by decide) ?_
      cases hf
      exact W.iret hx hb hr (fun u hu _ => ⟨⟨rfl, by rw [hu]; exact hW⟩, hS.F hu⟩) hS.2.2 dX5_whyNotStocked_23
    · have hf := ifn h6 hf
      refine lv_iload_n hx hb dX5_whyNotStocked_15 rfl (lv_at hl 3 rfl) ?_
      obtain ⟨y7, u8, hf⟩ := b1_e hf
      refine mS (n := 1) (As := [.int p3]) (rest := []) (c_X5_isFour l D t b σ p3 y7 u8) hx hb hml hown hts hE hW hS q1299 q1300 q96 q1301 hs_X5_isFour ⟨rfl, rfl⟩ ⟨Nat.le_of_ble_eq_true rfl, Nat.le_of_ble_eq_true rfl⟩ rfl rfl hl.1 (Nat.le_of_ble_eq_true rfl) ⟨Nat.zero_le _, Nat.zero_le _⟩ dX5_whyNotStocked_16 (fun H locs hW hS => ?_)
      refine lv_if_ne (tgt := 24) hx hb dX5_whyNotStocked_19 (by decide) (fun h9 => ?_) (fun h9 => ?_)
      · have hf := ifn h9 hf
        refine lv_iload hx hb dX5_whyNotStocked_24 (lv_at hl 4 rfl) ?_
        refine lv_iconst (v := 1) hx hb dX5_whyNotStocked_26 (by decide) ?_
        refine lv_bipush (v := 40) hx hb dX5_whyNotStocked_27 (by decide) ?_
        obtain ⟨y10, u11, hf⟩ := b1_e hf
        refine mS (n := 3) (As := [.int p4, .int 1, .int 40]) (rest := []) (c_X5_in l D t b σ p4 1 40 y10 u11) hx hb hml hown hts hE hW hS q1239 q1240 q96 q1241 hs_X5_in ⟨rfl, rfl⟩ ⟨Nat.le_of_ble_eq_true rfl, Nat.le_of_ble_eq_true rfl⟩ rfl rfl hl.1 (Nat.le_of_ble_eq_true rfl) ⟨Nat.zero_le _, Nat.zero_le _⟩ dX5_whyNotStocked_29 (fun H locs hW hS => ?_)
        refine lv_if_ne (tgt := 39) hx hb dX5_whyNotStocked_32 (by decide) (fun h12 => ?_) (fun h12 => ?_)
        · have hf := ifn h12 hf
          refine lv_aload_n hx hb dX5_whyNotStocked_39 rfl (lv_at hl 0 rfl) ?_
          refine lv_iload_n hx hb dX5_whyNotStocked_40 rfl (lv_at hl 1 rfl) ?_
          obtain ⟨y13, u14, hf⟩ := b1_e hf
          refine mV (k := 193) (q := (5, 0)) (C := RX5) (T := TX5) (N := 14) (ci := 5) (n := 1) (As := [.int p1]) (rest := []) (c_X5_onShelf l D t b σ p1 y13 u14) sh_193 (by decide) rfl rfl hx hb hml hown hts hE hW hS q1302 q1304 q42 q96 q1305 hy_X5_onShelf ⟨rfl, rfl⟩ ⟨Nat.le_of_ble_eq_true rfl, Nat.le_of_ble_eq_true rfl⟩ rfl rfl hl.1 (Nat.le_of_ble_eq_true rfl) ⟨Nat.zero_le _, Nat.zero_le _⟩ dX5_whyNotStocked_41 (fun H locs hW hS => ?_)
          refine lv_iload hx hb dX5_whyNotStocked_44 (lv_at hl 4 rfl) ?_
          refine lv_iadd hx hb dX5_whyNotStocked_46 ?_
          refine lv_bipush (v := 40) hx hb dX5_whyNotStocked_47 (by decide) ?_
          refine lv_icmp_gt (tgt := 68) hx hb dX5_whyNotStocked_49 (by decide) (fun h15 => ?_) (fun h15 => ?_)
          · have hf := ifp h15 hf
            refine lv_iconst (v := 3) hx hb dX5_whyNotStocked_68 (by decide) ?_
            refine lv_goto (tgt := 73) hx hb dX5_whyNotStocked_69 (by decide) ?_
            cases hf
            exact W.iret hx hb hr (fun u hu _ => ⟨⟨rfl, by rw [hu]; exact hW⟩, hS.F hu⟩) hS.2.2 dX5_whyNotStocked_73
          · have hf := ifn h15 hf
            refine lv_aload_n hx hb dX5_whyNotStocked_52 rfl (lv_at hl 0 rfl) ?_
            refine lv_iload_n hx hb dX5_whyNotStocked_53 rfl (lv_at hl 1 rfl) ?_
            refine lv_iconst (v := 4) hx hb dX5_whyNotStocked_54 (by decide) ?_
            obtain ⟨y16, u17, hf⟩ := b1_e hf
            refine mV (k := 193) (q := (5, 0)) (C := RX5) (T := TX5) (N := 14) (ci := 5) (n := 2) (As := [.int p1, .int 4]) (rest := []) (c_X5_its l D t b σ p1 4 y16 u17) sh_193 (by decide) rfl rfl hx hb hml hown hts hE hW hS q1252 q1254 q35 q96 q1255 hy_X5_its ⟨rfl, rfl⟩ ⟨Nat.le_of_ble_eq_true rfl, Nat.le_of_ble_eq_true rfl⟩ rfl rfl hl.1 (Nat.le_of_ble_eq_true rfl) ⟨Nat.zero_le _, Nat.zero_le _⟩ dX5_whyNotStocked_55 (fun H locs hW hS => ?_)
            refine lv_iload hx hb dX5_whyNotStocked_58 (lv_at hl 4 rfl) ?_
            refine lv_iload_n hx hb dX5_whyNotStocked_60 rfl (lv_at hl 2 rfl) ?_
            obtain ⟨y18, u19, hf⟩ := b1_e hf
            refine mS (n := 1) (As := [.int p2]) (rest := [.int p4, .int y16]) (c_X5_costOf l D t b σ p2 y18 u19) hx hb hml hown hts hE hW hS q1306 q1307 q96 q1308 hs_X5_costOf ⟨rfl, rfl⟩ ⟨Nat.le_of_ble_eq_true rfl, Nat.le_of_ble_eq_true rfl⟩ rfl rfl hl.1 (Nat.le_of_ble_eq_true rfl) ⟨Nat.zero_le _, Nat.zero_le _⟩ dX5_whyNotStocked_61 (fun H locs hW hS => ?_)
            refine lv_imul hx hb dX5_whyNotStocked_64 ?_
            refine lv_icmp_ge (tgt := 72) hx hb dX5_whyNotStocked_65 (by decide) (fun h20 => ?_) (fun h20 => ?_)
            · have hf := ifp h20 hf
              refine lv_iconst (v := 0) hx hb dX5_whyNotStocked_72 (by decide) ?_
              cases hf
              exact W.iret hx hb hr (fun u hu _ => ⟨⟨rfl, by rw [hu]; exact hW⟩, hS.F hu⟩) hS.2.2 dX5_whyNotStocked_73
            · have hf := ifn h20 hf
              refine lv_iconst (v := 3) hx hb dX5_whyNotStocked_68 (by decide) ?_
              refine lv_goto (tgt := 73) hx hb dX5_whyNotStocked_69 (by decide) ?_
              cases hf
              exact W.iret hx hb hr (fun u hu _ => ⟨⟨rfl, by rw [hu]; exact hW⟩, hS.F hu⟩) hS.2.2 dX5_whyNotStocked_73
        · have hf := ifp h12 hf
          refine lv_iconst (v := 2) hx hb dX5_whyNotStocked_35 (by decide) ?_
          refine lv_goto (tgt := 73) hx hb dX5_whyNotStocked_36 (by decide) ?_
          cases hf
          exact W.iret hx hb hr (fun u hu _ => ⟨⟨rfl, by rw [hu]; exact hW⟩, hS.F hu⟩) hS.2.2 dX5_whyNotStocked_73
      · have hf := ifp h9 hf
        refine lv_iconst (v := 1) hx hb dX5_whyNotStocked_22 (by decide) ?_
        cases hf
        exact W.iret hx hb hr (fun u hu _ => ⟨⟨rfl, by rw [hu]; exact hW⟩, hS.F hu⟩) hS.2.2 dX5_whyNotStocked_23
def f_X5_stocks (σ : Sg) (p1 : Int32) (p2 : Int32) (p3 : Int32) (p4 : Int32) : Option (Int32 × Sg) := b1 (f_X5_costOf σ p2) fun y1 => b1 (f_X5_its σ p1 4) fun y3 => b1 (f_X5_sets σ p1 4 (y3 - (p4 * y1))) fun σ7 => st (u2 σ7 194 (2 : Int32).toNatClampNeg ((σ7 194 (2 : Int32).toNatClampNeg) + (p4 * y1))) fun σ8 => b1 (f_X5_prizes σ8 p1 p2 p3) fun y10 => b1 (f_X5_sets σ8 p1 ((7 + (4 * p2)) + p3) (y10 + p4)) fun σ14 => b1 (f_X5_its σ14 p1 4) fun y15 => some (y15, σ14)
set_option maxHeartbeats 4000000 in
set_option maxRecDepth 100000 in
theorem c_X5_stocks (l : Launch) (D : va_G) (t : Nat → ClassId) (b : Nat) (σ : Sg) (p1 : Int32) (p2 : Int32) (p3 : Int32) (p4 : Int32) (r : Int32) (σr : Sg) (hf : f_X5_stocks σ p1 p2 p3 p4 = some (r, σr)) : Met l yX5_stocks (Cond.code yX5_stocks cX5_stocks 6 (some .int) :: ALL) ({ frames := 2, cells := 0, slots := 0, locals := 45 }) (PM D t b σ [.ref (b + 193), .int p1, .int p2, .int p3, .int p4]) (QG D t b σr (some (.int r))) 0 0 (geA b) := by
  refine Met.ofW (cc := cX5_stocks) (maxL := 6) (ret := (some .int)) (by decide) rfl ?_
  intro p e s m args below meth c s₁ B hml hv
  obtain ⟨rfl, hW, hE⟩ := hv
  have hx := B.exec
  have hb := B.bytes
  have hr := B.returns
  have hts := atoms_spec (ws := Cond.code yX5_stocks cX5_stocks 6 (some .int) :: ALL) B.pre
  have hta := fun w h => hts w (List.mem_cons_of_mem _ h)
  have hown : s.vm.findClass RX5 = some m.cls := findClass_of_methodNamed B.named
  have hlocks := B.notSynchronized
  have hS : va_S (geA b) s.heap s.heap [] := va_S.rf
  have hl := lv_entry ([.ref (b + 193), .int p1, .int p2, .int p3, .int p4]) (n := 6) (Nat.le_of_ble_eq_true rfl)
  rw [lg_entry_eq]
  generalize (lg_sl ([.ref (b + 193), .int p1, .int p2, .int p3, .int p4]) ++ List.replicate (6 - (lg_sl ([.ref (b + 193), .int p1, .int p2, .int p3, .int p4])).length) Slot.unset).toArray = ls at hl ⊢
  have hl : lv_has ls 6 [(0, .ref (b + 193)), (1, .int p1), (2, .int p2), (3, .int p3), (4, .int p4)] := hl
  unfold f_X5_stocks at hf
  refine lv_iload hx hb dX5_stocks_0 (lv_at hl 4 rfl) ?_
  refine lv_iload_n hx hb dX5_stocks_2 rfl (lv_at hl 2 rfl) ?_
  obtain ⟨y1, u2, hf⟩ := b1_e hf
  refine mS (n := 1) (As := [.int p2]) (rest := [.int p4]) (c_X5_costOf l D t b σ p2 y1 u2) hx hb hml hown hts hE hW hS q1306 q1307 q96 q1308 hs_X5_costOf ⟨rfl, rfl⟩ ⟨Nat.le_of_ble_eq_true rfl, Nat.le_of_ble_eq_true rfl⟩ rfl rfl hl.1 (Nat.le_of_ble_eq_true rfl) ⟨Nat.zero_le _, Nat.zero_le _⟩ dX5_stocks_3 (fun H locs hW hS => ?_)
  refine lv_imul hx hb dX5_stocks_6 ?_
  refine lv_istore (lv' := [(5, .int (p4 * y1)), (0, .ref (b + 193)), (1, .int p1), (2, .int p2), (3, .int p3), (4, .int p4)]) hx hb dX5_stocks_7 hl (by decide) rfl (fun ls hl => ?_)
  refine lv_aload_n hx hb dX5_stocks_9 rfl (lv_at hl 1 rfl) ?_
  refine lv_iload_n hx hb dX5_stocks_10 rfl (lv_at hl 2 rfl) ?_
  refine lv_iconst (v := 4) hx hb dX5_stocks_11 (by decide) ?_
  refine lv_aload_n hx hb dX5_stocks_12 rfl (lv_at hl 1 rfl) ?_
  refine lv_iload_n hx hb dX5_stocks_13 rfl (lv_at hl 2 rfl) ?_
  refine lv_iconst (v := 4) hx hb dX5_stocks_14 (by decide) ?_
  obtain ⟨y3, u4, hf⟩ := b1_e hf
  refine mV (k := 193) (q := (5, 0)) (C := RX5) (T := TX5) (N := 14) (ci := 5) (n := 2) (As := [.int p1, .int 4]) (rest := [.int 4, .int p1, .ref (b + 193)]) (c_X5_its l D t b σ p1 4 y3 u4) sh_193 (by decide) rfl rfl hx hb hml hown hts hE hW hS q1252 q1254 q35 q96 q1255 hy_X5_its ⟨rfl, rfl⟩ ⟨Nat.le_of_ble_eq_true rfl, Nat.le_of_ble_eq_true rfl⟩ rfl rfl hl.1 (Nat.le_of_ble_eq_true rfl) ⟨Nat.zero_le _, Nat.zero_le _⟩ dX5_stocks_15 (fun H locs hW hS => ?_)
  refine lv_iload hx hb dX5_stocks_18 (lv_at hl 0 rfl) ?_
  refine lv_isub hx hb dX5_stocks_20 ?_
  obtain ⟨σ7, u6, hf⟩ := b1_e hf
  refine mV (k := 193) (q := (5, 0)) (C := RX5) (T := TX5) (N := 14) (ci := 5) (n := 3) (As := [.int p1, .int 4, .int (y3 - (p4 * y1))]) (rest := []) (c_X5_sets l D t b σ p1 4 (y3 - (p4 * y1)) σ7 u6) sh_193 (by decide) rfl rfl hx hb hml hown hts hE hW hS q1271 q1273 q39 q96 q1274 hy_X5_sets ⟨rfl, rfl⟩ ⟨Nat.le_of_ble_eq_true rfl, Nat.le_of_ble_eq_true rfl⟩ rfl rfl hl.1 (Nat.le_of_ble_eq_true rfl) ⟨Nat.zero_le _, Nat.zero_le _⟩ dX5_stocks_21 (fun H locs hW hS => ?_)
  refine lv_aload_n hx hb dX5_stocks_24 rfl (lv_at hl 1 rfl) ?_
  refine getM hx hb hta hown hE.1 hW 0 (by decide) q1181 rfl dX5_stocks_25 ?_
  refine lv_iconst (v := 2) hx hb dX5_stocks_28 (by decide) ?_
  refine lv_dup2_11 hx hb dX5_stocks_29 rfl rfl ?_
  refine iald hx hb hE.1 hW sh_194 (vp_lit (by decide +kernel)) dX5_stocks_30 ?_
  refine lv_iload hx hb dX5_stocks_31 (lv_at hl 0 rfl) ?_
  refine lv_iadd hx hb dX5_stocks_33 ?_
  refine iast (k := 194) (i := 2) (x := ((σ7 194 (2 : Int32).toNatClampNeg) + (p4 * y1))) hx hb hE.1 hW hS sh_194 (vp_lit (by decide +kernel)) dX5_stocks_34 (fun H locs hW hS => ?_)
  obtain ⟨σ8, e9, hf⟩ := st_e hf
  rw [e9] at hW
  refine lv_aload_n hx hb dX5_stocks_35 rfl (lv_at hl 1 rfl) ?_
  refine lv_iload_n hx hb dX5_stocks_36 rfl (lv_at hl 2 rfl) ?_
  refine lv_bipush (v := 7) hx hb dX5_stocks_37 (by decide) ?_
  refine lv_iconst (v := 4) hx hb dX5_stocks_39 (by decide) ?_
  refine lv_iload_n hx hb dX5_stocks_40 rfl (lv_at hl 3 rfl) ?_
  refine lv_imul hx hb dX5_stocks_41 ?_
  refine lv_iadd hx hb dX5_stocks_42 ?_
  refine lv_iload_n hx hb dX5_stocks_43 rfl (lv_at hl 4 rfl) ?_
  refine lv_iadd hx hb dX5_stocks_44 ?_
  refine lv_aload_n hx hb dX5_stocks_45 rfl (lv_at hl 1 rfl) ?_
  refine lv_iload_n hx hb dX5_stocks_46 rfl (lv_at hl 2 rfl) ?_
  refine lv_iload_n hx hb dX5_stocks_47 rfl (lv_at hl 3 rfl) ?_
  refine lv_iload_n hx hb dX5_stocks_48 rfl (lv_at hl 4 rfl) ?_
  obtain ⟨y10, u11, hf⟩ := b1_e hf
  refine mV (k := 193) (q := (5, 0)) (C := RX5) (T := TX5) (N := 14) (ci := 5) (n := 3) (As := [.int p1, .int p2, .int p3]) (rest := [.int ((7 + (4 * p2)) + p3), .int p1, .ref (b + 193)]) (c_X5_prizes l D t b σ8 p1 p2 p3 y10 u11) sh_193 (by decide) rfl rfl hx hb hml hown hts hE hW hS q1313 q1315 q44 q96 q1316 hy_X5_prizes ⟨rfl, rfl⟩ ⟨Nat.le_of_ble_eq_true rfl, Nat.le_of_ble_eq_true rfl⟩ rfl rfl hl.1 (Nat.le_of_ble_eq_true rfl) ⟨Nat.zero_le _, Nat.zero_le _⟩ dX5_stocks_49 (fun H locs hW hS => ?_)
  refine lv_iload hx hb dX5_stocks_52 (lv_at hl 5 rfl) ?_
  refine lv_iadd hx hb dX5_stocks_54 ?_
  obtain ⟨σ14, u13, hf⟩ := b1_e hf
  refine mV (k := 193) (q := (5, 0)) (C := RX5) (T := TX5) (N := 14) (ci := 5) (n := 3) (As := [.int p1, .int ((7 + (4 * p2)) + p3), .int (y10 + p4)]) (rest := []) (c_X5_sets l D t b σ8 p1 ((7 + (4 * p2)) + p3) (y10 + p4) σ14 u13) sh_193 (by decide) rfl rfl hx hb hml hown hts hE hW hS q1271 q1273 q39 q96 q1274 hy_X5_sets ⟨rfl, rfl⟩ ⟨Nat.le_of_ble_eq_true rfl, Nat.le_of_ble_eq_true rfl⟩ rfl rfl hl.1 (Nat.le_of_ble_eq_true rfl) ⟨Nat.zero_le _, Nat.zero_le _⟩ dX5_stocks_55 (fun H locs hW hS => ?_)
  refine lv_aload_n hx hb dX5_stocks_58 rfl (lv_at hl 1 rfl) ?_
  refine lv_iload_n hx hb dX5_stocks_59 rfl (lv_at hl 2 rfl) ?_
  refine lv_iconst (v := 4) hx hb dX5_stocks_60 (by decide) ?_
  obtain ⟨y15, u16, hf⟩ := b1_e hf
  refine mV (k := 193) (q := (5, 0)) (C := RX5) (T := TX5) (N := 14) (ci := 5) (n := 2) (As := [.int p1, .int 4]) (rest := []) (c_X5_its l D t b σ14 p1 4 y15 u16) sh_193 (by decide) rfl rfl hx hb hml hown hts hE hW hS q1252 q1254 q35 q96 q1255 hy_X5_its ⟨rfl, rfl⟩ ⟨Nat.le_of_ble_eq_true rfl, Nat.le_of_ble_eq_true rfl⟩ rfl rfl hl.1 (Nat.le_of_ble_eq_true rfl) ⟨Nat.zero_le _, Nat.zero_le _⟩ dX5_stocks_61 (fun H locs hW hS => ?_)
  cases hf
  exact W.iret hx hb hr (fun u hu _ => ⟨⟨rfl, by rw [hu]; exact hW⟩, hS.F hu⟩) hS.2.2 dX5_stocks_64
def f_X5_whyNotFunded (σ : Sg) (p1 : Int32) (p2 : Int32) : Option Int32 := b1 (f_X5_isStall σ p1) fun y1 => if y1 = 0 then (some 1) else (b1 (f_X5_in σ p2 1 99) fun y4 => if y4 = 0 then (some 2) else (if p2 ≤ (σ 194 (0 : Int32).toNatClampNeg) then (some 0) else (some 3)))
set_option maxHeartbeats 4000000 in
set_option maxRecDepth 100000 in
theorem c_X5_whyNotFunded (l : Launch) (D : va_G) (t : Nat → ClassId) (b : Nat) (σ : Sg) (p1 : Int32) (p2 : Int32) (r : Int32) (hf : f_X5_whyNotFunded σ p1 p2 = some r) : Met l yX5_whyNotFunded (Cond.code yX5_whyNotFunded cX5_whyNotFunded 3 (some .int) :: ALL) ({ frames := 2, cells := 0, slots := 0, locals := 43 }) (PM D t b σ [.ref (b + 193), .int p1, .int p2]) (QG D t b σ (some (.int r))) 0 0 (geA b) := by
  refine Met.ofW (cc := cX5_whyNotFunded) (maxL := 3) (ret := (some .int)) (by decide) rfl ?_
  intro p e s m args below meth c s₁ B hml hv
  obtain ⟨rfl, hW, hE⟩ := hv
  have hx := B.exec
  have hb := B.bytes
  have hr := B.returns
  have hts := atoms_spec (ws := Cond.code yX5_whyNotFunded cX5_whyNotFunded 3 (some .int) :: ALL) B.pre
  have hta := fun w h => hts w (List.mem_cons_of_mem _ h)
  have hown : s.vm.findClass RX5 = some m.cls := findClass_of_methodNamed B.named
  have hlocks := B.notSynchronized
  have hS : va_S (geA b) s.heap s.heap [] := va_S.rf
  have hl := lv_entry ([.ref (b + 193), .int p1, .int p2]) (n := 3) (Nat.le_of_ble_eq_true rfl)
  rw [lg_entry_eq]
  generalize (lg_sl ([.ref (b + 193), .int p1, .int p2]) ++ List.replicate (3 - (lg_sl ([.ref (b + 193), .int p1, .int p2])).length) Slot.unset).toArray = ls at hl ⊢
  have hl : lv_has ls 3 [(0, .ref (b + 193)), (1, .int p1), (2, .int p2)] := hl
  unfold f_X5_whyNotFunded at hf
  refine lv_aload_n hx hb dX5_whyNotFunded_0 rfl (lv_at hl 0 rfl) ?_
  refine lv_iload_n hx hb dX5_whyNotFunded_1 rfl (lv_at hl 1 rfl) ?_
  obtain ⟨y1, u2, hf⟩ := b1_e hf
  refine mV (k := 193) (q := (5, 0)) (C := RX5) (T := TX5) (N := 14) (ci := 5) (n := 1) (As := [.int p1]) (rest := []) (c_X5_isStall l D t b σ p1 y1 u2) sh_193 (by decide) rfl rfl hx hb hml hown hts hE hW hS q1279 q1281 q40 q96 q1282 hy_X5_isStall ⟨rfl, rfl⟩ ⟨Nat.le_of_ble_eq_true rfl, Nat.le_of_ble_eq_true rfl⟩ rfl rfl hl.1 (Nat.le_of_ble_eq_true rfl) ⟨Nat.zero_le _, Nat.zero_le _⟩ dX5_whyNotFunded_2 (fun H locs hW hS => ?_)
  refine lv_if_ne (tgt := 12) hx hb dX5_whyNotFunded_5 (by decide) (fun h3 => ?_) (fun h3 => ?_)
  · have hf := ifn h3 hf
    refine lv_iload_n hx hb dX5_whyNotFunded_12 rfl (lv_at hl 2 rfl) ?_
    refine lv_iconst (v := 1) hx hb dX5_whyNotFunded_13 (by decide) ?_
    refine lv_bipush (v := 99) hx hb dX5_whyNotFunded_14 (by decide) ?_
    obtain ⟨y4, u5, hf⟩ := b1_e hf
    refine mS (n := 3) (As := [.int p2, .int 1, .int 99]) (rest := []) (c_X5_in l D t b σ p2 1 99 y4 u5) hx hb hml hown hts hE hW hS q1239 q1240 q96 q1241 hs_X5_in ⟨rfl, rfl⟩ ⟨Nat.le_of_ble_eq_true rfl, Nat.le_of_ble_eq_true rfl⟩ rfl rfl hl.1 (Nat.le_of_ble_eq_true rfl) ⟨Nat.zero_le _, Nat.zero_le _⟩ dX5_whyNotFunded_16 (fun H locs hW hS => ?_)
    refine lv_if_ne (tgt := 26) hx hb dX5_whyNotFunded_19 (by decide) (fun h6 => ?_) (fun h6 => ?_)
    · have hf := ifn h6 hf
      refine lv_aload_n hx hb dX5_whyNotFunded_26 rfl (lv_at hl 0 rfl) ?_
      refine getM hx hb hta hown hE.1 hW 0 (by decide) q1181 rfl dX5_whyNotFunded_27 ?_
      refine lv_iconst (v := 0) hx hb dX5_whyNotFunded_30 (by decide) ?_
      refine iald hx hb hE.1 hW sh_194 (vp_lit (by decide +kernel)) dX5_whyNotFunded_31 ?_
      refine lv_iload_n hx hb dX5_whyNotFunded_32 rfl (lv_at hl 2 rfl) ?_
      refine lv_icmp_ge (tgt := 40) hx hb dX5_whyNotFunded_33 (by decide) (fun h7 => ?_) (fun h7 => ?_)
      · have hf := ifp h7 hf
        refine lv_iconst (v := 0) hx hb dX5_whyNotFunded_40 (by decide) ?_
        cases hf
        exact W.iret hx hb hr (fun u hu _ => ⟨⟨rfl, by rw [hu]; exact hW⟩, hS.F hu⟩) hS.2.2 dX5_whyNotFunded_41
      · have hf := ifn h7 hf
        refine lv_iconst (v := 3) hx hb dX5_whyNotFunded_36 (by decide) ?_
        refine lv_goto (tgt := 41) hx hb dX5_whyNotFunded_37 (by decide) ?_
        cases hf
        exact W.iret hx hb hr (fun u hu _ => ⟨⟨rfl, by rw [hu]; exact hW⟩, hS.F hu⟩) hS.2.2 dX5_whyNotFunded_41
    · have hf := ifp h6 hf
      refine lv_iconst (v := 2) hx hb dX5_whyNotFunded_22 (by decide) ?_
      refine lv_goto (tgt := 41) hx hb dX5_whyNotFunded_23 (by decide) ?_
      cases hf
      exact W.iret hx hb hr (fun u hu _ => ⟨⟨rfl, by rw [hu]; exact hW⟩, hS.F hu⟩) hS.2.2 dX5_whyNotFunded_41
  · have hf := ifp h3 hf
    refine lv_iconst (v := 1) hx hb dX5_whyNotFunded_8 (by decide) ?_
    refine lv_goto (tgt := 41) hx hb dX5_whyNotFunded_9 (by decide) ?_
    cases hf
    exact W.iret hx hb hr (fun u hu _ => ⟨⟨rfl, by rw [hu]; exact hW⟩, hS.F hu⟩) hS.2.2 dX5_whyNotFunded_41

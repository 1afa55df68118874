def f_X4_sulkers (σ : Sg) : Option Int32 := b1 (f_X0_countSulkers (1 + 4) σ) fun y1 => some y1
set_option maxHeartbeats 4000000 in
set_option maxRecDepth 100000 in
theorem c_X4_sulkers (l : Launch) (D : va_G) (t : Nat → ClassId) (b : Nat) (σ : Sg) (r : Int32) (hf : f_X4_sulkers σ = some r) : Met l yX4_sulkers (Cond.code yX4_sulkers cX4_sulkers 1 (some .int) :: ALL) ({ frames := 1, cells := 0, slots := 0, locals := 22 }) (PM D t b σ [.ref (b + 0)]) (QG D t b σ (some (.int r))) 0 0 (geA b) := by
  refine Met.ofW (cc := cX4_sulkers) (maxL := 1) (ret := (some .int)) (by decide) rfl ?_
  intro p e s m args below meth c s₁ B hml hv
  obtain ⟨rfl, hW, hE⟩ := hv
  have hx := B.exec
  have hb := B.bytes
  have hr := B.returns
  have hts := atoms_spec (ws := Cond.code yX4_sulkers cX4_sulkers 1 (some .int) :: ALL) B.pre
  have hta := fun w h => hts w (List.mem_cons_of_mem _ h)
  have hown : s.vm.findClass RX4 = some m.cls := findClass_of_methodNamed B.named
  have hlocks := B.notSynchronized
  have hS : va_S (geA b) s.heap s.heap [] := va_S.rf
  have hl := lv_entry ([.ref (b + 0)]) (n := 1) (Nat.le_of_ble_eq_true rfl)
  rw [lg_entry_eq]
  generalize (lg_sl ([.ref (b + 0)]) ++ List.replicate (1 - (lg_sl ([.ref (b + 0)])).length) Slot.unset).toArray = ls at hl ⊢
  have hl : lv_has ls 1 [(0, .ref (b + 0))] := hl
  unfold f_X4_sulkers at hf
  refine lv_aload_n hx hb dX4_sulkers_0 rfl (lv_at hl 0 rfl) ?_
  refine getP hx hb hta hown hE.1 hW 0 (by decide) q274 rfl dX4_sulkers_1 ?_
  refine getF hx hb hta hown hE.1 hW sh_1 12 (by decide) q195 rfl dX4_sulkers_4 ?_
  obtain ⟨y1, u2, hf⟩ := b1_e hf
  refine mV (k := (1 + 4)) (q := (2, 0)) (C := RX0) (T := TX0) (N := 10) (ci := 0) (n := 0) (As := []) (rest := []) (c_X0_countSulkers l D t b (1 + 4) σ y1 (shF_4 sh_1) u2) (shF_4 sh_1) (by decide) rfl rfl hx hb hml hown hts hE hW hS q1044 q1045 q1046 q36 q1047 hy_X0_countSulkers ⟨rfl, rfl⟩ ⟨Nat.le_of_ble_eq_true rfl, Nat.le_of_ble_eq_true rfl⟩ rfl rfl hl.1 (Nat.le_of_ble_eq_true rfl) ⟨Nat.zero_le _, Nat.zero_le _⟩ dX4_sulkers_7 (fun H locs hW hS => ?_)
  cases hf
  exact W.iret hx hb hr (fun u hu _ => ⟨⟨rfl, by rw [hu]; exact hW⟩, hS.F hu⟩) hS.2.2 dX4_sulkers_10
def l_X0_countOn_7 (c0 : Nat) : Nat → Sg → Int32 → Int32 → Int32 → Option Int32
  | 0, _, _, _, _ => none
  | n + 1, τ, x1, x2, x3 => if (τ c0 0) ≤ x3 then (some x2) else (gd x3 200 (if (τ (c0 + 5) (x3).toNatClampNeg) = x1 then (l_X0_countOn_7 c0 n τ x1 (x2 + 1) (x3 + 1)) else (l_X0_countOn_7 c0 n τ x1 x2 (x3 + 1))))
def f_X0_countOn (c0 : Nat) (σ : Sg) (p1 : Int32) : Option Int32 := l_X0_countOn_7 c0 10000 σ p1 0 (σ c0 1)
set_option maxHeartbeats 4000000 in
set_option maxRecDepth 100000 in
theorem c_X0_countOn (l : Launch) (D : va_G) (t : Nat → ClassId) (b : Nat) (c0 : Nat) (σ : Sg) (p1 : Int32) (r : Int32) (hc0 : sh c0 = (2, 0)) (hf : f_X0_countOn c0 σ p1 = some r) : Met l yX0_countOn (Cond.code yX0_countOn cX0_countOn 4 (some .int) :: ALL) ({ frames := 0, cells := 0, slots := 0, locals := 0 }) (PM D t b σ [.ref (b + c0), .int p1]) (QG D t b σ (some (.int r))) 0 0 (geA b) := by
  refine Met.ofW (cc := cX0_countOn) (maxL := 4) (ret := (some .int)) (by decide) rfl ?_
  intro p e s m args below meth c s₁ B hml hv
  obtain ⟨rfl, hW, hE⟩ := hv
  have hx := B.exec
  have hb := B.bytes
  have hr := B.returns
  have hts := atoms_spec (ws := Cond.code yX0_countOn cX0_countOn 4 (some .int) :: ALL) B.pre
  have hta := fun w h => hts w (List.mem_cons_of_mem _ h)
  have hown : s.vm.findClass RX0 = some m.cls := findClass_of_methodNamed B.named
  have hlocks := B.notSynchronized
  have hS : va_S (geA b) s.heap s.heap [] := va_S.rf
  have hl := lv_entry ([.ref (b + c0), .int p1]) (n := 4) (Nat.le_of_ble_eq_true rfl)
  rw [lg_entry_eq]
  generalize (lg_sl ([.ref (b + c0), .int p1]) ++ List.replicate (4 - (lg_sl ([.ref (b + c0), .int p1])).length) Slot.unset).toArray = ls at hl ⊢
  have hl : lv_has ls 4 [(0, .ref (b + c0)), (1, .int p1)] := hl
  unfold f_X0_countOn at hf
  refine lv_iconst (v := 0) hx hb dX0_countOn_0 (by decide) ?_
  refine lv_istore_n (lv' := [(2, .int 0), (0, .ref (b + c0)), (1, .int p1)]) hx hb dX0_countOn_1 rfl hl (by decide) rfl (fun ls hl => ?_)
  refine lv_aload_n hx hb dX0_countOn_2 rfl (lv_at hl 1 rfl) ?_
  refine getC hx hb hta hown hE.1 hW hc0 1 (by decide) q72 rfl dX0_countOn_3 ?_
  refine lv_istore_n (lv' := [(3, .int (σ c0 1)), (2, .int 0), (0, .ref (b + c0)), (1, .int p1)]) hx hb dX0_countOn_6 rfl hl (by decide) rfl (fun ls hl => ?_)
  have key_7 : ∀ (n : Nat) (τ : Sg) (x1 : Int32) (x2 : Int32) (x3 : Int32) (H : Heap) (locs : List Loc) (ls : Array Slot), l_X0_countOn_7 c0 n τ x1 x2 x3 = some r → wd D t b τ H → va_S (geA b) s.heap H locs → lv_has ls 4 [(0, .ref (b + c0)), (1, .int x1), (2, .int x2), (3, .int x3)] → W p l e (headSpec (Cond.code yX0_countOn cX0_countOn 4 (some .int) :: ALL) ({ frames := 0, cells := 0, slots := 0, locals := 0 })).room s m (([.ref (b + c0), .int p1] : List Value).toArray) below meth c H locs 0 0 (MQ below (QG D t b τ (some (.int r))) (([.ref (b + c0), .int p1] : List Value).toArray) s 0 0 (geA b)) (F0 m 7 ls []) := by
    intro n
    induction n with
    | zero =>
      intro τ x1 x2 x3 H locs ls hf
      rw [l_X0_countOn_7.eq_1] at hf
      cases hf
    | succ n ih_7 =>
      intro τ x1 x2 x3 H locs ls hf hW hS hl
      rw [l_X0_countOn_7.eq_2] at hf
      refine lv_iload_n hx hb dX0_countOn_7 rfl (lv_at hl 3 rfl) ?_
      refine lv_aload_n hx hb dX0_countOn_8 rfl (lv_at hl 0 rfl) ?_
      refine getC hx hb hta hown hE.1 hW hc0 0 (by decide) q69 rfl dX0_countOn_9 ?_
      refine lv_icmp_ge (tgt := 34) hx hb dX0_countOn_12 (by decide) (fun h1 => ?_) (fun h1 => ?_)
      · have hf := ifp h1 hf
        refine lv_iload_n hx hb dX0_countOn_34 rfl (lv_at hl 2 rfl) ?_
        cases hf
        exact W.iret hx hb hr (fun u hu _ => ⟨⟨rfl, by rw [hu]; exact hW⟩, hS.F hu⟩) hS.2.2 dX0_countOn_35
      · have hf := ifn h1 hf
        refine lv_aload_n hx hb dX0_countOn_15 rfl (lv_at hl 0 rfl) ?_
        refine getC hx hb hta hown hE.1 hW hc0 6 (by decide) q83 rfl dX0_countOn_16 ?_
        refine lv_iload_n hx hb dX0_countOn_19 rfl (lv_at hl 3 rfl) ?_
        obtain ⟨g2, hf⟩ := gd_e hf
        refine iald hx hb hE.1 hW (shC_5 hc0) g2 dX0_countOn_20 ?_
        refine lv_iload_n hx hb dX0_countOn_21 rfl (lv_at hl 1 rfl) ?_
        refine lv_icmp_ne (tgt := 28) hx hb dX0_countOn_22 (by decide) (fun h3 => ?_) (fun h3 => ?_)
        · have hf := ifn h3 hf
          refine lv_iinc (v := (x3 + 1)) (lv' := [(3, .int (x3 + 1)), (0, .ref (b + c0)), (1, .int x1), (2, .int x2)]) hx hb dX0_countOn_28 hl (k := 3) rfl (by rfl) (by decide) rfl (fun ls hl => ?_)
          refine lv_goto (tgt := 7) hx hb dX0_countOn_31 (by decide) ?_
          exact ih_7 τ x1 x2 (x3 + 1) _ _ _ hf hW hS (lv_sub hl [1, 2, 3, 0] rfl)
        · have hf := ifp h3 hf
          refine lv_iinc (v := (x2 + 1)) (lv' := [(2, .int (x2 + 1)), (0, .ref (b + c0)), (1, .int x1), (3, .int x3)]) hx hb dX0_countOn_25 hl (k := 2) rfl (by rfl) (by decide) rfl (fun ls hl => ?_)
          refine lv_iinc (v := (x3 + 1)) (lv' := [(3, .int (x3 + 1)), (2, .int (x2 + 1)), (0, .ref (b + c0)), (1, .int x1)]) hx hb dX0_countOn_28 hl (k := 3) rfl (by rfl) (by decide) rfl (fun ls hl => ?_)
          refine lv_goto (tgt := 7) hx hb dX0_countOn_31 (by decide) ?_
          exact ih_7 τ x1 (x2 + 1) (x3 + 1) _ _ _ hf hW hS (lv_sub hl [2, 3, 1, 0] rfl)
  exact key_7 10000 σ p1 0 (σ c0 1) _ _ _ hf hW hS (lv_sub hl [2, 3, 1, 0] rfl)
def f_X4_day (σ : Sg) : Option Int32 := some (σ 1 6)
set_option maxHeartbeats 4000000 in
set_option maxRecDepth 100000 in
theorem c_X4_day (l : Launch) (D : va_G) (t : Nat → ClassId) (b : Nat) (σ : Sg) (r : Int32) (hf : f_X4_day σ = some r) : Met l yX4_day (Cond.code yX4_day cX4_day 1 (some .int) :: ALL) ({ frames := 0, cells := 0, slots := 0, locals := 0 }) (PM D t b σ [.ref (b + 0)]) (QG D t b σ (some (.int r))) 0 0 (geA b) := by
  refine Met.ofW (cc := cX4_day) (maxL := 1) (ret := (some .int)) (by decide) rfl ?_
  intro p e s m args below meth c s₁ B hml hv
  obtain ⟨rfl, hW, hE⟩ := hv
  have hx := B.exec
  have hb := B.bytes
  have hr := B.returns
  have hts := atoms_spec (ws := Cond.code yX4_day cX4_day 1 (some .int) :: ALL) B.pre
  have hta := fun w h => hts w (List.mem_cons_of_mem _ h)
  have hown : s.vm.findClass RX4 = some m.cls := findClass_of_methodNamed B.named
  have hlocks := B.notSynchronized
  have hS : va_S (geA b) s.heap s.heap [] := va_S.rf
  have hl := lv_entry ([.ref (b + 0)]) (n := 1) (Nat.le_of_ble_eq_true rfl)
  rw [lg_entry_eq]
  generalize (lg_sl ([.ref (b + 0)]) ++ List.replicate (1 - (lg_sl ([.ref (b + 0)])).length) Slot.unset).toArray = ls at hl ⊢
  have hl : lv_has ls 1 [(0, .ref (b + 0))] := hl
  unfold f_X4_day at hf
  refine lv_aload_n hx hb dX4_day_0 rfl (lv_at hl 0 rfl) ?_
  refine getP hx hb hta hown hE.1 hW 0 (by decide) q274 rfl dX4_day_1 ?_
  refine getF hx hb hta hown hE.1 hW sh_1 6 (by decide) q183 rfl dX4_day_4 ?_
  cases hf
  exact W.iret hx hb hr (fun u hu _ => ⟨⟨rfl, by rw [hu]; exact hW⟩, hS.F hu⟩) hS.2.2 dX4_day_7
def f_X4_round (σ : Sg) : Option Int32 := some (σ 1 7)
set_option maxHeartbeats 4000000 in
set_option maxRecDepth 100000 in
theorem c_X4_round (l : Launch) (D : va_G) (t : Nat → ClassId) (b : Nat) (σ : Sg) (r : Int32) (hf : f_X4_round σ = some r) : Met l yX4_round (Cond.code yX4_round cX4_round 1 (some .int) :: ALL) ({ frames := 0, cells := 0, slots := 0, locals := 0 }) (PM D t b σ [.ref (b + 0)]) (QG D t b σ (some (.int r))) 0 0 (geA b) := by
  refine Met.ofW (cc := cX4_round) (maxL := 1) (ret := (some .int)) (by decide) rfl ?_
  intro p e s m args below meth c s₁ B hml hv
  obtain ⟨rfl, hW, hE⟩ := hv
  have hx := B.exec
  have hb := B.bytes
  have hr := B.returns
  have hts := atoms_spec (ws := Cond.code yX4_round cX4_round 1 (some .int) :: ALL) B.pre
  have hta := fun w h => hts w (List.mem_cons_of_mem _ h)
  have hown : s.vm.findClass RX4 = some m.cls := findClass_of_methodNamed B.named
  have hlocks := B.notSynchronized
  have hS : va_S (geA b) s.heap s.heap [] := va_S.rf
  have hl := lv_entry ([.ref (b + 0)]) (n := 1) (Nat.le_of_ble_eq_true rfl)
  rw [lg_entry_eq]
  generalize (lg_sl ([.ref (b + 0)]) ++ List.replicate (1 - (lg_sl ([.ref (b + 0)])).length) Slot.unset).toArray = ls at hl ⊢
  have hl : lv_has ls 1 [(0, .ref (b + 0))] := hl
  unfold f_X4_round at hf
  refine lv_aload_n hx hb dX4_round_0 rfl (lv_at hl 0 rfl) ?_
  refine getP hx hb hta hown hE.1 hW 0 (by decide) q274 rfl dX4_round_1 ?_
  refine getF hx hb hta hown hE.1 hW sh_1 7 (by decide) q185 rfl dX4_round_4 ?_
  cases hf
  exact W.iret hx hb hr (fun u hu _ => ⟨⟨rfl, by rw [hu]; exact hW⟩, hS.F hu⟩) hS.2.2 dX4_round_7
def f_X4_isChildDue (σ : Sg) : Option Int32 := b1 (f_X1_childComesNext 1 σ) fun y1 => gd y1 2 (some y1)
set_option maxHeartbeats 4000000 in
set_option maxRecDepth 100000 in
theorem c_X4_isChildDue (l : Launch) (D : va_G) (t : Nat → ClassId) (b : Nat) (σ : Sg) (r : Int32) (hf : f_X4_isChildDue σ = some r) : Met l yX4_isChildDue (Cond.code yX4_isChildDue cX4_isChildDue 1 (some .boolean) :: ALL) ({ frames := 3, cells := 0, slots := 0, locals := 64 }) (PM D t b σ [.ref (b + 0)]) (QG D t b σ (some (.int r))) 0 0 (geA b) := by
  refine Met.ofW (cc := cX4_isChildDue) (maxL := 1) (ret := (some .boolean)) (by decide) rfl ?_
  intro p e s m args below meth c s₁ B hml hv
  obtain ⟨rfl, hW, hE⟩ := hv
  have hx := B.exec
  have hb := B.bytes
  have hr := B.returns
  have hts := atoms_spec (ws := Cond.code yX4_isChildDue cX4_isChildDue 1 (some .boolean) :: ALL) B.pre
  have hta := fun w h => hts w (List.mem_cons_of_mem _ h)
  have hown : s.vm.findClass RX4 = some m.cls := findClass_of_methodNamed B.named
  have hlocks := B.notSynchronized
  have hS : va_S (geA b) s.heap s.heap [] := va_S.rf
  have hl := lv_entry ([.ref (b + 0)]) (n := 1) (Nat.le_of_ble_eq_true rfl)
  rw [lg_entry_eq]
  generalize (lg_sl ([.ref (b + 0)]) ++ List.replicate (1 - (lg_sl ([.ref (b + 0)])).length) Slot.unset).toArray = ls at hl ⊢
  have hl : lv_has ls 1 [(0, .ref (b + 0))] := hl
  unfold f_X4_isChildDue at hf
  refine lv_aload_n hx hb dX4_isChildDue_0 rfl (lv_at hl 0 rfl) ?_
  refine getP hx hb hta hown hE.1 hW 0 (by decide) q274 rfl dX4_isChildDue_1 ?_
  obtain ⟨y1, u2, hf⟩ := b1_e hf
  refine mV (k := 1) (q := (1, 0)) (C := RX1) (T := TX1) (N := 13) (ci := 1) (n := 0) (As := []) (rest := []) (c_X1_childComesNext l D t b 1 σ y1 sh_1 u2) sh_1 (by decide) rfl rfl hx hb hml hown hts hE hW hS q1022 q631 q632 q35 q633 hy_X1_childComesNext ⟨rfl, rfl⟩ ⟨Nat.le_of_ble_eq_true rfl, Nat.le_of_ble_eq_true rfl⟩ rfl rfl hl.1 (Nat.le_of_ble_eq_true rfl) ⟨Nat.zero_le _, Nat.zero_le _⟩ dX4_isChildDue_4 (fun H locs hW hS => ?_)
  obtain ⟨g3, hf⟩ := gd_e hf
  cases hf
  exact W.zret (ty := .boolean) hx hb hr (nar_bool g3).1 (fun u hu _ => ⟨⟨rfl, by rw [hu]; exact hW⟩, hS.F hu⟩) hS.2.2 dX4_isChildDue_7
def f_X4_bank (σ : Sg) : Option Int32 := some (σ 1 0)
set_option maxHeartbeats 4000000 in
set_option maxRecDepth 100000 in
theorem c_X4_bank (l : Launch) (D : va_G) (t : Nat → ClassId) (b : Nat) (σ : Sg) (r : Int32) (hf : f_X4_bank σ = some r) : Met l yX4_bank (Cond.code yX4_bank cX4_bank 1 (some .int) :: ALL) ({ frames := 0, cells := 0, slots := 0, locals := 0 }) (PM D t b σ [.ref (b + 0)]) (QG D t b σ (some (.int r))) 0 0 (geA b) := by
  refine Met.ofW (cc := cX4_bank) (maxL := 1) (ret := (some .int)) (by decide) rfl ?_
  intro p e s m args below meth c s₁ B hml hv
  obtain ⟨rfl, hW, hE⟩ := hv
  have hx := B.exec
  have hb := B.bytes
  have hr := B.returns
  have hts := atoms_spec (ws := Cond.code yX4_bank cX4_bank 1 (some .int) :: ALL) B.pre
  have hta := fun w h => hts w (List.mem_cons_of_mem _ h)
  have hown : s.vm.findClass RX4 = some m.cls := findClass_of_methodNamed B.named
  have hlocks := B.notSynchronized
  have hS : va_S (geA b) s.heap s.heap [] := va_S.rf
  have hl := lv_entry ([.ref (b + 0)]) (n := 1) (Nat.le_of_ble_eq_true rfl)
  rw [lg_entry_eq]
  generalize (lg_sl ([.ref (b + 0)]) ++ List.replicate (1 - (lg_sl ([.ref (b + 0)])).length) Slot.unset).toArray = ls at hl ⊢
  have hl : lv_has ls 1 [(0, .ref (b + 0))] := hl
  unfold f_X4_bank at hf
  refine lv_aload_n hx hb dX4_bank_0 rfl (lv_at hl 0 rfl) ?_
  refine getP hx hb hta hown hE.1 hW 0 (by decide) q274 rfl dX4_bank_1 ?_
  refine getF hx hb hta hown hE.1 hW sh_1 0 (by decide) q171 rfl dX4_bank_4 ?_
  cases hf
  exact W.iret hx hb hr (fun u hu _ => ⟨⟨rfl, by rw [hu]; exact hW⟩, hS.F hu⟩) hS.2.2 dX4_bank_7
def f_X4_town (σ : Sg) : Option Int32 := some (σ 1 1)
set_option maxHeartbeats 4000000 in
set_option maxRecDepth 100000 in
theorem c_X4_town (l : Launch) (D : va_G) (t : Nat → ClassId) (b : Nat) (σ : Sg) (r : Int32) (hf : f_X4_town σ = some r) : Met l yX4_town (Cond.code yX4_town cX4_town 1 (some .int) :: ALL) ({ frames := 0, cells := 0, slots := 0, locals := 0 }) (PM D t b σ [.ref (b + 0)]) (QG D t b σ (some (.int r))) 0 0 (geA b) := by
  refine Met.ofW (cc := cX4_town) (maxL := 1) (ret := (some .int)) (by decide) rfl ?_
  intro p e s m args below meth c s₁ B hml hv
  obtain ⟨rfl, hW, hE⟩ := hv
  have hx := B.exec
  have hb := B.bytes
  have hr := B.returns
  have hts := atoms_spec (ws := Cond.code yX4_town cX4_town 1 (some .int) :: ALL) B.pre
  have hta := fun w h => hts w (List.mem_cons_of_mem _ h)
  have hown : s.vm.findClass RX4 = some m.cls := findClass_of_methodNamed B.named
  have hlocks := B.notSynchronized
  have hS : va_S (geA b) s.heap s.heap [] := va_S.rf
  have hl := lv_entry ([.ref (b + 0)]) (n := 1) (Nat.le_of_ble_eq_true rfl)
  rw [lg_entry_eq]
  generalize (lg_sl ([.ref (b + 0)]) ++ List.replicate (1 - (lg_sl ([.ref (b + 0)])).length) Slot.unset).toArray = ls at hl ⊢
  have hl : lv_has ls 1 [(0, .ref (b + 0))] := hl
  unfold f_X4_town at hf
  refine lv_aload_n hx hb dX4_town_0 rfl (lv_at hl 0 rfl) ?_
  refine getP hx hb hta hown hE.1 hW 0 (by decide) q274 rfl dX4_town_1 ?_
  refine getF hx hb hta hown hE.1 hW sh_1 1 (by decide) q173 rfl dX4_town_4 ?_
  cases hf
  exact W.iret hx hb hr (fun u hu _ => ⟨⟨rfl, by rw [hu]; exact hW⟩, hS.F hu⟩) hS.2.2 dX4_town_7
def f_X4_allCoins (σ : Sg) : Option Int32 := some (500 + (σ 1 3))
set_option maxHeartbeats 4000000 in
set_option maxRecDepth 100000 in
theorem c_X4_allCoins (l : Launch) (D : va_G) (t : Nat → ClassId) (b : Nat) (σ : Sg) (r : Int32) (hf : f_X4_allCoins σ = some r) : Met l yX4_allCoins (Cond.code yX4_allCoins cX4_allCoins 1 (some .int) :: ALL) ({ frames := 0, cells := 0, slots := 0, locals := 0 }) (PM D t b σ [.ref (b + 0)]) (QG D t b σ (some (.int r))) 0 0 (geA b) := by
  refine Met.ofW (cc := cX4_allCoins) (maxL := 1) (ret := (some .int)) (by decide) rfl ?_
  intro p e s m args below meth c s₁ B hml hv
  obtain ⟨rfl, hW, hE⟩ := hv
  have hx := B.exec
  have hb := B.bytes
  have hr := B.returns
  have hts := atoms_spec (ws := Cond.code yX4_allCoins cX4_allCoins 1 (some .int) :: ALL) B.pre
  have hta := fun w h => hts w (List.mem_cons_of_mem _ h)
  have hown : s.vm.findClass RX4 = some m.cls := findClass_of_methodNamed B.named
  have hlocks := B.notSynchronized
  have hS : va_S (geA b) s.heap s.heap [] := va_S.rf
  have hl := lv_entry ([.ref (b + 0)]) (n := 1) (Nat.le_of_ble_eq_true rfl)
  rw [lg_entry_eq]
  generalize (lg_sl ([.ref (b + 0)]) ++ List.replicate (1 - (lg_sl ([.ref (b + 0)])).length) Slot.unset).toArray = ls at hl ⊢
  have hl : lv_has ls 1 [(0, .ref (b + 0))] := hl
  unfold f_X4_allCoins at hf
  refine lv_sipush (v := 500) hx hb dX4_allCoins_0 (by decide) ?_
  refine lv_aload_n hx hb dX4_allCoins_3 rfl (lv_at hl 0 rfl) ?_
  refine getP hx hb hta hown hE.1 hW 0 (by decide) q274 rfl dX4_allCoins_4 ?_
  refine getF hx hb hta hown hE.1 hW sh_1 3 (by decide) q177 rfl dX4_allCoins_7 ?_
  refine lv_iadd hx hb dX4_allCoins_10 ?_
  cases hf
  exact W.iret hx hb hr (fun u hu _ => ⟨⟨rfl, by rw [hu]; exact hW⟩, hS.F hu⟩) hS.2.2 dX4_allCoins_11
def l_X1_coinsInStalls_4 (c0 : Nat) : Nat → Sg → Int32 → Int32 → Option Int32
  | 0, _, _, _ => none
  | n + 1, τ, x1, x2 => if (τ c0 10) ≤ x2 then (some x1) else (gd x2 7 (l_X1_coinsInStalls_4 c0 n τ (x1 + (τ (sk (c0 + 3) x2) 5)) (x2 + 1)))
def f_X1_coinsInStalls (c0 : Nat) (σ : Sg) : Option Int32 := l_X1_coinsInStalls_4 c0 10000 σ 0 0
set_option maxHeartbeats 4000000 in
set_option maxRecDepth 100000 in
theorem c_X1_coinsInStalls (l : Launch) (D : va_G) (t : Nat → ClassId) (b : Nat) (c0 : Nat) (σ : Sg) (r : Int32) (hc0 : sh c0 = (1, 0)) (hf : f_X1_coinsInStalls c0 σ = some r) : Met l yX1_coinsInStalls (Cond.code yX1_coinsInStalls cX1_coinsInStalls 3 (some .int) :: ALL) ({ frames := 0, cells := 0, slots := 0, locals := 0 }) (PM D t b σ [.ref (b + c0)]) (QG D t b σ (some (.int r))) 0 0 (geA b) := by
  refine Met.ofW (cc := cX1_coinsInStalls) (maxL := 3) (ret := (some .int)) (by decide) rfl ?_
  intro p e s m args below meth c s₁ B hml hv
  obtain ⟨rfl, hW, hE⟩ := hv
  have hx := B.exec
  have hb := B.bytes
  have hr := B.returns
  have hts := atoms_spec (ws := Cond.code yX1_coinsInStalls cX1_coinsInStalls 3 (some .int) :: ALL) B.pre
  have hta := fun w h => hts w (List.mem_cons_of_mem _ h)
  have hown : s.vm.findClass RX1 = some m.cls := findClass_of_methodNamed B.named
  have hlocks := B.notSynchronized
  have hS : va_S (geA b) s.heap s.heap [] := va_S.rf
  have hl := lv_entry ([.ref (b + c0)]) (n := 3) (Nat.le_of_ble_eq_true rfl)
  rw [lg_entry_eq]
  generalize (lg_sl ([.ref (b + c0)]) ++ List.replicate (3 - (lg_sl ([.ref (b + c0)])).length) Slot.unset).toArray = ls at hl ⊢
  have hl : lv_has ls 3 [(0, .ref (b + c0))] := hl
  unfold f_X1_coinsInStalls at hf
  refine lv_iconst (v := 0) hx hb dX1_coinsInStalls_0 (by decide) ?_
  refine lv_istore_n (lv' := [(1, .int 0), (0, .ref (b + c0))]) hx hb dX1_coinsInStalls_1 rfl hl (by decide) rfl (fun ls hl => ?_)
  refine lv_iconst (v := 0) hx hb dX1_coinsInStalls_2 (by decide) ?_
  refine lv_istore_n (lv' := [(2, .int 0), (1, .int 0), (0, .ref (b + c0))]) hx hb dX1_coinsInStalls_3 rfl hl (by decide) rfl (fun ls hl => ?_)
  have key_4 : ∀ (n : Nat) (τ : Sg) (x1 : Int32) (x2 : Int32) (H : Heap) (locs : List Loc) (ls : Array Slot), l_X1_coinsInStalls_4 c0 n τ x1 x2 = some r → wd D t b τ H → va_S (geA b) s.heap H locs → lv_has ls 3 [(0, .ref (b + c0)), (1, .int x1), (2, .int x2)] → W p l e (headSpec (Cond.code yX1_coinsInStalls cX1_coinsInStalls 3 (some .int) :: ALL) ({ frames := 0, cells := 0, slots := 0, locals := 0 })).room s m (([.ref (b + c0)] : List Value).toArray) below meth c H locs 0 0 (MQ below (QG D t b τ (some (.int r))) (([.ref (b + c0)] : List Value).toArray) s 0 0 (geA b)) (F0 m 4 ls []) := by
    intro n
    induction n with
    | zero =>
      intro τ x1 x2 H locs ls hf
      rw [l_X1_coinsInStalls_4.eq_1] at hf
      cases hf
    | succ n ih_4 =>
      intro τ x1 x2 H locs ls hf hW hS hl
      rw [l_X1_coinsInStalls_4.eq_2] at hf
      refine lv_iload_n hx hb dX1_coinsInStalls_4 rfl (lv_at hl 2 rfl) ?_
      refine lv_aload_n hx hb dX1_coinsInStalls_5 rfl (lv_at hl 0 rfl) ?_
      refine getF hx hb hta hown hE.1 hW hc0 10 (by decide) q190 rfl dX1_coinsInStalls_6 ?_
      refine lv_icmp_ge (tgt := 30) hx hb dX1_coinsInStalls_9 (by decide) (fun h1 => ?_) (fun h1 => ?_)
      · have hf := ifp h1 hf
        refine lv_iload_n hx hb dX1_coinsInStalls_30 rfl (lv_at hl 1 rfl) ?_
        cases hf
        exact W.iret hx hb hr (fun u hu _ => ⟨⟨rfl, by rw [hu]; exact hW⟩, hS.F hu⟩) hS.2.2 dX1_coinsInStalls_31
      · have hf := ifn h1 hf
        refine lv_iload_n hx hb dX1_coinsInStalls_12 rfl (lv_at hl 1 rfl) ?_
        refine lv_aload_n hx hb dX1_coinsInStalls_13 rfl (lv_at hl 0 rfl) ?_
        refine getF hx hb hta hown hE.1 hW hc0 11 (by decide) q192 rfl dX1_coinsInStalls_14 ?_
        refine lv_iload_n hx hb dX1_coinsInStalls_17 rfl (lv_at hl 2 rfl) ?_
        obtain ⟨g2, hf⟩ := gd_e hf
        refine sald hx hb hE.1 hW (shF_3 hc0) g2 dX1_coinsInStalls_18 ?_
        refine getS hx hb hta hown hE.1 hW (shF_sk hc0 g2) 5 (by decide) q137 rfl dX1_coinsInStalls_19 ?_
        refine lv_iadd hx hb dX1_coinsInStalls_22 ?_
        refine lv_istore_n (lv' := [(1, .int (x1 + (τ (sk (c0 + 3) x2) 5))), (0, .ref (b + c0)), (2, .int x2)]) hx hb dX1_coinsInStalls_23 rfl hl (by decide) rfl (fun ls hl => ?_)
        refine lv_iinc (v := (x2 + 1)) (lv' := [(2, .int (x2 + 1)), (1, .int (x1 + (τ (sk (c0 + 3) x2) 5))), (0, .ref (b + c0))]) hx hb dX1_coinsInStalls_24 hl (k := 2) rfl (by rfl) (by decide) rfl (fun ls hl => ?_)
        refine lv_goto (tgt := 4) hx hb dX1_coinsInStalls_27 (by decide) ?_
        exact ih_4 τ (x1 + (τ (sk (c0 + 3) x2) 5)) (x2 + 1) _ _ _ hf hW hS (lv_sub hl [2, 1, 0] rfl)
  exact key_4 10000 σ 0 0 _ _ _ hf hW hS (lv_sub hl [2, 1, 0] rfl)
def l_X0_coinsInPurses_4 (c0 : Nat) : Nat → Sg → Int32 → Int32 → Option Int32
  | 0, _, _, _ => none
  | n + 1, τ, x1, x2 => if (τ c0 0) ≤ x2 then (some x1) else (gd x2 200 (l_X0_coinsInPurses_4 c0 n τ (x1 + (τ (c0 + 1) (x2).toNatClampNeg)) (x2 + 1)))
def f_X0_coinsInPurses (c0 : Nat) (σ : Sg) : Option Int32 := l_X0_coinsInPurses_4 c0 10000 σ 0 0
set_option maxHeartbeats 4000000 in
set_option maxRecDepth 100000 in
theorem c_X0_coinsInPurses (l : Launch) (D : va_G) (t : Nat → ClassId) (b : Nat) (c0 : Nat) (σ : Sg) (r : Int32) (hc0 : sh c0 = (2, 0)) (hf : f_X0_coinsInPurses c0 σ = some r) : Met l yX0_coinsInPurses (Cond.code yX0_coinsInPurses cX0_coinsInPurses 3 (some .int) :: ALL) ({ frames := 0, cells := 0, slots := 0, locals := 0 }) (PM D t b σ [.ref (b + c0)]) (QG D t b σ (some (.int r))) 0 0 (geA b) := by
  refine Met.ofW (cc := cX0_coinsInPurses) (maxL := 3) (ret := (some .int)) (by decide) rfl ?_
  intro p e s m args below meth c s₁ B hml hv
  obtain ⟨rfl, hW, hE⟩ := hv
  have hx := B.exec
  have hb := B.bytes
  have hr := B.returns
  have hts := atoms_spec (ws := Cond.code yX0_coinsInPurses cX0_coinsInPurses 3 (some .int) :: ALL) B.pre
  have hta := fun w h => hts w (List.mem_cons_of_mem _ h)
  have hown : s.vm.findClass RX0 = some m.cls := findClass_of_methodNamed B.named
  have hlocks := B.notSynchronized
  have hS : va_S (geA b) s.heap s.heap [] := va_S.rf
  have hl := lv_entry ([.ref (b + c0)]) (n := 3) (Nat.le_of_ble_eq_true rfl)
  rw [lg_entry_eq]
  generalize (lg_sl ([.ref (b + c0)]) ++ List.replicate (3 - (lg_sl ([.ref (b + c0)])).length) Slot.unset).toArray = ls at hl ⊢
  have hl : lv_has ls 3 [(0, .ref (b + c0))] := hl
  unfold f_X0_coinsInPurses at hf
  refine lv_iconst (v := 0) hx hb dX0_coinsInPurses_0 (by decide) ?_
  refine lv_istore_n (lv' := [(1, .int 0), (0, .ref (b + c0))]) hx hb dX0_coinsInPurses_1 rfl hl (by decide) rfl (fun ls hl => ?_)
  refine lv_iconst (v := 0) hx hb dX0_coinsInPurses_2 (by decide) ?_
  refine lv_istore_n (lv' := [(2, .int 0), (1, .int 0), (0, .ref (b + c0))]) hx hb dX0_coinsInPurses_3 rfl hl (by decide) rfl (fun ls hl => ?_)
  have key_4 : ∀ (n : Nat) (τ : Sg) (x1 : Int32) (x2 : Int32) (H : Heap) (locs : List Loc) (ls : Array Slot), l_X0_coinsInPurses_4 c0 n τ x1 x2 = some r → wd D t b τ H → va_S (geA b) s.heap H locs → lv_has ls 3 [(0, .ref (b + c0)), (1, .int x1), (2, .int x2)] → W p l e (headSpec (Cond.code yX0_coinsInPurses cX0_coinsInPurses 3 (some .int) :: ALL) ({ frames := 0, cells := 0, slots := 0, locals := 0 })).room s m (([.ref (b + c0)] : List Value).toArray) below meth c H locs 0 0 (MQ below (QG D t b τ (some (.int r))) (([.ref (b + c0)] : List Value).toArray) s 0 0 (geA b)) (F0 m 4 ls []) := by
    intro n
    induction n with
    | zero =>
      intro τ x1 x2 H locs ls hf
      rw [l_X0_coinsInPurses_4.eq_1] at hf
      cases hf
    | succ n ih_4 =>
      intro τ x1 x2 H locs ls hf hW hS hl
      rw [l_X0_coinsInPurses_4.eq_2] at hf
      refine lv_iload_n hx hb dX0_coinsInPurses_4 rfl (lv_at hl 2 rfl) ?_
      refine lv_aload_n hx hb dX0_coinsInPurses_5 rfl (lv_at hl 0 rfl) ?_
      refine getC hx hb hta hown hE.1 hW hc0 0 (by decide) q69 rfl dX0_coinsInPurses_6 ?_
      refine lv_icmp_ge (tgt := 27) hx hb dX0_coinsInPurses_9 (by decide) (fun h1 => ?_) (fun h1 => ?_)
      · have hf := ifp h1 hf
        refine lv_iload_n hx hb dX0_coinsInPurses_27 rfl (lv_at hl 1 rfl) ?_
        cases hf
        exact W.iret hx hb hr (fun u hu _ => ⟨⟨rfl, by rw [hu]; exact hW⟩, hS.F hu⟩) hS.2.2 dX0_coinsInPurses_28
      · have hf := ifn h1 hf
        refine lv_iload_n hx hb dX0_coinsInPurses_12 rfl (lv_at hl 1 rfl) ?_
        refine lv_aload_n hx hb dX0_coinsInPurses_13 rfl (lv_at hl 0 rfl) ?_
        refine getC hx hb hta hown hE.1 hW hc0 2 (by decide) q74 rfl dX0_coinsInPurses_14 ?_
        refine lv_iload_n hx hb dX0_coinsInPurses_17 rfl (lv_at hl 2 rfl) ?_
        obtain ⟨g2, hf⟩ := gd_e hf
        refine iald hx hb hE.1 hW (shC_1 hc0) g2 dX0_coinsInPurses_18 ?_
        refine lv_iadd hx hb dX0_coinsInPurses_19 ?_
        refine lv_istore_n (lv' := [(1, .int (x1 + (τ (c0 + 1) (x2).toNatClampNeg))), (0, .ref (b + c0)), (2, .int x2)]) hx hb dX0_coinsInPurses_20 rfl hl (by decide) rfl (fun ls hl => ?_)
        refine lv_iinc (v := (x2 + 1)) (lv' := [(2, .int (x2 + 1)), (1, .int (x1 + (τ (c0 + 1) (x2).toNatClampNeg))), (0, .ref (b + c0))]) hx hb dX0_coinsInPurses_21 hl (k := 2) rfl (by rfl) (by decide) rfl (fun ls hl => ?_)
        refine lv_goto (tgt := 4) hx hb dX0_coinsInPurses_24 (by decide) ?_
        exact ih_4 τ (x1 + (τ (c0 + 1) (x2).toNatClampNeg)) (x2 + 1) _ _ _ hf hW hS (lv_sub hl [2, 1, 0] rfl)
  exact key_4 10000 σ 0 0 _ _ _ hf hW hS (lv_sub hl [2, 1, 0] rfl)
def f_X4_coinsByPlaces (σ : Sg) : Option Int32 := b1 (f_X1_coinsInStalls 1 σ) fun y1 => b1 (f_X0_coinsInPurses (1 + 4) σ) fun y3 => some (((((σ 1 0) + y1) + y3) + (σ 1 1)) + (σ 1 2))
set_option maxHeartbeats 4000000 in
set_option maxRecDepth 100000 in
theorem c_X4_coinsByPlaces (l : Launch) (D : va_G) (t : Nat → ClassId) (b : Nat) (σ : Sg) (r : Int32) (hf : f_X4_coinsByPlaces σ = some r) : Met l yX4_coinsByPlaces (Cond.code yX4_coinsByPlaces cX4_coinsByPlaces 1 (some .int) :: ALL) ({ frames := 1, cells := 0, slots := 0, locals := 22 }) (PM D t b σ [.ref (b + 0)]) (QG D t b σ (some (.int r))) 0 0 (geA b) := by
  refine Met.ofW (cc := cX4_coinsByPlaces) (maxL := 1) (ret := (some .int)) (by decide) rfl ?_
  intro p e s m args below meth c s₁ B hml hv
  obtain ⟨rfl, hW, hE⟩ := hv
  have hx := B.exec
  have hb := B.bytes
  have hr := B.returns
  have hts := atoms_spec (ws := Cond.code yX4_coinsByPlaces cX4_coinsByPlaces 1 (some .int) :: ALL) B.pre
  have hta := fun w h => hts w (List.mem_cons_of_mem _ h)
  have hown : s.vm.findClass RX4 = some m.cls := findClass_of_methodNamed B.named
  have hlocks := B.notSynchronized
  have hS : va_S (geA b) s.heap s.heap [] := va_S.rf
  have hl := lv_entry ([.ref (b + 0)]) (n := 1) (Nat.le_of_ble_eq_true rfl)
  rw [lg_entry_eq]
  generalize (lg_sl ([.ref (b + 0)]) ++ List.replicate (1 - (lg_sl ([.ref (b + 0)])).length) Slot.unset).toArray = ls at hl ⊢
  have hl : lv_has ls 1 [(0, .ref (b + 0))] := hl
  unfold f_X4_coinsByPlaces at hf
  refine lv_aload_n hx hb dX4_coinsByPlaces_0 rfl (lv_at hl 0 rfl) ?_
  refine getP hx hb hta hown hE.1 hW 0 (by decide) q274 rfl dX4_coinsByPlaces_1 ?_
  refine getF hx hb hta hown hE.1 hW sh_1 0 (by decide) q171 rfl dX4_coinsByPlaces_4 ?_
  refine lv_aload_n hx hb dX4_coinsByPlaces_7 rfl (lv_at hl 0 rfl) ?_
  refine getP hx hb hta hown hE.1 hW 0 (by decide) q274 rfl dX4_coinsByPlaces_8 ?_
  obtain ⟨y1, u2, hf⟩ := b1_e hf
  refine mV (k := 1) (q := (1, 0)) (C := RX1) (T := TX1) (N := 13) (ci := 1) (n := 0) (As := []) (rest := [.int (σ 1 0)]) (c_X1_coinsInStalls l D t b 1 σ y1 sh_1 u2) sh_1 (by decide) rfl rfl hx hb hml hown hts hE hW hS q1002 q1003 q1004 q35 q1005 hy_X1_coinsInStalls ⟨rfl, rfl⟩ ⟨Nat.le_of_ble_eq_true rfl, Nat.le_of_ble_eq_true rfl⟩ rfl rfl hl.1 (Nat.le_of_ble_eq_true rfl) ⟨Nat.zero_le _, Nat.zero_le _⟩ dX4_coinsByPlaces_11 (fun H locs hW hS => ?_)
  refine lv_iadd hx hb dX4_coinsByPlaces_14 ?_
  refine lv_aload_n hx hb dX4_coinsByPlaces_15 rfl (lv_at hl 0 rfl) ?_
  refine getP hx hb hta hown hE.1 hW 0 (by decide) q274 rfl dX4_coinsByPlaces_16 ?_
  refine getF hx hb hta hown hE.1 hW sh_1 12 (by decide) q195 rfl dX4_coinsByPlaces_19 ?_
  obtain ⟨y3, u4, hf⟩ := b1_e hf
  refine mV (k := (1 + 4)) (q := (2, 0)) (C := RX0) (T := TX0) (N := 10) (ci := 0) (n := 0) (As := []) (rest := [.int ((σ 1 0) + y1)]) (c_X0_coinsInPurses l D t b (1 + 4) σ y3 (shF_4 sh_1) u4) (shF_4 sh_1) (by decide) rfl rfl hx hb hml hown hts hE hW hS q1006 q1007 q1008 q36 q1009 hy_X0_coinsInPurses ⟨rfl, rfl⟩ ⟨Nat.le_of_ble_eq_true rfl, Nat.le_of_ble_eq_true rfl⟩ rfl rfl hl.1 (Nat.le_of_ble_eq_true rfl) ⟨Nat.zero_le _, Nat.zero_le _⟩ dX4_coinsByPlaces_22 (fun H locs hW hS => ?_)
  refine lv_iadd hx hb dX4_coinsByPlaces_25 ?_
  refine lv_aload_n hx hb dX4_coinsByPlaces_26 rfl (lv_at hl 0 rfl) ?_
  refine getP hx hb hta hown hE.1 hW 0 (by decide) q274 rfl dX4_coinsByPlaces_27 ?_
  refine getF hx hb hta hown hE.1 hW sh_1 1 (by decide) q173 rfl dX4_coinsByPlaces_30 ?_
  refine lv_iadd hx hb dX4_coinsByPlaces_33 ?_
  refine lv_aload_n hx hb dX4_coinsByPlaces_34 rfl (lv_at hl 0 rfl) ?_
  refine getP hx hb hta hown hE.1 hW 0 (by decide) q274 rfl dX4_coinsByPlaces_35 ?_
  refine getF hx hb hta hown hE.1 hW sh_1 2 (by decide) q175 rfl dX4_coinsByPlaces_38 ?_
  refine lv_iadd hx hb dX4_coinsByPlaces_41 ?_
  cases hf
  exact W.iret hx hb hr (fun u hu _ => ⟨⟨rfl, by rw [hu]; exact hW⟩, hS.F hu⟩) hS.2.2 dX4_coinsByPlaces_42
def f_X4_takings (σ : Sg) : Option Int32 := some (σ 1 4)
set_option maxHeartbeats 4000000 in
set_option maxRecDepth 100000 in
theorem c_X4_takings (l : Launch) (D : va_G) (t : Nat → ClassId) (b : Nat) (σ : Sg) (r : Int32) (hf : f_X4_takings σ = some r) : Met l yX4_takings (Cond.code yX4_takings cX4_takings 1 (some .int) :: ALL) ({ frames := 0, cells := 0, slots := 0, locals := 0 }) (PM D t b σ [.ref (b + 0)]) (QG D t b σ (some (.int r))) 0 0 (geA b) := by
  refine Met.ofW (cc := cX4_takings) (maxL := 1) (ret := (some .int)) (by decide) rfl ?_
  intro p e s m args below meth c s₁ B hml hv
  obtain ⟨rfl, hW, hE⟩ := hv
  have hx := B.exec
  have hb := B.bytes
  have hr := B.returns
  have hts := atoms_spec (ws := Cond.code yX4_takings cX4_takings 1 (some .int) :: ALL) B.pre
  have hta := fun w h => hts w (List.mem_cons_of_mem _ h)
  have hown : s.vm.findClass RX4 = some m.cls := findClass_of_methodNamed B.named
  have hlocks := B.notSynchronized
  have hS : va_S (geA b) s.heap s.heap [] := va_S.rf
  have hl := lv_entry ([.ref (b + 0)]) (n := 1) (Nat.le_of_ble_eq_true rfl)
  rw [lg_entry_eq]
  generalize (lg_sl ([.ref (b + 0)]) ++ List.replicate (1 - (lg_sl ([.ref (b + 0)])).length) Slot.unset).toArray = ls at hl ⊢
  have hl : lv_has ls 1 [(0, .ref (b + 0))] := hl
  unfold f_X4_takings at hf
  refine lv_aload_n hx hb dX4_takings_0 rfl (lv_at hl 0 rfl) ?_
  refine getP hx hb hta hown hE.1 hW 0 (by decide) q274 rfl dX4_takings_1 ?_
  refine getF hx hb hta hown hE.1 hW sh_1 4 (by decide) q179 rfl dX4_takings_4 ?_
  cases hf
  exact W.iret hx hb hr (fun u hu _ => ⟨⟨rfl, by rw [hu]; exact hW⟩, hS.F hu⟩) hS.2.2 dX4_takings_7
def f_X4_takingsByChildren (σ : Sg) : Option Int32 := b1 (f_X0_coinsInPurses (1 + 4) σ) fun y1 => some ((σ 1 3) - y1)
set_option maxHeartbeats 4000000 in
set_option maxRecDepth 100000 in
theorem c_X4_takingsByChildren (l : Launch) (D : va_G) (t : Nat → ClassId) (b : Nat) (σ : Sg) (r : Int32) (hf : f_X4_takingsByChildren σ = some r) : Met l yX4_takingsByChildren (Cond.code yX4_takingsByChildren cX4_takingsByChildren 1 (some .int) :: ALL) ({ frames := 1, cells := 0, slots := 0, locals := 22 }) (PM D t b σ [.ref (b + 0)]) (QG D t b σ (some (.int r))) 0 0 (geA b) := by
  refine Met.ofW (cc := cX4_takingsByChildren) (maxL := 1) (ret := (some .int)) (by decide) rfl ?_
  intro p e s m args below meth c s₁ B hml hv
  obtain ⟨rfl, hW, hE⟩ := hv
  have hx := B.exec
  have hb := B.bytes
  have hr := B.returns
  have hts := atoms_spec (ws := Cond.code yX4_takingsByChildren cX4_takingsByChildren 1 (some .int) :: ALL) B.pre
  have hta := fun w h => hts w (List.mem_cons_of_mem _ h)
  have hown : s.vm.findClass RX4 = some m.cls := findClass_of_methodNamed B.named
  have hlocks := B.notSynchronized
  have hS : va_S (geA b) s.heap s.heap [] := va_S.rf
  have hl := lv_entry ([.ref (b + 0)]) (n := 1) (Nat.le_of_ble_eq_true rfl)
  rw [lg_entry_eq]
  generalize (lg_sl ([.ref (b + 0)]) ++ List.replicate (1 - (lg_sl ([.ref (b + 0)])).length) Slot.unset).toArray = ls at hl ⊢
  have hl : lv_has ls 1 [(0, .ref (b + 0))] := hl
  unfold f_X4_takingsByChildren at hf
  refine lv_aload_n hx hb dX4_takingsByChildren_0 rfl (lv_at hl 0 rfl) ?_
  refine getP hx hb hta hown hE.1 hW 0 (by decide) q274 rfl dX4_takingsByChildren_1 ?_
  refine getF hx hb hta hown hE.1 hW sh_1 3 (by decide) q177 rfl dX4_takingsByChildren_4 ?_
  refine lv_aload_n hx hb dX4_takingsByChildren_7 rfl (lv_at hl 0 rfl) ?_
  refine getP hx hb hta hown hE.1 hW 0 (by decide) q274 rfl dX4_takingsByChildren_8 ?_
  refine getF hx hb hta hown hE.1 hW sh_1 12 (by decide) q195 rfl dX4_takingsByChildren_11 ?_
  obtain ⟨y1, u2, hf⟩ := b1_e hf
  refine mV (k := (1 + 4)) (q := (2, 0)) (C := RX0) (T := TX0) (N := 10) (ci := 0) (n := 0) (As := []) (rest := [.int (σ 1 3)]) (c_X0_coinsInPurses l D t b (1 + 4) σ y1 (shF_4 sh_1) u2) (shF_4 sh_1) (by decide) rfl rfl hx hb hml hown hts hE hW hS q1006 q1007 q1008 q36 q1009 hy_X0_coinsInPurses ⟨rfl, rfl⟩ ⟨Nat.le_of_ble_eq_true rfl, Nat.le_of_ble_eq_true rfl⟩ rfl rfl hl.1 (Nat.le_of_ble_eq_true rfl) ⟨Nat.zero_le _, Nat.zero_le _⟩ dX4_takingsByChildren_14 (fun H locs hW hS => ?_)
  refine lv_isub hx hb dX4_takingsByChildren_17 ?_
  cases hf
  exact W.iret hx hb hr (fun u hu _ => ⟨⟨rfl, by rw [hu]; exact hW⟩, hS.F hu⟩) hS.2.2 dX4_takingsByChildren_18
def f_X4_plays (σ : Sg) : Option Int32 := some (σ 1 5)
set_option maxHeartbeats 4000000 in
set_option maxRecDepth 100000 in
theorem c_X4_plays (l : Launch) (D : va_G) (t : Nat → ClassId) (b : Nat) (σ : Sg) (r : Int32) (hf : f_X4_plays σ = some r) : Met l yX4_plays (Cond.code yX4_plays cX4_plays 1 (some .int) :: ALL) ({ frames := 0, cells := 0, slots := 0, locals := 0 }) (PM D t b σ [.ref (b + 0)]) (QG D t b σ (some (.int r))) 0 0 (geA b) := by
  refine Met.ofW (cc := cX4_plays) (maxL := 1) (ret := (some .int)) (by decide) rfl ?_
  intro p e s m args below meth c s₁ B hml hv
  obtain ⟨rfl, hW, hE⟩ := hv
  have hx := B.exec
  have hb := B.bytes
  have hr := B.returns
  have hts := atoms_spec (ws := Cond.code yX4_plays cX4_plays 1 (some .int) :: ALL) B.pre
  have hta := fun w h => hts w (List.mem_cons_of_mem _ h)
  have hown : s.vm.findClass RX4 = some m.cls := findClass_of_methodNamed B.named
  have hlocks := B.notSynchronized
  have hS : va_S (geA b) s.heap s.heap [] := va_S.rf
  have hl := lv_entry ([.ref (b + 0)]) (n := 1) (Nat.le_of_ble_eq_true rfl)
  rw [lg_entry_eq]
  generalize (lg_sl ([.ref (b + 0)]) ++ List.replicate (1 - (lg_sl ([.ref (b + 0)])).length) Slot.unset).toArray = ls at hl ⊢
  have hl : lv_has ls 1 [(0, .ref (b + 0))] := hl
  unfold f_X4_plays at hf
  refine lv_aload_n hx hb dX4_plays_0 rfl (lv_at hl 0 rfl) ?_
  refine getP hx hb hta hown hE.1 hW 0 (by decide) q274 rfl dX4_plays_1 ?_
  refine getF hx hb hta hown hE.1 hW sh_1 5 (by decide) q181 rfl dX4_plays_4 ?_
  cases hf
  exact W.iret hx hb hr (fun u hu _ => ⟨⟨rfl, by rw [hu]; exact hW⟩, hS.F hu⟩) hS.2.2 dX4_plays_7
def f_X4_takingsToday (σ : Sg) : Option (Int32 × Sg) := b1 (f_X1_copyFrom 28 1 σ) fun σ3 => b1 (f_X1_letPass 28 σ3 (40 - (σ3 1 7))) fun σ6 => some (((σ6 28 4) - (σ6 1 4)), σ6)
set_option maxHeartbeats 4000000 in
set_option maxRecDepth 100000 in
theorem c_X4_takingsToday (l : Launch) (D : va_G) (t : Nat → ClassId) (b : Nat) (σ : Sg) (r : Int32) (σr : Sg) (hf : f_X4_takingsToday σ = some (r, σr)) : Met l yX4_takingsToday (Cond.code yX4_takingsToday cX4_takingsToday 1 (some .int) :: ALL) ({ frames := 4, cells := 0, slots := 0, locals := 103 }) (PM D t b σ [.ref (b + 0)]) (QG D t b σr (some (.int r))) 0 0 (geA b) := by
  refine Met.ofW (cc := cX4_takingsToday) (maxL := 1) (ret := (some .int)) (by decide) rfl ?_
  intro p e s m args below meth c s₁ B hml hv
  obtain ⟨rfl, hW, hE⟩ := hv
  have hx := B.exec
  have hb := B.bytes
  have hr := B.returns
  have hts := atoms_spec (ws := Cond.code yX4_takingsToday cX4_takingsToday 1 (some .int) :: ALL) B.pre
  have hta := fun w h => hts w (List.mem_cons_of_mem _ h)
  have hown : s.vm.findClass RX4 = some m.cls := findClass_of_methodNamed B.named
  have hlocks := B.notSynchronized
  have hS : va_S (geA b) s.heap s.heap [] := va_S.rf
  have hl := lv_entry ([.ref (b + 0)]) (n := 1) (Nat.le_of_ble_eq_true rfl)
  rw [lg_entry_eq]
  generalize (lg_sl ([.ref (b + 0)]) ++ List.replicate (1 - (lg_sl ([.ref (b + 0)])).length) Slot.unset).toArray = ls at hl ⊢
  have hl : lv_has ls 1 [(0, .ref (b + 0))] := hl
  unfold f_X4_takingsToday at hf
  refine lv_aload_n hx hb dX4_takingsToday_0 rfl (lv_at hl 0 rfl) ?_
  refine getP hx hb hta hown hE.1 hW 1 (by decide) q275 rfl dX4_takingsToday_1 ?_
  refine lv_aload_n hx hb dX4_takingsToday_4 rfl (lv_at hl 0 rfl) ?_
  refine getP hx hb hta hown hE.1 hW 0 (by decide) q274 rfl dX4_takingsToday_5 ?_
  obtain ⟨σ3, u2, hf⟩ := b1_e hf
  refine mV (k := 28) (q := (1, 0)) (C := RX1) (T := TX1) (N := 13) (ci := 1) (n := 1) (As := [.ref (b + 1)]) (rest := []) (c_X1_copyFrom l D t b 28 1 σ σ3 sh_28 sh_1 u2) sh_28 (by decide) rfl rfl hx hb hml hown hts hE hW hS q431 q432 q433 q35 q434 hy_X1_copyFrom ⟨rfl, rfl⟩ ⟨Nat.le_of_ble_eq_true rfl, Nat.le_of_ble_eq_true rfl⟩ rfl rfl hl.1 (Nat.le_of_ble_eq_true rfl) ⟨Nat.zero_le _, Nat.zero_le _⟩ dX4_takingsToday_8 (fun H locs hW hS => ?_)
  refine lv_aload_n hx hb dX4_takingsToday_11 rfl (lv_at hl 0 rfl) ?_
  refine getP hx hb hta hown hE.1 hW 1 (by decide) q275 rfl dX4_takingsToday_12 ?_
  refine lv_bipush (v := 40) hx hb dX4_takingsToday_15 (by decide) ?_
  refine lv_aload_n hx hb dX4_takingsToday_17 rfl (lv_at hl 0 rfl) ?_
  refine getP hx hb hta hown hE.1 hW 0 (by decide) q274 rfl dX4_takingsToday_18 ?_
  refine getF hx hb hta hown hE.1 hW sh_1 7 (by decide) q185 rfl dX4_takingsToday_21 ?_
  refine lv_isub hx hb dX4_takingsToday_24 ?_
  obtain ⟨σ6, u5, hf⟩ := b1_e hf
  refine mV (k := 28) (q := (1, 0)) (C := RX1) (T := TX1) (N := 13) (ci := 1) (n := 1) (As := [.int (40 - (σ3 1 7))]) (rest := []) (c_X1_letPass l D t b 28 σ3 (40 - (σ3 1 7)) σ6 sh_28 u5) sh_28 (by decide) rfl rfl hx hb hml hown hts hE hW hS q626 q627 q628 q35 q629 hy_X1_letPass ⟨rfl, rfl⟩ ⟨Nat.le_of_ble_eq_true rfl, Nat.le_of_ble_eq_true rfl⟩ rfl rfl hl.1 (Nat.le_of_ble_eq_true rfl) ⟨Nat.zero_le _, Nat.zero_le _⟩ dX4_takingsToday_25 (fun H locs hW hS => ?_)
  refine lv_aload_n hx hb dX4_takingsToday_28 rfl (lv_at hl 0 rfl) ?_
  refine getP hx hb hta hown hE.1 hW 1 (by decide) q275 rfl dX4_takingsToday_29 ?_
  refine getF hx hb hta hown hE.1 hW sh_28 4 (by decide) q179 rfl dX4_takingsToday_32 ?_
  refine lv_aload_n hx hb dX4_takingsToday_35 rfl (lv_at hl 0 rfl) ?_
  refine getP hx hb hta hown hE.1 hW 0 (by decide) q274 rfl dX4_takingsToday_36 ?_
  refine getF hx hb hta hown hE.1 hW sh_1 4 (by decide) q179 rfl dX4_takingsToday_39 ?_
  refine lv_isub hx hb dX4_takingsToday_42 ?_
  cases hf
  exact W.iret hx hb hr (fun u hu _ => ⟨⟨rfl, by rw [hu]; exact hW⟩, hS.F hu⟩) hS.2.2 dX4_takingsToday_43
def f_X4_coinsOfNewStall (σ : Sg) (p1 : Int32) (p2 : Int32) (p3 : Int32) : Option (Int32 × Sg) := b1 (f_X1_copyFrom 28 1 σ) fun σ3 => b2 (f_X1_addStall 28 σ3 p1 p2 p3 0) fun y4 σ6 => b1 (f_X1_letPass 28 σ6 (40 - (σ6 1 7))) fun σ9 => gd y4 7 (some (((σ9 (sk (28 + 3) y4) 6) * p3), σ9))
set_option maxHeartbeats 4000000 in
set_option maxRecDepth 100000 in
theorem c_X4_coinsOfNewStall (l : Launch) (D : va_G) (t : Nat → ClassId) (b : Nat) (σ : Sg) (p1 : Int32) (p2 : Int32) (p3 : Int32) (r : Int32) (σr : Sg) (hf : f_X4_coinsOfNewStall σ p1 p2 p3 = some (r, σr)) : Met l yX4_coinsOfNewStall (Cond.code yX4_coinsOfNewStall cX4_coinsOfNewStall 5 (some .int) :: ALL) ({ frames := 4, cells := 0, slots := 0, locals := 103 }) (PM D t b σ [.ref (b + 0), .int p1, .int p2, .int p3]) (QG D t b σr (some (.int r))) 0 0 (geA b) := by
  refine Met.ofW (cc := cX4_coinsOfNewStall) (maxL := 5) (ret := (some .int)) (by decide) rfl ?_
  intro p e s m args below meth c s₁ B hml hv
  obtain ⟨rfl, hW, hE⟩ := hv
  have hx := B.exec
  have hb := B.bytes
  have hr := B.returns
  have hts := atoms_spec (ws := Cond.code yX4_coinsOfNewStall cX4_coinsOfNewStall 5 (some .int) :: ALL) B.pre
  have hta := fun w h => hts w (List.mem_cons_of_mem _ h)
  have hown : s.vm.findClass RX4 = some m.cls := findClass_of_methodNamed B.named
  have hlocks := B.notSynchronized
  have hS : va_S (geA b) s.heap s.heap [] := va_S.rf
  have hl := lv_entry ([.ref (b + 0), .int p1, .int p2, .int p3]) (n := 5) (Nat.le_of_ble_eq_true rfl)
  rw [lg_entry_eq]
  generalize (lg_sl ([.ref (b + 0), .int p1, .int p2, .int p3]) ++ List.replicate (5 - (lg_sl ([.ref (b + 0), .int p1, .int p2, .int p3])).length) Slot.unset).toArray = ls at hl ⊢
  have hl : lv_has ls 5 [(0, .ref (b + 0)), (1, .int p1), (2, .int p2), (3, .int p3)] := hl
  unfold f_X4_coinsOfNewStall at hf
  refine lv_aload_n hx hb dX4_coinsOfNewStall_0 rfl (lv_at hl 0 rfl) ?_
  refine getP hx hb hta hown hE.1 hW 1 (by decide) q275 rfl dX4_coinsOfNewStall_1 ?_
  refine lv_aload_n hx hb dX4_coinsOfNewStall_4 rfl (lv_at hl 0 rfl) ?_
  refine getP hx hb hta hown hE.1 hW 0 (by decide) q274 rfl dX4_coinsOfNewStall_5 ?_
  obtain ⟨σ3, u2, hf⟩ := b1_e hf
  refine mV (k := 28) (q := (1, 0)) (C := RX1) (T := TX1) (N := 13) (ci := 1) (n := 1) (As := [.ref (b + 1)]) (rest := []) (c_X1_copyFrom l D t b 28 1 σ σ3 sh_28 sh_1 u2) sh_28 (by decide) rfl rfl hx hb hml hown hts hE hW hS q431 q432 q433 q35 q434 hy_X1_copyFrom ⟨rfl, rfl⟩ ⟨Nat.le_of_ble_eq_true rfl, Nat.le_of_ble_eq_true rfl⟩ rfl rfl hl.1 (Nat.le_of_ble_eq_true rfl) ⟨Nat.zero_le _, Nat.zero_le _⟩ dX4_coinsOfNewStall_8 (fun H locs hW hS => ?_)
  refine lv_aload_n hx hb dX4_coinsOfNewStall_11 rfl (lv_at hl 0 rfl) ?_
  refine getP hx hb hta hown hE.1 hW 1 (by decide) q275 rfl dX4_coinsOfNewStall_12 ?_
  refine lv_iload_n hx hb dX4_coinsOfNewStall_15 rfl (lv_at hl 1 rfl) ?_
  refine lv_iload_n hx hb dX4_coinsOfNewStall_16 rfl (lv_at hl 2 rfl) ?_
  refine lv_iload_n hx hb dX4_coinsOfNewStall_17 rfl (lv_at hl 3 rfl) ?_
  refine lv_iconst (v := 0) hx hb dX4_coinsOfNewStall_18 (by decide) ?_
  obtain ⟨y4, σ6, u5, hf⟩ := b2_e hf
  refine mV (k := 28) (q := (1, 0)) (C := RX1) (T := TX1) (N := 13) (ci := 1) (n := 4) (As := [.int p1, .int p2, .int p3, .int 0]) (rest := []) (c_X1_addStall l D t b 28 σ3 p1 p2 p3 0 y4 σ6 sh_28 u5) sh_28 (by decide) rfl rfl hx hb hml hown hts hE hW hS q838 q453 q454 q35 q455 hy_X1_addStall ⟨rfl, rfl⟩ ⟨Nat.le_of_ble_eq_true rfl, Nat.le_of_ble_eq_true rfl⟩ rfl rfl hl.1 (Nat.le_of_ble_eq_true rfl) ⟨Nat.zero_le _, Nat.zero_le _⟩ dX4_coinsOfNewStall_19 (fun H locs hW hS => ?_)
  refine lv_istore (lv' := [(4, .int y4), (0, .ref (b + 0)), (1, .int p1), (2, .int p2), (3, .int p3)]) hx hb dX4_coinsOfNewStall_22 hl (by decide) rfl (fun ls hl => ?_)
  refine lv_aload_n hx hb dX4_coinsOfNewStall_24 rfl (lv_at hl 1 rfl) ?_
  refine getP hx hb hta hown hE.1 hW 1 (by decide) q275 rfl dX4_coinsOfNewStall_25 ?_
  refine lv_bipush (v := 40) hx hb dX4_coinsOfNewStall_28 (by decide) ?_
  refine lv_aload_n hx hb dX4_coinsOfNewStall_30 rfl (lv_at hl 1 rfl) ?_
  refine getP hx hb hta hown hE.1 hW 0 (by decide) q274 rfl dX4_coinsOfNewStall_31 ?_
  refine getF hx hb hta hown hE.1 hW sh_1 7 (by decide) q185 rfl dX4_coinsOfNewStall_34 ?_
  refine lv_isub hx hb dX4_coinsOfNewStall_37 ?_
  obtain ⟨σ9, u8, hf⟩ := b1_e hf
  refine mV (k := 28) (q := (1, 0)) (C := RX1) (T := TX1) (N := 13) (ci := 1) (n := 1) (As := [.int (40 - (σ6 1 7))]) (rest := []) (c_X1_letPass l D t b 28 σ6 (40 - (σ6 1 7)) σ9 sh_28 u8) sh_28 (by decide) rfl rfl hx hb hml hown hts hE hW hS q626 q627 q628 q35 q629 hy_X1_letPass ⟨rfl, rfl⟩ ⟨Nat.le_of_ble_eq_true rfl, Nat.le_of_ble_eq_true rfl⟩ rfl rfl hl.1 (Nat.le_of_ble_eq_true rfl) ⟨Nat.zero_le _, Nat.zero_le _⟩ dX4_coinsOfNewStall_38 (fun H locs hW hS => ?_)
  refine lv_aload_n hx hb dX4_coinsOfNewStall_41 rfl (lv_at hl 1 rfl) ?_
  refine getP hx hb hta hown hE.1 hW 1 (by decide) q275 rfl dX4_coinsOfNewStall_42 ?_
  refine getF hx hb hta hown hE.1 hW sh_28 11 (by decide) q193 rfl dX4_coinsOfNewStall_45 ?_
  refine lv_iload hx hb dX4_coinsOfNewStall_48 (lv_at hl 0 rfl) ?_
  obtain ⟨g10, hf⟩ := gd_e hf
  refine sald hx hb hE.1 hW (shF_3 sh_28) g10 dX4_coinsOfNewStall_50 ?_
  refine getS hx hb hta hown hE.1 hW (shF_sk sh_28 g10) 6 (by decide) q139 rfl dX4_coinsOfNewStall_51 ?_
  refine lv_iload_n hx hb dX4_coinsOfNewStall_54 rfl (lv_at hl 4 rfl) ?_
  refine lv_imul hx hb dX4_coinsOfNewStall_55 ?_
  cases hf
  exact W.iret hx hb hr (fun u hu _ => ⟨⟨rfl, by rw [hu]; exact hW⟩, hS.F hu⟩) hS.2.2 dX4_coinsOfNewStall_56
def f_X4_recordedStates (σ : Sg) : Option Int32 := some (σ 0 6)
set_option maxHeartbeats 4000000 in
set_option maxRecDepth 100000 in
theorem c_X4_recordedStates (l : Launch) (D : va_G) (t : Nat → ClassId) (b : Nat) (σ : Sg) (r : Int32) (hf : f_X4_recordedStates σ = some r) : Met l yX4_recordedStates (Cond.code yX4_recordedStates cX4_recordedStates 1 (some .int) :: ALL) ({ frames := 0, cells := 0, slots := 0, locals := 0 }) (PM D t b σ [.ref (b + 0)]) (QG D t b σ (some (.int r))) 0 0 (geA b) := by
  refine Met.ofW (cc := cX4_recordedStates) (maxL := 1) (ret := (some .int)) (by decide) rfl ?_
  intro p e s m args below meth c s₁ B hml hv
  obtain ⟨rfl, hW, hE⟩ := hv
  have hx := B.exec
  have hb := B.bytes
  have hr := B.returns
  have hts := atoms_spec (ws := Cond.code yX4_recordedStates cX4_recordedStates 1 (some .int) :: ALL) B.pre
  have hta := fun w h => hts w (List.mem_cons_of_mem _ h)
  have hown : s.vm.findClass RX4 = some m.cls := findClass_of_methodNamed B.named
  have hlocks := B.notSynchronized
  have hS : va_S (geA b) s.heap s.heap [] := va_S.rf
  have hl := lv_entry ([.ref (b + 0)]) (n := 1) (Nat.le_of_ble_eq_true rfl)
  rw [lg_entry_eq]
  generalize (lg_sl ([.ref (b + 0)]) ++ List.replicate (1 - (lg_sl ([.ref (b + 0)])).length) Slot.unset).toArray = ls at hl ⊢
  have hl : lv_has ls 1 [(0, .ref (b + 0))] := hl
  unfold f_X4_recordedStates at hf
  refine lv_aload_n hx hb dX4_recordedStates_0 rfl (lv_at hl 0 rfl) ?_
  refine getP hx hb hta hown hE.1 hW 6 (by decide) q280 rfl dX4_recordedStates_1 ?_
  cases hf
  exact W.iret hx hb hr (fun u hu _ => ⟨⟨rfl, by rw [hu]; exact hW⟩, hS.F hu⟩) hS.2.2 dX4_recordedStates_4

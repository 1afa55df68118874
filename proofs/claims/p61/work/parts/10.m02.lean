def l_X1_endDay_9 (c0 : Nat) : Nat → Sg → Int32 → Option Sg
  | 0, _, _ => none
  | n + 1, τ, x1 => if (τ c0 10) ≤ x1 then (st (u2 τ c0 6 ((τ c0 6) + 1)) fun σ5 => st (u2 σ5 c0 7 0) fun σ7 => some σ7) else (gd x1 7 (if (τ (sk (c0 + 3) x1) 4) = 0 then (l_X1_endDay_9 c0 n τ (x1 + 1)) else (b1 (f_X1_payRent c0 (sk (c0 + 3) x1) τ) fun σ13 => l_X1_endDay_9 c0 n σ13 (x1 + 1))))
def f_X1_endDay (c0 : Nat) (σ : Sg) : Option Sg := b1 (f_X0_allGoHome (c0 + 4) σ) fun σ3 => l_X1_endDay_9 c0 10000 σ3 0
set_option maxHeartbeats 4000000 in
set_option maxRecDepth 100000 in
theorem c_X1_endDay (l : Launch) (D : va_G) (t : Nat → ClassId) (b : Nat) (c0 : Nat) (σ : Sg) (σr : Sg) (hc0 : sh c0 = (1, 0)) (hf : f_X1_endDay c0 σ = some σr) : Met l yX1_endDay (Cond.code yX1_endDay cX1_endDay 2 none :: ALL) ({ frames := 2, cells := 0, slots := 0, locals := 42 }) (PM D t b σ [.ref (b + c0)]) (QG D t b σr none) 0 0 (geA b) := by
  refine Met.ofW (cc := cX1_endDay) (maxL := 2) (ret := none) (by decide) rfl ?_
  intro p e s m args below meth c s₁ B hml hv
  obtain ⟨rfl, hW, hE⟩ := hv
  have hx := B.exec
  have hb := B.bytes
  have hr := B.returns
  have hts := atoms_spec (ws := Cond.code yX1_endDay cX1_endDay 2 none :: ALL) B.pre
  have hta := fun w h => hts w (List.mem_cons_of_mem _ h)
  have hown : s.vm.findClass RX1 = some m.cls := findClass_of_methodNamed B.named
  have hlocks := B.notSynchronized
  have hS : va_S (geA b) s.heap s.heap [] := va_S.rf
  have hl := lv_entry ([.ref (b + c0)]) (n := 2) (Nat.le_of_ble_eq_true rfl)
  rw [lg_entry_eq]
  generalize (lg_sl ([.ref (b + c0)]) ++ List.replicate (2 - (lg_sl ([.ref (b + c0)])).length) Slot.unset).toArray = ls at hl ⊢
  have hl : lv_has ls 2 [(0, .ref (b + c0))] := hl
  unfold f_X1_endDay at hf
  refine lv_aload_n hx hb dX1_endDay_0 rfl (lv_at hl 0 rfl) ?_
  refine getF hx hb hta hown hE.1 hW hc0 12 (by decide) q194 rfl dX1_endDay_1 ?_
  obtain ⟨σ3, u2, hf⟩ := b1_e hf
  refine mV (k := (c0 + 4)) (q := (2, 0)) (C := RX0) (T := TX0) (N := 10) (ci := 0) (n := 0) (As := []) (rest := []) (c_X0_allGoHome l D t b (c0 + 4) σ σ3 (shF_4 hc0) u2) (shF_4 hc0) (by decide) rfl rfl hx hb hml hown hts hE hW hS q704 q705 q706 q36 q707 hy_X0_allGoHome ⟨rfl, rfl⟩ ⟨Nat.le_of_ble_eq_true rfl, Nat.le_of_ble_eq_true rfl⟩ rfl rfl hl.1 (Nat.le_of_ble_eq_true rfl) ⟨Nat.zero_le _, Nat.zero_le _⟩ dX1_endDay_4 (fun H locs hW hS => ?_)
  refine lv_iconst (v := 0) hx hb dX1_endDay_7 (by decide) ?_
  refine lv_istore_n (lv' := [(1, .int 0), (0, .ref (b + c0))]) hx hb dX1_endDay_8 rfl hl (by decide) rfl (fun ls hl => ?_)
  have key_9 : ∀ (n : Nat) (τ : Sg) (x1 : Int32) (H : Heap) (locs : List Loc) (ls : Array Slot), l_X1_endDay_9 c0 n τ x1 = some σr → wd D t b τ H → va_S (geA b) s.heap H locs → lv_has ls 2 [(0, .ref (b + c0)), (1, .int x1)] → W p l e (headSpec (Cond.code yX1_endDay cX1_endDay 2 none :: ALL) ({ frames := 2, cells := 0, slots := 0, locals := 42 })).room s m (([.ref (b + c0)] : List Value).toArray) below meth c H locs 0 0 (MQ below (QG D t b σr none) (([.ref (b + c0)] : List Value).toArray) s 0 0 (geA b)) (F0 m 9 ls []) := by
    intro n
    induction n with
    | zero =>
      intro τ x1 H locs ls hf
      rw [l_X1_endDay_9.eq_1] at hf
      cases hf
    | succ n ih_9 =>
      intro τ x1 H locs ls hf hW hS hl
      rw [l_X1_endDay_9.eq_2] at hf
      refine lv_iload_n hx hb dX1_endDay_9 rfl (lv_at hl 1 rfl) ?_
      refine lv_aload_n hx hb dX1_endDay_10 rfl (lv_at hl 0 rfl) ?_
      refine getF hx hb hta hown hE.1 hW hc0 10 (by decide) q190 rfl dX1_endDay_11 ?_
      refine lv_icmp_ge (tgt := 45) hx hb dX1_endDay_14 (by decide) (fun h4 => ?_) (fun h4 => ?_)
      · have hf := ifp h4 hf
        refine lv_aload_n hx hb dX1_endDay_45 rfl (lv_at hl 0 rfl) ?_
        refine lv_dup hx hb dX1_endDay_46 rfl ?_
        refine getF hx hb hta hown hE.1 hW hc0 6 (by decide) q182 rfl dX1_endDay_47 ?_
        refine lv_iconst (v := 1) hx hb dX1_endDay_50 (by decide) ?_
        refine lv_iadd hx hb dX1_endDay_51 ?_
        refine putX (k := c0) (q := (1, 0)) (ci := 1) (x := ((τ c0 6) + 1)) inA1 tyX1_ok nmX1 rfl (by decide) rfl hx hb hta hown hE.1 hW hS hc0 6 (by decide) q182 rfl rfl rfl (Nat.le_of_ble_eq_true rfl) rfl dX1_endDay_52 (fun H locs hW hS => ?_)
        obtain ⟨σ5, e6, hf⟩ := st_e hf
        rw [e6] at hW
        refine lv_aload_n hx hb dX1_endDay_55 rfl (lv_at hl 0 rfl) ?_
        refine lv_iconst (v := 0) hx hb dX1_endDay_56 (by decide) ?_
        refine putX (k := c0) (q := (1, 0)) (ci := 1) (x := 0) inA1 tyX1_ok nmX1 rfl (by decide) rfl hx hb hta hown hE.1 hW hS hc0 7 (by decide) q184 rfl rfl rfl (Nat.le_of_ble_eq_true rfl) rfl dX1_endDay_57 (fun H locs hW hS => ?_)
        obtain ⟨σ7, e8, hf⟩ := st_e hf
        rw [e8] at hW
        cases hf
        exact W.vret hx hb hr (fun u hu _ => ⟨⟨rfl, by rw [hu]; exact hW⟩, hS.F hu⟩) hS.2.2 dX1_endDay_60
      · have hf := ifn h4 hf
        refine lv_aload_n hx hb dX1_endDay_17 rfl (lv_at hl 0 rfl) ?_
        refine getF hx hb hta hown hE.1 hW hc0 11 (by decide) q192 rfl dX1_endDay_18 ?_
        refine lv_iload_n hx hb dX1_endDay_21 rfl (lv_at hl 1 rfl) ?_
        obtain ⟨g9, hf⟩ := gd_e hf
        refine sald hx hb hE.1 hW (shF_3 hc0) g9 dX1_endDay_22 ?_
        refine getS hx hb hta hown hE.1 hW (shF_sk hc0 g9) 4 (by decide) q134 rfl dX1_endDay_23 ?_
        refine lv_if_eq (tgt := 39) hx hb dX1_endDay_26 (by decide) (fun h10 => ?_) (fun h10 => ?_)
        · have hf := ifp h10 hf
          refine lv_iinc (v := (x1 + 1)) (lv' := [(1, .int (x1 + 1)), (0, .ref (b + c0))]) hx hb dX1_endDay_39 hl (k := 1) rfl (by rfl) (by decide) rfl (fun ls hl => ?_)
          refine lv_goto (tgt := 9) hx hb dX1_endDay_42 (by decide) ?_
          exact ih_9 τ (x1 + 1) _ _ _ hf hW hS (lv_sub hl [1, 0] rfl)
        · have hf := ifn h10 hf
          refine lv_aload_n hx hb dX1_endDay_29 rfl (lv_at hl 0 rfl) ?_
          refine lv_aload_n hx hb dX1_endDay_30 rfl (lv_at hl 0 rfl) ?_
          refine getF hx hb hta hown hE.1 hW hc0 11 (by decide) q192 rfl dX1_endDay_31 ?_
          refine lv_iload_n hx hb dX1_endDay_34 rfl (lv_at hl 1 rfl) ?_
          refine sald hx hb hE.1 hW (shF_3 hc0) g9 dX1_endDay_35 ?_
          obtain ⟨σ13, u12, hf⟩ := b1_e hf
          refine mV (k := c0) (q := (1, 0)) (C := RX1) (T := TX1) (N := 13) (ci := 1) (n := 1) (As := [.ref (b + (sk (c0 + 3) x1))]) (rest := []) (c_X1_payRent l D t b c0 (sk (c0 + 3) x1) τ σ13 hc0 (shF_sk hc0 g9) u12) hc0 (by decide) rfl rfl hx hb hml hown hts hE hW hS q708 q710 q17 q35 q711 hy_X1_payRent ⟨rfl, rfl⟩ ⟨Nat.le_of_ble_eq_true rfl, Nat.le_of_ble_eq_true rfl⟩ rfl rfl hl.1 (Nat.le_of_ble_eq_true rfl) ⟨Nat.zero_le _, Nat.zero_le _⟩ dX1_endDay_36 (fun H locs hW hS => ?_)
          refine lv_iinc (v := (x1 + 1)) (lv' := [(1, .int (x1 + 1)), (0, .ref (b + c0))]) hx hb dX1_endDay_39 hl (k := 1) rfl (by rfl) (by decide) rfl (fun ls hl => ?_)
          refine lv_goto (tgt := 9) hx hb dX1_endDay_42 (by decide) ?_
          exact ih_9 σ13 (x1 + 1) _ _ _ hf hW hS (lv_sub hl [1, 0] rfl)
  exact key_9 10000 σ3 0 _ _ _ hf hW hS (lv_sub hl [1, 0] rfl)
def l_X1_letPass_42 (k : Sg → Int32 → Int32 → Option Sg) (c0 : Nat) : Nat → Sg → Int32 → Int32 → Int32 → Int32 → Option Sg
  | 0, _, _, _, _, _ => none
  | n + 1, τ, x1, x2, x3, x4 => if (τ (c0 + 4) 0) ≤ x4 then (st (u2 τ c0 7 ((τ c0 7) + 1)) fun σ11 => if (σ11 c0 7) < 40 then (k σ11 x1 (x2 + 1)) else (b1 (f_X1_endDay c0 σ11) fun σ16 => k σ16 x1 (x2 + 1))) else (gd x4 200 (if (τ ((c0 + 4) + 5) (x4).toNatClampNeg) = (-1) then (l_X1_letPass_42 k c0 n τ x1 x2 x3 (x4 + 1)) else (b1 (f_X1_takeTurn c0 τ x4 x3) fun σ21 => l_X1_letPass_42 k c0 n σ21 x1 x2 x3 (x4 + 1))))
def l_X1_letPass_2 (c0 : Nat) : Nat → Sg → Int32 → Int32 → Option Sg
  | 0, _, _, _ => none
  | n + 1, τ, x1, x2 => if x1 ≤ x2 then (some τ) else (b1 (f_X1_childComesNext c0 τ) fun y2 => if y2 = 0 then (b1 (f_X1_freeStalls c0 τ) fun σ7 => b1 (f_X1_rainToday c0 σ7 ((σ7 c0 7) / 4)) fun y8 => l_X1_letPass_42 (fun τ x1 x2 => l_X1_letPass_2 c0 n τ x1 x2) c0 10000 σ7 x1 x2 y8 (σ7 (c0 + 4) 1)) else (b1 (f_X1_letNextIn c0 τ) fun σ24 => b1 (f_X1_freeStalls c0 σ24) fun σ27 => b1 (f_X1_rainToday c0 σ27 ((σ27 c0 7) / 4)) fun y28 => l_X1_letPass_42 (fun τ x1 x2 => l_X1_letPass_2 c0 n τ x1 x2) c0 10000 σ27 x1 x2 y28 (σ27 (c0 + 4) 1)))
def f_X1_letPass (c0 : Nat) (σ : Sg) (p1 : Int32) : Option Sg := l_X1_letPass_2 c0 10000 σ p1 0
set_option maxHeartbeats 4000000 in
set_option maxRecDepth 100000 in
theorem c_X1_letPass (l : Launch) (D : va_G) (t : Nat → ClassId) (b : Nat) (c0 : Nat) (σ : Sg) (p1 : Int32) (σr : Sg) (hc0 : sh c0 = (1, 0)) (hf : f_X1_letPass c0 σ p1 = some σr) : Met l yX1_letPass (Cond.code yX1_letPass cX1_letPass 5 none :: ALL) ({ frames := 3, cells := 0, slots := 0, locals := 73 }) (PM D t b σ [.ref (b + c0), .int p1]) (QG D t b σr none) 0 0 (geA b) := by
  refine Met.ofW (cc := cX1_letPass) (maxL := 5) (ret := none) (by decide) rfl ?_
  intro p e s m args below meth c s₁ B hml hv
  obtain ⟨rfl, hW, hE⟩ := hv
  have hx := B.exec
  have hb := B.bytes
  have hr := B.returns
  have hts := atoms_spec (ws := Cond.code yX1_letPass cX1_letPass 5 none :: ALL) B.pre
  have hta := fun w h => hts w (List.mem_cons_of_mem _ h)
  have hown : s.vm.findClass RX1 = some m.cls := findClass_of_methodNamed B.named
  have hlocks := B.notSynchronized
  have hS : va_S (geA b) s.heap s.heap [] := va_S.rf
  have hl := lv_entry ([.ref (b + c0), .int p1]) (n := 5) (Nat.le_of_ble_eq_true rfl)
  rw [lg_entry_eq]
  generalize (lg_sl ([.ref (b + c0), .int p1]) ++ List.replicate (5 - (lg_sl ([.ref (b + c0), .int p1])).length) Slot.unset).toArray = ls at hl ⊢
  have hl : lv_has ls 5 [(0, .ref (b + c0)), (1, .int p1)] := hl
  unfold f_X1_letPass at hf
  refine lv_iconst (v := 0) hx hb dX1_letPass_0 (by decide) ?_
  refine lv_istore_n (lv' := [(2, .int 0), (0, .ref (b + c0)), (1, .int p1)]) hx hb dX1_letPass_1 rfl hl (by decide) rfl (fun ls hl => ?_)
  have key_2 : ∀ (n : Nat) (τ : Sg) (x1 : Int32) (x2 : Int32) (H : Heap) (locs : List Loc) (ls : Array Slot), l_X1_letPass_2 c0 n τ x1 x2 = some σr → wd D t b τ H → va_S (geA b) s.heap H locs → lv_has ls 5 [(0, .ref (b + c0)), (1, .int x1), (2, .int x2)] → W p l e (headSpec (Cond.code yX1_letPass cX1_letPass 5 none :: ALL) ({ frames := 3, cells := 0, slots := 0, locals := 73 })).room s m (([.ref (b + c0), .int p1] : List Value).toArray) below meth c H locs 0 0 (MQ below (QG D t b σr none) (([.ref (b + c0), .int p1] : List Value).toArray) s 0 0 (geA b)) (F0 m 2 ls []) := by
    intro n
    induction n with
    | zero =>
      intro τ x1 x2 H locs ls hf
      rw [l_X1_letPass_2.eq_1] at hf
      cases hf
    | succ n ih_2 =>
      intro τ x1 x2 H locs ls hf hW hS hl
      rw [l_X1_letPass_2.eq_2] at hf
      refine lv_iload_n hx hb dX1_letPass_2 rfl (lv_at hl 2 rfl) ?_
      refine lv_iload_n hx hb dX1_letPass_3 rfl (lv_at hl 1 rfl) ?_
      refine lv_icmp_ge (tgt := 110) hx hb dX1_letPass_4 (by decide) (fun h1 => ?_) (fun h1 => ?_)
      · have hf := ifp h1 hf
        cases hf
        exact W.vret hx hb hr (fun u hu _ => ⟨⟨rfl, by rw [hu]; exact hW⟩, hS.F hu⟩) hS.2.2 dX1_letPass_110
      · have hf := ifn h1 hf
        refine lv_aload_n hx hb dX1_letPass_7 rfl (lv_at hl 0 rfl) ?_
        obtain ⟨y2, u3, hf⟩ := b1_e hf
        refine mV (k := c0) (q := (1, 0)) (C := RX1) (T := TX1) (N := 13) (ci := 1) (n := 0) (As := []) (rest := []) (c_X1_childComesNext l D t b c0 τ y2 hc0 u3) hc0 (by decide) rfl rfl hx hb hml hown hts hE hW hS q630 q631 q632 q35 q633 hy_X1_childComesNext ⟨rfl, rfl⟩ ⟨Nat.le_of_ble_eq_true rfl, Nat.le_of_ble_eq_true rfl⟩ rfl rfl hl.1 (Nat.le_of_ble_eq_true rfl) ⟨Nat.zero_le _, Nat.zero_le _⟩ dX1_letPass_8 (fun H locs hW hS => ?_)
        refine lv_if_eq (tgt := 18) hx hb dX1_letPass_11 (by decide) (fun h4 => ?_) (fun h4 => ?_)
        · have hf := ifp h4 hf
          refine lv_aload_n hx hb dX1_letPass_18 rfl (lv_at hl 0 rfl) ?_
          obtain ⟨σ7, u6, hf⟩ := b1_e hf
          refine mV (k := c0) (q := (1, 0)) (C := RX1) (T := TX1) (N := 13) (ci := 1) (n := 0) (As := []) (rest := []) (c_X1_freeStalls l D t b c0 τ σ7 hc0 u6) hc0 (by decide) rfl rfl hx hb hml hown hts hE hW hS q647 q649 q11 q35 q650 hy_X1_freeStalls ⟨rfl, rfl⟩ ⟨Nat.le_of_ble_eq_true rfl, Nat.le_of_ble_eq_true rfl⟩ rfl rfl hl.1 (Nat.le_of_ble_eq_true rfl) ⟨Nat.zero_le _, Nat.zero_le _⟩ dX1_letPass_19 (fun H locs hW hS => ?_)
          refine lv_aload_n hx hb dX1_letPass_22 rfl (lv_at hl 0 rfl) ?_
          refine lv_aload_n hx hb dX1_letPass_23 rfl (lv_at hl 0 rfl) ?_
          refine getF hx hb hta hown hE.1 hW hc0 7 (by decide) q184 rfl dX1_letPass_24 ?_
          refine lv_iconst (v := 4) hx hb dX1_letPass_27 (by decide) ?_
          refine lv_idiv hx hb dX1_letPass_28 (by decide) ?_
          obtain ⟨y8, u9, hf⟩ := b1_e hf
          refine mV (k := c0) (q := (1, 0)) (C := RX1) (T := TX1) (N := 13) (ci := 1) (n := 1) (As := [.int ((σ7 c0 7) / 4)]) (rest := []) (c_X1_rainToday l D t b c0 σ7 ((σ7 c0 7) / 4) y8 hc0 u9) hc0 (by decide) rfl rfl hx hb hml hown hts hE hW hS q634 q635 q636 q35 q637 hy_X1_rainToday ⟨rfl, rfl⟩ ⟨Nat.le_of_ble_eq_true rfl, Nat.le_of_ble_eq_true rfl⟩ rfl rfl hl.1 (Nat.le_of_ble_eq_true rfl) ⟨Nat.zero_le _, Nat.zero_le _⟩ dX1_letPass_29 (fun H locs hW hS => ?_)
          refine lv_istore_n (lv' := [(3, .int y8), (0, .ref (b + c0)), (1, .int x1), (2, .int x2)]) hx hb dX1_letPass_32 rfl hl (by decide) rfl (fun ls hl => ?_)
          refine lv_aload_n hx hb dX1_letPass_33 rfl (lv_at hl 1 rfl) ?_
          refine getF hx hb hta hown hE.1 hW hc0 12 (by decide) q194 rfl dX1_letPass_34 ?_
          refine getC hx hb hta hown hE.1 hW (shF_4 hc0) 1 (by decide) q73 rfl dX1_letPass_37 ?_
          refine lv_istore (lv' := [(4, .int (σ7 (c0 + 4) 1)), (3, .int y8), (0, .ref (b + c0)), (1, .int x1), (2, .int x2)]) hx hb dX1_letPass_40 hl (by decide) rfl (fun ls hl => ?_)
          have key_42 : ∀ (m9 : Nat) (τ : Sg) (x1 : Int32) (x2 : Int32) (x3 : Int32) (x4 : Int32) (H : Heap) (locs : List Loc) (ls : Array Slot), l_X1_letPass_42 (fun τ x1 x2 => l_X1_letPass_2 c0 n τ x1 x2) c0 m9 τ x1 x2 x3 x4 = some σr → wd D t b τ H → va_S (geA b) s.heap H locs → lv_has ls 5 [(0, .ref (b + c0)), (1, .int x1), (2, .int x2), (3, .int x3), (4, .int x4)] → W p l e (headSpec (Cond.code yX1_letPass cX1_letPass 5 none :: ALL) ({ frames := 3, cells := 0, slots := 0, locals := 73 })).room s m (([.ref (b + c0), .int p1] : List Value).toArray) below meth c H locs 0 0 (MQ below (QG D t b σr none) (([.ref (b + c0), .int p1] : List Value).toArray) s 0 0 (geA b)) (F0 m 42 ls []) := by
            intro m9
            induction m9 with
            | zero =>
              intro τ x1 x2 x3 x4 H locs ls hf
              rw [l_X1_letPass_42.eq_1] at hf
              cases hf
            | succ m9 ih_42 =>
              intro τ x1 x2 x3 x4 H locs ls hf hW hS hl
              rw [l_X1_letPass_42.eq_2] at hf
              refine lv_iload hx hb dX1_letPass_42 (lv_at hl 4 rfl) ?_
              refine lv_aload_n hx hb dX1_letPass_44 rfl (lv_at hl 0 rfl) ?_
              refine getF hx hb hta hown hE.1 hW hc0 12 (by decide) q194 rfl dX1_letPass_45 ?_
              refine getC hx hb hta hown hE.1 hW (shF_4 hc0) 0 (by decide) q70 rfl dX1_letPass_48 ?_
              refine lv_icmp_ge (tgt := 81) hx hb dX1_letPass_51 (by decide) (fun h10 => ?_) (fun h10 => ?_)
              · have hf := ifp h10 hf
                refine lv_aload_n hx hb dX1_letPass_81 rfl (lv_at hl 0 rfl) ?_
                refine lv_dup hx hb dX1_letPass_82 rfl ?_
                refine getF hx hb hta hown hE.1 hW hc0 7 (by decide) q184 rfl dX1_letPass_83 ?_
                refine lv_iconst (v := 1) hx hb dX1_letPass_86 (by decide) ?_
                refine lv_iadd hx hb dX1_letPass_87 ?_
                refine putX (k := c0) (q := (1, 0)) (ci := 1) (x := ((τ c0 7) + 1)) inA1 tyX1_ok nmX1 rfl (by decide) rfl hx hb hta hown hE.1 hW hS hc0 7 (by decide) q184 rfl rfl rfl (Nat.le_of_ble_eq_true rfl) rfl dX1_letPass_88 (fun H locs hW hS => ?_)
                obtain ⟨σ11, e12, hf⟩ := st_e hf
                rw [e12] at hW
                refine lv_aload_n hx hb dX1_letPass_91 rfl (lv_at hl 0 rfl) ?_
                refine getF hx hb hta hown hE.1 hW hc0 7 (by decide) q184 rfl dX1_letPass_92 ?_
                refine lv_bipush (v := 40) hx hb dX1_letPass_95 (by decide) ?_
                refine lv_icmp_lt (tgt := 104) hx hb dX1_letPass_97 (by decide) (fun h13 => ?_) (fun h13 => ?_)
                · have hf := ifp h13 hf
                  refine lv_iinc (v := (x2 + 1)) (lv' := [(2, .int (x2 + 1)), (0, .ref (b + c0)), (1, .int x1), (3, .int x3), (4, .int x4)]) hx hb dX1_letPass_104 hl (k := 2) rfl (by rfl) (by decide) rfl (fun ls hl => ?_)
                  refine lv_goto (tgt := 2) hx hb dX1_letPass_107 (by decide) ?_
                  exact ih_2 σ11 x1 (x2 + 1) _ _ _ hf hW hS (lv_sub hl [1, 2, 0] rfl)
                · have hf := ifn h13 hf
                  refine lv_aload_n hx hb dX1_letPass_100 rfl (lv_at hl 0 rfl) ?_
                  obtain ⟨σ16, u15, hf⟩ := b1_e hf
                  refine mV (k := c0) (q := (1, 0)) (C := RX1) (T := TX1) (N := 13) (ci := 1) (n := 0) (As := []) (rest := []) (c_X1_endDay l D t b c0 σ11 σ16 hc0 u15) hc0 (by decide) rfl rfl hx hb hml hown hts hE hW hS q700 q702 q16 q35 q703 hy_X1_endDay ⟨rfl, rfl⟩ ⟨Nat.le_of_ble_eq_true rfl, Nat.le_of_ble_eq_true rfl⟩ rfl rfl hl.1 (Nat.le_of_ble_eq_true rfl) ⟨Nat.zero_le _, Nat.zero_le _⟩ dX1_letPass_101 (fun H locs hW hS => ?_)
                  refine lv_iinc (v := (x2 + 1)) (lv' := [(2, .int (x2 + 1)), (0, .ref (b + c0)), (1, .int x1), (3, .int x3), (4, .int x4)]) hx hb dX1_letPass_104 hl (k := 2) rfl (by rfl) (by decide) rfl (fun ls hl => ?_)
                  refine lv_goto (tgt := 2) hx hb dX1_letPass_107 (by decide) ?_
                  exact ih_2 σ16 x1 (x2 + 1) _ _ _ hf hW hS (lv_sub hl [1, 2, 0] rfl)
              · have hf := ifn h10 hf
                refine lv_aload_n hx hb dX1_letPass_54 rfl (lv_at hl 0 rfl) ?_
                refine getF hx hb hta hown hE.1 hW hc0 12 (by decide) q194 rfl dX1_letPass_55 ?_
                refine getC hx hb hta hown hE.1 hW (shF_4 hc0) 6 (by decide) q84 rfl dX1_letPass_58 ?_
                refine lv_iload hx hb dX1_letPass_61 (lv_at hl 4 rfl) ?_
                obtain ⟨g17, hf⟩ := gd_e hf
                refine iald hx hb hE.1 hW (shC_5 (shF_4 hc0)) g17 dX1_letPass_63 ?_
                refine lv_iconst (v := (-1)) hx hb dX1_letPass_64 (by decide) ?_
                refine lv_icmp_eq (tgt := 75) hx hb dX1_letPass_65 (by decide) (fun h18 => ?_) (fun h18 => ?_)
                · have hf := ifp h18 hf
                  refine lv_iinc (v := (x4 + 1)) (lv' := [(4, .int (x4 + 1)), (0, .ref (b + c0)), (1, .int x1), (2, .int x2), (3, .int x3)]) hx hb dX1_letPass_75 hl (k := 4) rfl (by rfl) (by decide) rfl (fun ls hl => ?_)
                  refine lv_goto (tgt := 42) hx hb dX1_letPass_78 (by decide) ?_
                  exact ih_42 τ x1 x2 x3 (x4 + 1) _ _ _ hf hW hS (lv_sub hl [1, 2, 3, 4, 0] rfl)
                · have hf := ifn h18 hf
                  refine lv_aload_n hx hb dX1_letPass_68 rfl (lv_at hl 0 rfl) ?_
                  refine lv_iload hx hb dX1_letPass_69 (lv_at hl 4 rfl) ?_
                  refine lv_iload_n hx hb dX1_letPass_71 rfl (lv_at hl 3 rfl) ?_
                  obtain ⟨σ21, u20, hf⟩ := b1_e hf
                  refine mV (k := c0) (q := (1, 0)) (C := RX1) (T := TX1) (N := 13) (ci := 1) (n := 2) (As := [.int x4, .int x3]) (rest := []) (c_X1_takeTurn l D t b c0 τ x4 x3 σ21 hc0 u20) hc0 (by decide) rfl rfl hx hb hml hown hts hE hW hS q651 q653 q12 q35 q654 hy_X1_takeTurn ⟨rfl, rfl⟩ ⟨Nat.le_of_ble_eq_true rfl, Nat.le_of_ble_eq_true rfl⟩ rfl rfl hl.1 (Nat.le_of_ble_eq_true rfl) ⟨Nat.zero_le _, Nat.zero_le _⟩ dX1_letPass_72 (fun H locs hW hS => ?_)
                  refine lv_iinc (v := (x4 + 1)) (lv' := [(4, .int (x4 + 1)), (0, .ref (b + c0)), (1, .int x1), (2, .int x2), (3, .int x3)]) hx hb dX1_letPass_75 hl (k := 4) rfl (by rfl) (by decide) rfl (fun ls hl => ?_)
                  refine lv_goto (tgt := 42) hx hb dX1_letPass_78 (by decide) ?_
                  exact ih_42 σ21 x1 x2 x3 (x4 + 1) _ _ _ hf hW hS (lv_sub hl [1, 2, 3, 4, 0] rfl)
          exact key_42 10000 σ7 x1 x2 y8 (σ7 (c0 + 4) 1) _ _ _ hf hW hS (lv_sub hl [2, 3, 4, 1, 0] rfl)
        · have hf := ifn h4 hf
          refine lv_aload_n hx hb dX1_letPass_14 rfl (lv_at hl 0 rfl) ?_
          obtain ⟨σ24, u23, hf⟩ := b1_e hf
          refine mV (k := c0) (q := (1, 0)) (C := RX1) (T := TX1) (N := 13) (ci := 1) (n := 0) (As := []) (rest := []) (c_X1_letNextIn l D t b c0 τ σ24 hc0 u23) hc0 (by decide) rfl rfl hx hb hml hown hts hE hW hS q642 q644 q10 q35 q645 hy_X1_letNextIn ⟨rfl, rfl⟩ ⟨Nat.le_of_ble_eq_true rfl, Nat.le_of_ble_eq_true rfl⟩ rfl rfl hl.1 (Nat.le_of_ble_eq_true rfl) ⟨Nat.zero_le _, Nat.zero_le _⟩ dX1_letPass_15 (fun H locs hW hS => ?_)
          refine lv_aload_n hx hb dX1_letPass_18 rfl (lv_at hl 0 rfl) ?_
          obtain ⟨σ27, u26, hf⟩ := b1_e hf
          refine mV (k := c0) (q := (1, 0)) (C := RX1) (T := TX1) (N := 13) (ci := 1) (n := 0) (As := []) (rest := []) (c_X1_freeStalls l D t b c0 σ24 σ27 hc0 u26) hc0 (by decide) rfl rfl hx hb hml hown hts hE hW hS q647 q649 q11 q35 q650 hy_X1_freeStalls ⟨rfl, rfl⟩ ⟨Nat.le_of_ble_eq_true rfl, Nat.le_of_ble_eq_true rfl⟩ rfl rfl hl.1 (Nat.le_of_ble_eq_true rfl) ⟨Nat.zero_le _, Nat.zero_le _⟩ dX1_letPass_19 (fun H locs hW hS => ?_)
          refine lv_aload_n hx hb dX1_letPass_22 rfl (lv_at hl 0 rfl) ?_
          refine lv_aload_n hx hb dX1_letPass_23 rfl (lv_at hl 0 rfl) ?_
          refine getF hx hb hta hown hE.1 hW hc0 7 (by decide) q184 rfl dX1_letPass_24 ?_
          refine lv_iconst (v := 4) hx hb dX1_letPass_27 (by decide) ?_
          refine lv_idiv hx hb dX1_letPass_28 (by decide) ?_
          obtain ⟨y28, u29, hf⟩ := b1_e hf
          refine mV (k := c0) (q := (1, 0)) (C := RX1) (T := TX1) (N := 13) (ci := 1) (n := 1) (As := [.int ((σ27 c0 7) / 4)]) (rest := []) (c_X1_rainToday l D t b c0 σ27 ((σ27 c0 7) / 4) y28 hc0 u29) hc0 (by decide) rfl rfl hx hb hml hown hts hE hW hS q634 q635 q636 q35 q637 hy_X1_rainToday ⟨rfl, rfl⟩ ⟨Nat.le_of_ble_eq_true rfl, Nat.le_of_ble_eq_true rfl⟩ rfl rfl hl.1 (Nat.le_of_ble_eq_true rfl) ⟨Nat.zero_le _, Nat.zero_le _⟩ dX1_letPass_29 (fun H locs hW hS => ?_)
          refine lv_istore_n (lv' := [(3, .int y28), (0, .ref (b + c0)), (1, .int x1), (2, .int x2)]) hx hb dX1_letPass_32 rfl hl (by decide) rfl (fun ls hl => ?_)
          refine lv_aload_n hx hb dX1_letPass_33 rfl (lv_at hl 1 rfl) ?_
          refine getF hx hb hta hown hE.1 hW hc0 12 (by decide) q194 rfl dX1_letPass_34 ?_
          refine getC hx hb hta hown hE.1 hW (shF_4 hc0) 1 (by decide) q73 rfl dX1_letPass_37 ?_
          refine lv_istore (lv' := [(4, .int (σ27 (c0 + 4) 1)), (3, .int y28), (0, .ref (b + c0)), (1, .int x1), (2, .int x2)]) hx hb dX1_letPass_40 hl (by decide) rfl (fun ls hl => ?_)
          have key_42 : ∀ (m9 : Nat) (τ : Sg) (x1 : Int32) (x2 : Int32) (x3 : Int32) (x4 : Int32) (H : Heap) (locs : List Loc) (ls : Array Slot), l_X1_letPass_42 (fun τ x1 x2 => l_X1_letPass_2 c0 n τ x1 x2) c0 m9 τ x1 x2 x3 x4 = some σr → wd D t b τ H → va_S (geA b) s.heap H locs → lv_has ls 5 [(0, .ref (b + c0)), (1, .int x1), (2, .int x2), (3, .int x3), (4, .int x4)] → W p l e (headSpec (Cond.code yX1_letPass cX1_letPass 5 none :: ALL) ({ frames := 3, cells := 0, slots := 0, locals := 73 })).room s m (([.ref (b + c0), .int p1] : List Value).toArray) below meth c H locs 0 0 (MQ below (QG D t b σr none) (([.ref (b + c0), .int p1] : List Value).toArray) s 0 0 (geA b)) (F0 m 42 ls []) := by
            intro m9
            induction m9 with
            | zero =>
              intro τ x1 x2 x3 x4 H locs ls hf
              rw [l_X1_letPass_42.eq_1] at hf
              cases hf
            | succ m9 ih_42 =>
              intro τ x1 x2 x3 x4 H locs ls hf hW hS hl
              rw [l_X1_letPass_42.eq_2] at hf
              refine lv_iload hx hb dX1_letPass_42 (lv_at hl 4 rfl) ?_
              refine lv_aload_n hx hb dX1_letPass_44 rfl (lv_at hl 0 rfl) ?_
              refine getF hx hb hta hown hE.1 hW hc0 12 (by decide) q194 rfl dX1_letPass_45 ?_
              refine getC hx hb hta hown hE.1 hW (shF_4 hc0) 0 (by decide) q70 rfl dX1_letPass_48 ?_
              refine lv_icmp_ge (tgt := 81) hx hb dX1_letPass_51 (by decide) (fun h30 => ?_) (fun h30 => ?_)
              · have hf := ifp h30 hf
                refine lv_aload_n hx hb dX1_letPass_81 rfl (lv_at hl 0 rfl) ?_
                refine lv_dup hx hb dX1_letPass_82 rfl ?_
                refine getF hx hb hta hown hE.1 hW hc0 7 (by decide) q184 rfl dX1_letPass_83 ?_
                refine lv_iconst (v := 1) hx hb dX1_letPass_86 (by decide) ?_
                refine lv_iadd hx hb dX1_letPass_87 ?_
                refine putX (k := c0) (q := (1, 0)) (ci := 1) (x := ((τ c0 7) + 1)) inA1 tyX1_ok nmX1 rfl (by decide) rfl hx hb hta hown hE.1 hW hS hc0 7 (by decide) q184 rfl rfl rfl (Nat.le_of_ble_eq_true rfl) rfl dX1_letPass_88 (fun H locs hW hS => ?_)
                obtain ⟨σ31, e32, hf⟩ := st_e hf
                rw [e32] at hW
                refine lv_aload_n hx hb dX1_letPass_91 rfl (lv_at hl 0 rfl) ?_
                refine getF hx hb hta hown hE.1 hW hc0 7 (by decide) q184 rfl dX1_letPass_92 ?_
                refine lv_bipush (v := 40) hx hb dX1_letPass_95 (by decide) ?_
                refine lv_icmp_lt (tgt := 104) hx hb dX1_letPass_97 (by decide) (fun h33 => ?_) (fun h33 => ?_)
                · have hf := ifp h33 hf
                  refine lv_iinc (v := (x2 + 1)) (lv' := [(2, .int (x2 + 1)), (0, .ref (b + c0)), (1, .int x1), (3, .int x3), (4, .int x4)]) hx hb dX1_letPass_104 hl (k := 2) rfl (by rfl) (by decide) rfl (fun ls hl => ?_)
                  refine lv_goto (tgt := 2) hx hb dX1_letPass_107 (by decide) ?_
                  exact ih_2 σ31 x1 (x2 + 1) _ _ _ hf hW hS (lv_sub hl [1, 2, 0] rfl)
                · have hf := ifn h33 hf
                  refine lv_aload_n hx hb dX1_letPass_100 rfl (lv_at hl 0 rfl) ?_
                  obtain ⟨σ36, u35, hf⟩ := b1_e hf
                  refine mV (k := c0) (q := (1, 0)) (C := RX1) (T := TX1) (N := 13) (ci := 1) (n := 0) (As := []) (rest := []) (c_X1_endDay l D t b c0 σ31 σ36 hc0 u35) hc0 (by decide) rfl rfl hx hb hml hown hts hE hW hS q700 q702 q16 q35 q703 hy_X1_endDay ⟨rfl, rfl⟩ ⟨Nat.le_of_ble_eq_true rfl, Nat.le_of_ble_eq_true rfl⟩ rfl rfl hl.1 (Nat.le_of_ble_eq_true rfl) ⟨Nat.zero_le _, Nat.zero_le _⟩ dX1_letPass_101 (fun H locs hW hS => ?_)
                  refine lv_iinc (v := (x2 + 1)) (lv' := [(2, .int (x2 + 1)), (0, .ref (b + c0)), (1, .int x1), (3, .int x3), (4, .int x4)]) hx hb dX1_letPass_104 hl (k := 2) rfl (by rfl) (by decide) rfl (fun ls hl => ?_)
                  refine lv_goto (tgt := 2) hx hb dX1_letPass_107 (by decide) ?_
                  exact ih_2 σ36 x1 (x2 + 1) _ _ _ hf hW hS (lv_sub hl [1, 2, 0] rfl)
              · have hf := ifn h30 hf
                refine lv_aload_n hx hb dX1_letPass_54 rfl (lv_at hl 0 rfl) ?_
                refine getF hx hb hta hown hE.1 hW hc0 12 (by decide) q194 rfl dX1_letPass_55 ?_
                refine getC hx hb hta hown hE.1 hW (shF_4 hc0) 6 (by decide) q84 rfl dX1_letPass_58 ?_
                refine lv_iload hx hb dX1_letPass_61 (lv_at hl 4 rfl) ?_
                obtain ⟨g37, hf⟩ := gd_e hf
                refine iald hx hb hE.1 hW (shC_5 (shF_4 hc0)) g37 dX1_letPass_63 ?_
                refine lv_iconst (v := (-1)) hx hb dX1_letPass_64 (by decide) ?_
                refine lv_icmp_eq (tgt := 75) hx hb dX1_letPass_65 (by decide) (fun h38 => ?_) (fun h38 => ?_)
                · have hf := ifp h38 hf
                  refine lv_iinc (v := (x4 + 1)) (lv' := [(4, .int (x4 + 1)), (0, .ref (b + c0)), (1, .int x1), (2, .int x2), (3, .int x3)]) hx hb dX1_letPass_75 hl (k := 4) rfl (by rfl) (by decide) rfl (fun ls hl => ?_)
                  refine lv_goto (tgt := 42) hx hb dX1_letPass_78 (by decide) ?_
                  exact ih_42 τ x1 x2 x3 (x4 + 1) _ _ _ hf hW hS (lv_sub hl [1, 2, 3, 4, 0] rfl)
                · have hf := ifn h38 hf
                  refine lv_aload_n hx hb dX1_letPass_68 rfl (lv_at hl 0 rfl) ?_
                  refine lv_iload hx hb dX1_letPass_69 (lv_at hl 4 rfl) ?_
                  refine lv_iload_n hx hb dX1_letPass_71 rfl (lv_at hl 3 rfl) ?_
                  obtain ⟨σ41, u40, hf⟩ := b1_e hf
                  refine mV (k := c0) (q := (1, 0)) (C := RX1) (T := TX1) (N := 13) (ci := 1) (n := 2) (As := [.int x4, .int x3]) (rest := []) (c_X1_takeTurn l D t b c0 τ x4 x3 σ41 hc0 u40) hc0 (by decide) rfl rfl hx hb hml hown hts hE hW hS q651 q653 q12 q35 q654 hy_X1_takeTurn ⟨rfl, rfl⟩ ⟨Nat.le_of_ble_eq_true rfl, Nat.le_of_ble_eq_true rfl⟩ rfl rfl hl.1 (Nat.le_of_ble_eq_true rfl) ⟨Nat.zero_le _, Nat.zero_le _⟩ dX1_letPass_72 (fun H locs hW hS => ?_)
                  refine lv_iinc (v := (x4 + 1)) (lv' := [(4, .int (x4 + 1)), (0, .ref (b + c0)), (1, .int x1), (2, .int x2), (3, .int x3)]) hx hb dX1_letPass_75 hl (k := 4) rfl (by rfl) (by decide) rfl (fun ls hl => ?_)
                  refine lv_goto (tgt := 42) hx hb dX1_letPass_78 (by decide) ?_
                  exact ih_42 σ41 x1 x2 x3 (x4 + 1) _ _ _ hf hW hS (lv_sub hl [1, 2, 3, 4, 0] rfl)
          exact key_42 10000 σ27 x1 x2 y28 (σ27 (c0 + 4) 1) _ _ _ hf hW hS (lv_sub hl [2, 3, 4, 1, 0] rfl)
  exact key_2 10000 σ p1 0 _ _ _ hf hW hS (lv_sub hl [1, 2, 0] rfl)
def f_X2_append (σ : Sg) (p1 : Int32) : Option (Int32 × Sg) := if (σ 191 1) < 80 then (gd (σ 191 1) 80 (st (u2 σ (191 + 1) ((σ 191 1)).toNatClampNeg (vp_nar .char p1)) fun σ3 => st (u2 σ3 191 1 ((σ3 191 1) + 1)) fun σ5 => some (1, σ5))) else (some (0, σ))
set_option maxHeartbeats 4000000 in
set_option maxRecDepth 100000 in
theorem c_X2_append (l : Launch) (D : va_G) (t : Nat → ClassId) (b : Nat) (σ : Sg) (p1 : Int32) (r : Int32) (σr : Sg) (hf : f_X2_append σ p1 = some (r, σr)) : Met l yX2_append (Cond.code yX2_append cX2_append 2 (some .boolean) :: ALL) ({ frames := 0, cells := 0, slots := 0, locals := 0 }) (PM D t b σ [.ref (b + 191), .int p1]) (QG D t b σr (some (.int r))) 0 0 (geA b) := by
  refine Met.ofW (cc := cX2_append) (maxL := 2) (ret := (some .boolean)) (by decide) rfl ?_
  intro p e s m args below meth c s₁ B hml hv
  obtain ⟨rfl, hW, hE⟩ := hv
  have hx := B.exec
  have hb := B.bytes
  have hr := B.returns
  have hts := atoms_spec (ws := Cond.code yX2_append cX2_append 2 (some .boolean) :: ALL) B.pre
  have hta := fun w h => hts w (List.mem_cons_of_mem _ h)
  have hown : s.vm.findClass RX2 = some m.cls := findClass_of_methodNamed B.named
  have hlocks := B.notSynchronized
  have hS : va_S (geA b) s.heap s.heap [] := va_S.rf
  have hl := lv_entry ([.ref (b + 191), .int p1]) (n := 2) (Nat.le_of_ble_eq_true rfl)
  rw [lg_entry_eq]
  generalize (lg_sl ([.ref (b + 191), .int p1]) ++ List.replicate (2 - (lg_sl ([.ref (b + 191), .int p1])).length) Slot.unset).toArray = ls at hl ⊢
  have hl : lv_has ls 2 [(0, .ref (b + 191)), (1, .int p1)] := hl
  unfold f_X2_append at hf
  refine lv_aload_n hx hb dX2_append_0 rfl (lv_at hl 0 rfl) ?_
  refine getO hx hb hta hown hE.1 hW sh_191 1 (by decide) q231 rfl dX2_append_1 ?_
  refine lv_bipush (v := 80) hx hb dX2_append_4 (by decide) ?_
  refine lv_icmp_lt (tgt := 11) hx hb dX2_append_6 (by decide) (fun h1 => ?_) (fun h1 => ?_)
  · have hf := ifp h1 hf
    refine lv_aload_n hx hb dX2_append_11 rfl (lv_at hl 0 rfl) ?_
    refine getO hx hb hta hown hE.1 hW sh_191 0 (by decide) q230 rfl dX2_append_12 ?_
    refine lv_aload_n hx hb dX2_append_15 rfl (lv_at hl 0 rfl) ?_
    refine getO hx hb hta hown hE.1 hW sh_191 1 (by decide) q231 rfl dX2_append_16 ?_
    refine lv_iload_n hx hb dX2_append_19 rfl (lv_at hl 1 rfl) ?_
    obtain ⟨g2, hf⟩ := gd_e hf
    refine cast (k := (191 + 1)) (i := (σ 191 1)) (x := p1) hx hb hE.1 hW hS sh_192 g2 dX2_append_20 (fun H locs hW hS => ?_)
    obtain ⟨σ3, e4, hf⟩ := st_e hf
    rw [e4] at hW
    refine lv_aload_n hx hb dX2_append_21 rfl (lv_at hl 0 rfl) ?_
    refine lv_dup hx hb dX2_append_22 rfl ?_
    refine getO hx hb hta hown hE.1 hW sh_191 1 (by decide) q231 rfl dX2_append_23 ?_
    refine lv_iconst (v := 1) hx hb dX2_append_26 (by decide) ?_
    refine lv_iadd hx hb dX2_append_27 ?_
    refine putX (k := 191) (q := (4, 0)) (ci := 2) (x := ((σ3 191 1) + 1)) inA2 tyX2_ok nmX2 rfl (by decide) rfl hx hb hta hown hE.1 hW hS sh_191 1 (by decide) q231 rfl rfl rfl (Nat.le_of_ble_eq_true rfl) rfl dX2_append_28 (fun H locs hW hS => ?_)
    obtain ⟨σ5, e6, hf⟩ := st_e hf
    rw [e6] at hW
    refine lv_iconst (v := 1) hx hb dX2_append_31 (by decide) ?_
    cases hf
    exact W.zret (ty := .boolean) hx hb hr (by decide) (fun u hu _ => ⟨⟨rfl, by rw [hu]; exact hW⟩, hS.F hu⟩) hS.2.2 dX2_append_32
  · have hf := ifn h1 hf
    refine lv_iconst (v := 0) hx hb dX2_append_9 (by decide) ?_
    cases hf
    exact W.zret (ty := .boolean) hx hb hr (by decide) (fun u hu _ => ⟨⟨rfl, by rw [hu]; exact hW⟩, hS.F hu⟩) hS.2.2 dX2_append_10
def f_X4_clearText (σ : Sg) : Option (Int32 × Sg) := st (u2 σ 191 1 0) fun σ1 => some ((σ 191 1), σ1)
set_option maxHeartbeats 4000000 in
set_option maxRecDepth 100000 in
theorem c_X4_clearText (l : Launch) (D : va_G) (t : Nat → ClassId) (b : Nat) (σ : Sg) (r : Int32) (σr : Sg) (hf : f_X4_clearText σ = some (r, σr)) : Met l yX4_clearText (Cond.code yX4_clearText cX4_clearText 2 (some .int) :: ALL) ({ frames := 0, cells := 0, slots := 0, locals := 0 }) (PM D t b σ [.ref (b + 0)]) (QG D t b σr (some (.int r))) 0 0 (geA b) := by
  refine Met.ofW (cc := cX4_clearText) (maxL := 2) (ret := (some .int)) (by decide) rfl ?_
  intro p e s m args below meth c s₁ B hml hv
  obtain ⟨rfl, hW, hE⟩ := hv
  have hx := B.exec
  have hb := B.bytes
  have hr := B.returns
  have hts := atoms_spec (ws := Cond.code yX4_clearText cX4_clearText 2 (some .int) :: ALL) B.pre
  have hta := fun w h => hts w (List.mem_cons_of_mem _ h)
  have hown : s.vm.findClass RX4 = some m.cls := findClass_of_methodNamed B.named
  have hlocks := B.notSynchronized
  have hS : va_S (geA b) s.heap s.heap [] := va_S.rf
  have hl := lv_entry ([.ref (b + 0)]) (n := 2) (Nat.le_of_ble_eq_true rfl)
  rw [lg_entry_eq]
  generalize (lg_sl ([.ref (b + 0)]) ++ List.replicate (2 - (lg_sl ([.ref (b + 0)])).length) Slot.unset).toArray = ls at hl ⊢
  have hl : lv_has ls 2 [(0, .ref (b + 0))] := hl
  unfold f_X4_clearText at hf
  refine lv_aload_n hx hb dX4_clearText_0 rfl (lv_at hl 0 rfl) ?_
  refine getP hx hb hta hown hE.1 hW 7 (by decide) q281 rfl dX4_clearText_1 ?_
  refine getO hx hb hta hown hE.1 hW sh_191 1 (by decide) q232 rfl dX4_clearText_4 ?_
  refine lv_istore_n (lv' := [(1, .int (σ 191 1)), (0, .ref (b + 0))]) hx hb dX4_clearText_7 rfl hl (by decide) rfl (fun ls hl => ?_)
  refine lv_aload_n hx hb dX4_clearText_8 rfl (lv_at hl 1 rfl) ?_
  refine getP hx hb hta hown hE.1 hW 7 (by decide) q281 rfl dX4_clearText_9 ?_
  refine lv_iconst (v := 0) hx hb dX4_clearText_12 (by decide) ?_
  refine putX (k := 191) (q := (4, 0)) (ci := 2) (x := 0) inA2 tyX2_ok nmX2 rfl (by decide) rfl hx hb hta hown hE.1 hW hS sh_191 1 (by decide) q232 rfl rfl rfl (Nat.le_of_ble_eq_true rfl) rfl dX4_clearText_13 (fun H locs hW hS => ?_)
  obtain ⟨σ1, e2, hf⟩ := st_e hf
  rw [e2] at hW
  refine lv_iload_n hx hb dX4_clearText_16 rfl (lv_at hl 0 rfl) ?_
  cases hf
  exact W.iret hx hb hr (fun u hu _ => ⟨⟨rfl, by rw [hu]; exact hW⟩, hS.F hu⟩) hS.2.2 dX4_clearText_17
def f_X2_rewind (σ : Sg) : Option Sg := st (u2 σ 191 2 0) fun σ1 => st (u2 σ1 191 3 0) fun σ3 => some σ3
set_option maxHeartbeats 4000000 in
set_option maxRecDepth 100000 in
theorem c_X2_rewind (l : Launch) (D : va_G) (t : Nat → ClassId) (b : Nat) (σ : Sg) (σr : Sg) (hf : f_X2_rewind σ = some σr) : Met l yX2_rewind (Cond.code yX2_rewind cX2_rewind 1 none :: ALL) ({ frames := 0, cells := 0, slots := 0, locals := 0 }) (PM D t b σ [.ref (b + 191)]) (QG D t b σr none) 0 0 (geA b) := by
  refine Met.ofW (cc := cX2_rewind) (maxL := 1) (ret := none) (by decide) rfl ?_
  intro p e s m args below meth c s₁ B hml hv
  obtain ⟨rfl, hW, hE⟩ := hv
  have hx := B.exec
  have hb := B.bytes
  have hr := B.returns
  have hts := atoms_spec (ws := Cond.code yX2_rewind cX2_rewind 1 none :: ALL) B.pre
  have hta := fun w h => hts w (List.mem_cons_of_mem _ h)
  have hown : s.vm.findClass RX2 = some m.cls := findClass_of_methodNamed B.named
  have hlocks := B.notSynchronized
  have hS : va_S (geA b) s.heap s.heap [] := va_S.rf
  have hl := lv_entry ([.ref (b + 191)]) (n := 1) (Nat.le_of_ble_eq_true rfl)
  rw [lg_entry_eq]
  generalize (lg_sl ([.ref (b + 191)]) ++ List.replicate (1 - (lg_sl ([.ref (b + 191)])).length) Slot.unset).toArray = ls at hl ⊢
  have hl : lv_has ls 1 [(0, .ref (b + 191))] := hl
  unfold f_X2_rewind at hf
  refine lv_aload_n hx hb dX2_rewind_0 rfl (lv_at hl 0 rfl) ?_
  refine lv_iconst (v := 0) hx hb dX2_rewind_1 (by decide) ?_
  refine putX (k := 191) (q := (4, 0)) (ci := 2) (x := 0) inA2 tyX2_ok nmX2 rfl (by decide) rfl hx hb hta hown hE.1 hW hS sh_191 2 (by decide) q233 rfl rfl rfl (Nat.le_of_ble_eq_true rfl) rfl dX2_rewind_2 (fun H locs hW hS => ?_)
  obtain ⟨σ1, e2, hf⟩ := st_e hf
  rw [e2] at hW
  refine lv_aload_n hx hb dX2_rewind_5 rfl (lv_at hl 0 rfl) ?_
  refine lv_iconst (v := 0) hx hb dX2_rewind_6 (by decide) ?_
  refine putX (k := 191) (q := (4, 0)) (ci := 2) (x := 0) inA2 tyX2_ok nmX2 rfl (by decide) rfl hx hb hta hown hE.1 hW hS sh_191 3 (by decide) q234 rfl rfl rfl (Nat.le_of_ble_eq_true rfl) rfl dX2_rewind_7 (fun H locs hW hS => ?_)
  obtain ⟨σ3, e4, hf⟩ := st_e hf
  rw [e4] at hW
  cases hf
  exact W.vret hx hb hr (fun u hu _ => ⟨⟨rfl, by rw [hu]; exact hW⟩, hS.F hu⟩) hS.2.2 dX2_rewind_10
def f_X2_readSign (σ : Sg) (p1 : Int32) : Option (Int32 × Sg) := if (σ 191 1) ≤ (σ 191 2) then (some (0, σ)) else (gd (σ 191 2) 80 (if (σ (191 + 1) ((σ 191 2)).toNatClampNeg) = p1 then (st (u2 σ 191 2 ((σ 191 2) + 1)) fun σ4 => some (1, σ4)) else (some (0, σ))))
set_option maxHeartbeats 4000000 in
set_option maxRecDepth 100000 in
theorem c_X2_readSign (l : Launch) (D : va_G) (t : Nat → ClassId) (b : Nat) (σ : Sg) (p1 : Int32) (r : Int32) (σr : Sg) (hf : f_X2_readSign σ p1 = some (r, σr)) : Met l yX2_readSign (Cond.code yX2_readSign cX2_readSign 2 (some .boolean) :: ALL) ({ frames := 0, cells := 0, slots := 0, locals := 0 }) (PM D t b σ [.ref (b + 191), .int p1]) (QG D t b σr (some (.int r))) 0 0 (geA b) := by
  refine Met.ofW (cc := cX2_readSign) (maxL := 2) (ret := (some .boolean)) (by decide) rfl ?_
  intro p e s m args below meth c s₁ B hml hv
  obtain ⟨rfl, hW, hE⟩ := hv
  have hx := B.exec
  have hb := B.bytes
  have hr := B.returns
  have hts := atoms_spec (ws := Cond.code yX2_readSign cX2_readSign 2 (some .boolean) :: ALL) B.pre
  have hta := fun w h => hts w (List.mem_cons_of_mem _ h)
  have hown : s.vm.findClass RX2 = some m.cls := findClass_of_methodNamed B.named
  have hlocks := B.notSynchronized
  have hS : va_S (geA b) s.heap s.heap [] := va_S.rf
  have hl := lv_entry ([.ref (b + 191), .int p1]) (n := 2) (Nat.le_of_ble_eq_true rfl)
  rw [lg_entry_eq]
  generalize (lg_sl ([.ref (b + 191), .int p1]) ++ List.replicate (2 - (lg_sl ([.ref (b + 191), .int p1])).length) Slot.unset).toArray = ls at hl ⊢
  have hl : lv_has ls 2 [(0, .ref (b + 191)), (1, .int p1)] := hl
  unfold f_X2_readSign at hf
  refine lv_aload_n hx hb dX2_readSign_0 rfl (lv_at hl 0 rfl) ?_
  refine getO hx hb hta hown hE.1 hW sh_191 2 (by decide) q233 rfl dX2_readSign_1 ?_
  refine lv_aload_n hx hb dX2_readSign_4 rfl (lv_at hl 0 rfl) ?_
  refine getO hx hb hta hown hE.1 hW sh_191 1 (by decide) q231 rfl dX2_readSign_5 ?_
  refine lv_icmp_ge (tgt := 24) hx hb dX2_readSign_8 (by decide) (fun h1 => ?_) (fun h1 => ?_)
  · have hf := ifp h1 hf
    refine lv_iconst (v := 0) hx hb dX2_readSign_24 (by decide) ?_
    cases hf
    exact W.zret (ty := .boolean) hx hb hr (by decide) (fun u hu _ => ⟨⟨rfl, by rw [hu]; exact hW⟩, hS.F hu⟩) hS.2.2 dX2_readSign_25
  · have hf := ifn h1 hf
    refine lv_aload_n hx hb dX2_readSign_11 rfl (lv_at hl 0 rfl) ?_
    refine getO hx hb hta hown hE.1 hW sh_191 0 (by decide) q230 rfl dX2_readSign_12 ?_
    refine lv_aload_n hx hb dX2_readSign_15 rfl (lv_at hl 0 rfl) ?_
    refine getO hx hb hta hown hE.1 hW sh_191 2 (by decide) q233 rfl dX2_readSign_16 ?_
    obtain ⟨g2, hf⟩ := gd_e hf
    refine cald hx hb hE.1 hW sh_192 g2 dX2_readSign_19 ?_
    refine lv_iload_n hx hb dX2_readSign_20 rfl (lv_at hl 1 rfl) ?_
    refine lv_icmp_eq (tgt := 26) hx hb dX2_readSign_21 (by decide) (fun h3 => ?_) (fun h3 => ?_)
    · have hf := ifp h3 hf
      refine lv_aload_n hx hb dX2_readSign_26 rfl (lv_at hl 0 rfl) ?_
      refine lv_dup hx hb dX2_readSign_27 rfl ?_
      refine getO hx hb hta hown hE.1 hW sh_191 2 (by decide) q233 rfl dX2_readSign_28 ?_
      refine lv_iconst (v := 1) hx hb dX2_readSign_31 (by decide) ?_
      refine lv_iadd hx hb dX2_readSign_32 ?_
      refine putX (k := 191) (q := (4, 0)) (ci := 2) (x := ((σ 191 2) + 1)) inA2 tyX2_ok nmX2 rfl (by decide) rfl hx hb hta hown hE.1 hW hS sh_191 2 (by decide) q233 rfl rfl rfl (Nat.le_of_ble_eq_true rfl) rfl dX2_readSign_33 (fun H locs hW hS => ?_)
      obtain ⟨σ4, e5, hf⟩ := st_e hf
      rw [e5] at hW
      refine lv_iconst (v := 1) hx hb dX2_readSign_36 (by decide) ?_
      cases hf
      exact W.zret (ty := .boolean) hx hb hr (by decide) (fun u hu _ => ⟨⟨rfl, by rw [hu]; exact hW⟩, hS.F hu⟩) hS.2.2 dX2_readSign_37
    · have hf := ifn h3 hf
      refine lv_iconst (v := 0) hx hb dX2_readSign_24 (by decide) ?_
      cases hf
      exact W.zret (ty := .boolean) hx hb hr (by decide) (fun u hu _ => ⟨⟨rfl, by rw [hu]; exact hW⟩, hS.F hu⟩) hS.2.2 dX2_readSign_25
def f_X2_digitAt (σ : Sg) (p1 : Int32) : Option Int32 := if p1 < (σ 191 1) then (gd p1 80 (if ((σ (191 + 1) (p1).toNatClampNeg) - 48) < 0 then (some (-1)) else (if 9 < ((σ (191 + 1) (p1).toNatClampNeg) - 48) then (some (-1)) else (some ((σ (191 + 1) (p1).toNatClampNeg) - 48))))) else (some (-1))
set_option maxHeartbeats 4000000 in
set_option maxRecDepth 100000 in
theorem c_X2_digitAt (l : Launch) (D : va_G) (t : Nat → ClassId) (b : Nat) (σ : Sg) (p1 : Int32) (r : Int32) (hf : f_X2_digitAt σ p1 = some r) : Met l yX2_digitAt (Cond.code yX2_digitAt cX2_digitAt 3 (some .int) :: ALL) ({ frames := 0, cells := 0, slots := 0, locals := 0 }) (PM D t b σ [.ref (b + 191), .int p1]) (QG D t b σ (some (.int r))) 0 0 (geA b) := by
  refine Met.ofW (cc := cX2_digitAt) (maxL := 3) (ret := (some .int)) (by decide) rfl ?_
  intro p e s m args below meth c s₁ B hml hv
  obtain ⟨rfl, hW, hE⟩ := hv
  have hx := B.exec
  have hb := B.bytes
  have hr := B.returns
  have hts := atoms_spec (ws := Cond.code yX2_digitAt cX2_digitAt 3 (some .int) :: ALL) B.pre
  have hta := fun w h => hts w (List.mem_cons_of_mem _ h)
  have hown : s.vm.findClass RX2 = some m.cls := findClass_of_methodNamed B.named
  have hlocks := B.notSynchronized
  have hS : va_S (geA b) s.heap s.heap [] := va_S.rf
  have hl := lv_entry ([.ref (b + 191), .int p1]) (n := 3) (Nat.le_of_ble_eq_true rfl)
  rw [lg_entry_eq]
  generalize (lg_sl ([.ref (b + 191), .int p1]) ++ List.replicate (3 - (lg_sl ([.ref (b + 191), .int p1])).length) Slot.unset).toArray = ls at hl ⊢
  have hl : lv_has ls 3 [(0, .ref (b + 191)), (1, .int p1)] := hl
  unfold f_X2_digitAt at hf
  refine lv_iload_n hx hb dX2_digitAt_0 rfl (lv_at hl 1 rfl) ?_
  refine lv_aload_n hx hb dX2_digitAt_1 rfl (lv_at hl 0 rfl) ?_
  refine getO hx hb hta hown hE.1 hW sh_191 1 (by decide) q231 rfl dX2_digitAt_2 ?_
  refine lv_icmp_lt (tgt := 10) hx hb dX2_digitAt_5 (by decide) (fun h1 => ?_) (fun h1 => ?_)
  · have hf := ifp h1 hf
    refine lv_aload_n hx hb dX2_digitAt_10 rfl (lv_at hl 0 rfl) ?_
    refine getO hx hb hta hown hE.1 hW sh_191 0 (by decide) q230 rfl dX2_digitAt_11 ?_
    refine lv_iload_n hx hb dX2_digitAt_14 rfl (lv_at hl 1 rfl) ?_
    obtain ⟨g2, hf⟩ := gd_e hf
    refine cald hx hb hE.1 hW sh_192 g2 dX2_digitAt_15 ?_
    refine lv_bipush (v := 48) hx hb dX2_digitAt_16 (by decide) ?_
    refine lv_isub hx hb dX2_digitAt_18 ?_
    refine lv_istore_n (lv' := [(2, .int ((σ (191 + 1) (p1).toNatClampNeg) - 48)), (0, .ref (b + 191)), (1, .int p1)]) hx hb dX2_digitAt_19 rfl hl (by decide) rfl (fun ls hl => ?_)
    refine lv_iload_n hx hb dX2_digitAt_20 rfl (lv_at hl 0 rfl) ?_
    refine lv_if_lt (tgt := 34) hx hb dX2_digitAt_21 (by decide) (fun h3 => ?_) (fun h3 => ?_)
    · have hf := ifp h3 hf
      refine lv_iconst (v := (-1)) hx hb dX2_digitAt_34 (by decide) ?_
      cases hf
      exact W.iret hx hb hr (fun u hu _ => ⟨⟨rfl, by rw [hu]; exact hW⟩, hS.F hu⟩) hS.2.2 dX2_digitAt_35
    · have hf := ifn h3 hf
      refine lv_iload_n hx hb dX2_digitAt_24 rfl (lv_at hl 0 rfl) ?_
      refine lv_bipush (v := 9) hx hb dX2_digitAt_25 (by decide) ?_
      refine lv_icmp_gt (tgt := 34) hx hb dX2_digitAt_27 (by decide) (fun h4 => ?_) (fun h4 => ?_)
      · have hf := ifp h4 hf
        refine lv_iconst (v := (-1)) hx hb dX2_digitAt_34 (by decide) ?_
        cases hf
        exact W.iret hx hb hr (fun u hu _ => ⟨⟨rfl, by rw [hu]; exact hW⟩, hS.F hu⟩) hS.2.2 dX2_digitAt_35
      · have hf := ifn h4 hf
        refine lv_iload_n hx hb dX2_digitAt_30 rfl (lv_at hl 0 rfl) ?_
        refine lv_goto (tgt := 35) hx hb dX2_digitAt_31 (by decide) ?_
        cases hf
        exact W.iret hx hb hr (fun u hu _ => ⟨⟨rfl, by rw [hu]; exact hW⟩, hS.F hu⟩) hS.2.2 dX2_digitAt_35
  · have hf := ifn h1 hf
    refine lv_iconst (v := (-1)) hx hb dX2_digitAt_8 (by decide) ?_
    cases hf
    exact W.iret hx hb hr (fun u hu _ => ⟨⟨rfl, by rw [hu]; exact hW⟩, hS.F hu⟩) hS.2.2 dX2_digitAt_9
def f_X2_readDigits (σ : Sg) (p1 : Int32) (p2 : Int32) : Option (Int32 × Sg) := b1 (f_X2_digitAt σ (σ 191 2)) fun y1 => if y1 = (-1) then (some ((-1), σ)) else (if y1 < p1 then (some ((-1), σ)) else (if y1 ≤ p2 then (st (u2 σ 191 2 ((σ 191 2) + 1)) fun σ6 => b1 (f_X2_digitAt σ6 (σ6 191 2)) fun y8 => if y1 ≤ 0 then (some (y1, σ6)) else (if y8 = (-1) then (some (y1, σ6)) else (if p2 < ((y1 * 10) + y8) then (some (y1, σ6)) else (st (u2 σ6 191 2 ((σ6 191 2) + 1)) fun σ13 => some (((y1 * 10) + y8), σ13))))) else (some ((-1), σ))))
set_option maxHeartbeats 4000000 in
set_option maxRecDepth 100000 in
theorem c_X2_readDigits (l : Launch) (D : va_G) (t : Nat → ClassId) (b : Nat) (σ : Sg) (p1 : Int32) (p2 : Int32) (r : Int32) (σr : Sg) (hf : f_X2_readDigits σ p1 p2 = some (r, σr)) : Met l yX2_readDigits (Cond.code yX2_readDigits cX2_readDigits 5 (some .int) :: ALL) ({ frames := 1, cells := 0, slots := 0, locals := 22 }) (PM D t b σ [.ref (b + 191), .int p1, .int p2]) (QG D t b σr (some (.int r))) 0 0 (geA b) := by
  refine Met.ofW (cc := cX2_readDigits) (maxL := 5) (ret := (some .int)) (by decide) rfl ?_
  intro p e s m args below meth c s₁ B hml hv
  obtain ⟨rfl, hW, hE⟩ := hv
  have hx := B.exec
  have hb := B.bytes
  have hr := B.returns
  have hts := atoms_spec (ws := Cond.code yX2_readDigits cX2_readDigits 5 (some .int) :: ALL) B.pre
  have hta := fun w h => hts w (List.mem_cons_of_mem _ h)
  have hown : s.vm.findClass RX2 = some m.cls := findClass_of_methodNamed B.named
  have hlocks := B.notSynchronized
  have hS : va_S (geA b) s.heap s.heap [] := va_S.rf
  have hl := lv_entry ([.ref (b + 191), .int p1, .int p2]) (n := 5) (Nat.le_of_ble_eq_true rfl)
  rw [lg_entry_eq]
  generalize (lg_sl ([.ref (b + 191), .int p1, .int p2]) ++ List.replicate (5 - (lg_sl ([.ref (b + 191), .int p1, .int p2])).length) Slot.unset).toArray = ls at hl ⊢
  have hl : lv_has ls 5 [(0, .ref (b + 191)), (1, .int p1), (2, .int p2)] := hl
  unfold f_X2_readDigits at hf
  refine lv_aload_n hx hb dX2_readDigits_0 rfl (lv_at hl 0 rfl) ?_
  refine lv_aload_n hx hb dX2_readDigits_1 rfl (lv_at hl 0 rfl) ?_
  refine getO hx hb hta hown hE.1 hW sh_191 2 (by decide) q233 rfl dX2_readDigits_2 ?_
  obtain ⟨y1, u2, hf⟩ := b1_e hf
  refine mV (k := 191) (q := (4, 0)) (C := RX2) (T := TX2) (N := 11) (ci := 2) (n := 1) (As := [.int (σ 191 2)]) (rest := []) (c_X2_digitAt l D t b σ (σ 191 2) y1 u2) sh_191 (by decide) rfl rfl hx hb hml hown hts hE hW hS q880 q882 q24 q38 q883 hy_X2_digitAt ⟨rfl, rfl⟩ ⟨Nat.le_of_ble_eq_true rfl, Nat.le_of_ble_eq_true rfl⟩ rfl rfl hl.1 (Nat.le_of_ble_eq_true rfl) ⟨Nat.zero_le _, Nat.zero_le _⟩ dX2_readDigits_5 (fun H locs hW hS => ?_)
  refine lv_istore_n (lv' := [(3, .int y1), (0, .ref (b + 191)), (1, .int p1), (2, .int p2)]) hx hb dX2_readDigits_8 rfl hl (by decide) rfl (fun ls hl => ?_)
  refine lv_iload_n hx hb dX2_readDigits_9 rfl (lv_at hl 0 rfl) ?_
  refine lv_iconst (v := (-1)) hx hb dX2_readDigits_10 (by decide) ?_
  refine lv_icmp_eq (tgt := 24) hx hb dX2_readDigits_11 (by decide) (fun h3 => ?_) (fun h3 => ?_)
  · have hf := ifp h3 hf
    refine lv_iconst (v := (-1)) hx hb dX2_readDigits_24 (by decide) ?_
    cases hf
    exact W.iret hx hb hr (fun u hu _ => ⟨⟨rfl, by rw [hu]; exact hW⟩, hS.F hu⟩) hS.2.2 dX2_readDigits_25
  · have hf := ifn h3 hf
    refine lv_iload_n hx hb dX2_readDigits_14 rfl (lv_at hl 0 rfl) ?_
    refine lv_iload_n hx hb dX2_readDigits_15 rfl (lv_at hl 2 rfl) ?_
    refine lv_icmp_lt (tgt := 24) hx hb dX2_readDigits_16 (by decide) (fun h4 => ?_) (fun h4 => ?_)
    · have hf := ifp h4 hf
      refine lv_iconst (v := (-1)) hx hb dX2_readDigits_24 (by decide) ?_
      cases hf
      exact W.iret hx hb hr (fun u hu _ => ⟨⟨rfl, by rw [hu]; exact hW⟩, hS.F hu⟩) hS.2.2 dX2_readDigits_25
    · have hf := ifn h4 hf
      refine lv_iload_n hx hb dX2_readDigits_19 rfl (lv_at hl 0 rfl) ?_
      refine lv_iload_n hx hb dX2_readDigits_20 rfl (lv_at hl 3 rfl) ?_
      refine lv_icmp_le (tgt := 26) hx hb dX2_readDigits_21 (by decide) (fun h5 => ?_) (fun h5 => ?_)
      · have hf := ifp h5 hf
        refine lv_aload_n hx hb dX2_readDigits_26 rfl (lv_at hl 1 rfl) ?_
        refine lv_dup hx hb dX2_readDigits_27 rfl ?_
        refine getO hx hb hta hown hE.1 hW sh_191 2 (by decide) q233 rfl dX2_readDigits_28 ?_
        refine lv_iconst (v := 1) hx hb dX2_readDigits_31 (by decide) ?_
        refine lv_iadd hx hb dX2_readDigits_32 ?_
        refine putX (k := 191) (q := (4, 0)) (ci := 2) (x := ((σ 191 2) + 1)) inA2 tyX2_ok nmX2 rfl (by decide) rfl hx hb hta hown hE.1 hW hS sh_191 2 (by decide) q233 rfl rfl rfl (Nat.le_of_ble_eq_true rfl) rfl dX2_readDigits_33 (fun H locs hW hS => ?_)
        obtain ⟨σ6, e7, hf⟩ := st_e hf
        rw [e7] at hW
        refine lv_aload_n hx hb dX2_readDigits_36 rfl (lv_at hl 1 rfl) ?_
        refine lv_aload_n hx hb dX2_readDigits_37 rfl (lv_at hl 1 rfl) ?_
        refine getO hx hb hta hown hE.1 hW sh_191 2 (by decide) q233 rfl dX2_readDigits_38 ?_
        obtain ⟨y8, u9, hf⟩ := b1_e hf
        refine mV (k := 191) (q := (4, 0)) (C := RX2) (T := TX2) (N := 11) (ci := 2) (n := 1) (As := [.int (σ6 191 2)]) (rest := []) (c_X2_digitAt l D t b σ6 (σ6 191 2) y8 u9) sh_191 (by decide) rfl rfl hx hb hml hown hts hE hW hS q880 q882 q24 q38 q883 hy_X2_digitAt ⟨rfl, rfl⟩ ⟨Nat.le_of_ble_eq_true rfl, Nat.le_of_ble_eq_true rfl⟩ rfl rfl hl.1 (Nat.le_of_ble_eq_true rfl) ⟨Nat.zero_le _, Nat.zero_le _⟩ dX2_readDigits_41 (fun H locs hW hS => ?_)
        refine lv_istore (lv' := [(4, .int y8), (3, .int y1), (0, .ref (b + 191)), (1, .int p1), (2, .int p2)]) hx hb dX2_readDigits_44 hl (by decide) rfl (fun ls hl => ?_)
        refine lv_iload_n hx hb dX2_readDigits_46 rfl (lv_at hl 1 rfl) ?_
        refine lv_if_le (tgt := 85) hx hb dX2_readDigits_47 (by decide) (fun h10 => ?_) (fun h10 => ?_)
        · have hf := ifp h10 hf
          refine lv_iload_n hx hb dX2_readDigits_85 rfl (lv_at hl 1 rfl) ?_
          cases hf
          exact W.iret hx hb hr (fun u hu _ => ⟨⟨rfl, by rw [hu]; exact hW⟩, hS.F hu⟩) hS.2.2 dX2_readDigits_86
        · have hf := ifn h10 hf
          refine lv_iload hx hb dX2_readDigits_50 (lv_at hl 0 rfl) ?_
          refine lv_iconst (v := (-1)) hx hb dX2_readDigits_52 (by decide) ?_
          refine lv_icmp_eq (tgt := 85) hx hb dX2_readDigits_53 (by decide) (fun h11 => ?_) (fun h11 => ?_)
          · have hf := ifp h11 hf
            refine lv_iload_n hx hb dX2_readDigits_85 rfl (lv_at hl 1 rfl) ?_
            cases hf
            exact W.iret hx hb hr (fun u hu _ => ⟨⟨rfl, by rw [hu]; exact hW⟩, hS.F hu⟩) hS.2.2 dX2_readDigits_86
          · have hf := ifn h11 hf
            refine lv_iload_n hx hb dX2_readDigits_56 rfl (lv_at hl 1 rfl) ?_
            refine lv_bipush (v := 10) hx hb dX2_readDigits_57 (by decide) ?_
            refine lv_imul hx hb dX2_readDigits_59 ?_
            refine lv_iload hx hb dX2_readDigits_60 (lv_at hl 0 rfl) ?_
            refine lv_iadd hx hb dX2_readDigits_62 ?_
            refine lv_iload_n hx hb dX2_readDigits_63 rfl (lv_at hl 4 rfl) ?_
            refine lv_icmp_gt (tgt := 85) hx hb dX2_readDigits_64 (by decide) (fun h12 => ?_) (fun h12 => ?_)
            · have hf := ifp h12 hf
              refine lv_iload_n hx hb dX2_readDigits_85 rfl (lv_at hl 1 rfl) ?_
              cases hf
              exact W.iret hx hb hr (fun u hu _ => ⟨⟨rfl, by rw [hu]; exact hW⟩, hS.F hu⟩) hS.2.2 dX2_readDigits_86
            · have hf := ifn h12 hf
              refine lv_iload_n hx hb dX2_readDigits_67 rfl (lv_at hl 1 rfl) ?_
              refine lv_bipush (v := 10) hx hb dX2_readDigits_68 (by decide) ?_
              refine lv_imul hx hb dX2_readDigits_70 ?_
              refine lv_iload hx hb dX2_readDigits_71 (lv_at hl 0 rfl) ?_
              refine lv_iadd hx hb dX2_readDigits_73 ?_
              refine lv_istore_n (lv' := [(3, .int ((y1 * 10) + y8)), (4, .int y8), (0, .ref (b + 191)), (1, .int p1), (2, .int p2)]) hx hb dX2_readDigits_74 rfl hl (by decide) rfl (fun ls hl => ?_)
              refine lv_aload_n hx hb dX2_readDigits_75 rfl (lv_at hl 2 rfl) ?_
              refine lv_dup hx hb dX2_readDigits_76 rfl ?_
              refine getO hx hb hta hown hE.1 hW sh_191 2 (by decide) q233 rfl dX2_readDigits_77 ?_
              refine lv_iconst (v := 1) hx hb dX2_readDigits_80 (by decide) ?_
              refine lv_iadd hx hb dX2_readDigits_81 ?_
              refine putX (k := 191) (q := (4, 0)) (ci := 2) (x := ((σ6 191 2) + 1)) inA2 tyX2_ok nmX2 rfl (by decide) rfl hx hb hta hown hE.1 hW hS sh_191 2 (by decide) q233 rfl rfl rfl (Nat.le_of_ble_eq_true rfl) rfl dX2_readDigits_82 (fun H locs hW hS => ?_)
              obtain ⟨σ13, e14, hf⟩ := st_e hf
              rw [e14] at hW
              refine lv_iload_n hx hb dX2_readDigits_85 rfl (lv_at hl 0 rfl) ?_
              cases hf
              exact W.iret hx hb hr (fun u hu _ => ⟨⟨rfl, by rw [hu]; exact hW⟩, hS.F hu⟩) hS.2.2 dX2_readDigits_86
      · have hf := ifn h5 hf
        refine lv_iconst (v := (-1)) hx hb dX2_readDigits_24 (by decide) ?_
        cases hf
        exact W.iret hx hb hr (fun u hu _ => ⟨⟨rfl, by rw [hu]; exact hW⟩, hS.F hu⟩) hS.2.2 dX2_readDigits_25
def f_X2_readPlace (σ : Sg) (p1 : Int32) : Option (Int32 × Sg) := b2 (f_X2_readDigits σ 0 p1) fun y1 σ3 => st (u2 σ3 191 5 y1) fun σ4 => if (σ4 191 5) = (-1) then (some (0, σ4)) else (some (1, σ4))
set_option maxHeartbeats 4000000 in
set_option maxRecDepth 100000 in
theorem c_X2_readPlace (l : Launch) (D : va_G) (t : Nat → ClassId) (b : Nat) (σ : Sg) (p1 : Int32) (r : Int32) (σr : Sg) (hf : f_X2_readPlace σ p1 = some (r, σr)) : Met l yX2_readPlace (Cond.code yX2_readPlace cX2_readPlace 2 (some .boolean) :: ALL) ({ frames := 2, cells := 0, slots := 0, locals := 46 }) (PM D t b σ [.ref (b + 191), .int p1]) (QG D t b σr (some (.int r))) 0 0 (geA b) := by
  refine Met.ofW (cc := cX2_readPlace) (maxL := 2) (ret := (some .boolean)) (by decide) rfl ?_
  intro p e s m args below meth c s₁ B hml hv
  obtain ⟨rfl, hW, hE⟩ := hv
  have hx := B.exec
  have hb := B.bytes
  have hr := B.returns
  have hts := atoms_spec (ws := Cond.code yX2_readPlace cX2_readPlace 2 (some .boolean) :: ALL) B.pre
  have hta := fun w h => hts w (List.mem_cons_of_mem _ h)
  have hown : s.vm.findClass RX2 = some m.cls := findClass_of_methodNamed B.named
  have hlocks := B.notSynchronized
  have hS : va_S (geA b) s.heap s.heap [] := va_S.rf
  have hl := lv_entry ([.ref (b + 191), .int p1]) (n := 2) (Nat.le_of_ble_eq_true rfl)
  rw [lg_entry_eq]
  generalize (lg_sl ([.ref (b + 191), .int p1]) ++ List.replicate (2 - (lg_sl ([.ref (b + 191), .int p1])).length) Slot.unset).toArray = ls at hl ⊢
  have hl : lv_has ls 2 [(0, .ref (b + 191)), (1, .int p1)] := hl
  unfold f_X2_readPlace at hf
  refine lv_aload_n hx hb dX2_readPlace_0 rfl (lv_at hl 0 rfl) ?_
  refine lv_aload_n hx hb dX2_readPlace_1 rfl (lv_at hl 0 rfl) ?_
  refine lv_iconst (v := 0) hx hb dX2_readPlace_2 (by decide) ?_
  refine lv_iload_n hx hb dX2_readPlace_3 rfl (lv_at hl 1 rfl) ?_
  obtain ⟨y1, σ3, u2, hf⟩ := b2_e hf
  refine mV (k := 191) (q := (4, 0)) (C := RX2) (T := TX2) (N := 11) (ci := 2) (n := 2) (As := [.int 0, .int p1]) (rest := [.ref (b + 191)]) (c_X2_readDigits l D t b σ 0 p1 y1 σ3 u2) sh_191 (by decide) rfl rfl hx hb hml hown hts hE hW hS q876 q878 q23 q38 q879 hy_X2_readDigits ⟨rfl, rfl⟩ ⟨Nat.le_of_ble_eq_true rfl, Nat.le_of_ble_eq_true rfl⟩ rfl rfl hl.1 (Nat.le_of_ble_eq_true rfl) ⟨Nat.zero_le _, Nat.zero_le _⟩ dX2_readPlace_4 (fun H locs hW hS => ?_)
  refine putX (k := 191) (q := (4, 0)) (ci := 2) (x := y1) inA2 tyX2_ok nmX2 rfl (by decide) rfl hx hb hta hown hE.1 hW hS sh_191 5 (by decide) q239 rfl rfl rfl (Nat.le_of_ble_eq_true rfl) rfl dX2_readPlace_7 (fun H locs hW hS => ?_)
  obtain ⟨σ4, e5, hf⟩ := st_e hf
  rw [e5] at hW
  refine lv_aload_n hx hb dX2_readPlace_10 rfl (lv_at hl 0 rfl) ?_
  refine getO hx hb hta hown hE.1 hW sh_191 5 (by decide) q239 rfl dX2_readPlace_11 ?_
  refine lv_iconst (v := (-1)) hx hb dX2_readPlace_14 (by decide) ?_
  refine lv_icmp_eq (tgt := 22) hx hb dX2_readPlace_15 (by decide) (fun h6 => ?_) (fun h6 => ?_)
  · have hf := ifp h6 hf
    refine lv_iconst (v := 0) hx hb dX2_readPlace_22 (by decide) ?_
    cases hf
    exact W.zret (ty := .boolean) hx hb hr (by decide) (fun u hu _ => ⟨⟨rfl, by rw [hu]; exact hW⟩, hS.F hu⟩) hS.2.2 dX2_readPlace_23
  · have hf := ifn h6 hf
    refine lv_iconst (v := 1) hx hb dX2_readPlace_18 (by decide) ?_
    refine lv_goto (tgt := 23) hx hb dX2_readPlace_19 (by decide) ?_
    cases hf
    exact W.zret (ty := .boolean) hx hb hr (by decide) (fun u hu _ => ⟨⟨rfl, by rw [hu]; exact hW⟩, hS.F hu⟩) hS.2.2 dX2_readPlace_23
def f_X2_kindAt (σ : Sg) (p1 : Int32) : Option Int32 := if p1 < (σ 191 1) then (gd p1 80 (if (σ (191 + 1) (p1).toNatClampNeg) = 104 then (some 0) else (if (σ (191 + 1) (p1).toNatClampNeg) = 100 then (some 1) else (if (σ (191 + 1) (p1).toNatClampNeg) = 99 then (some 2) else (if (σ (191 + 1) (p1).toNatClampNeg) = 108 then (some 3) else (if (σ (191 + 1) (p1).toNatClampNeg) = 116 then (some 4) else (some (-1)))))))) else (some (-1))
set_option maxHeartbeats 4000000 in
set_option maxRecDepth 100000 in
theorem c_X2_kindAt (l : Launch) (D : va_G) (t : Nat → ClassId) (b : Nat) (σ : Sg) (p1 : Int32) (r : Int32) (hf : f_X2_kindAt σ p1 = some r) : Met l yX2_kindAt (Cond.code yX2_kindAt cX2_kindAt 3 (some .int) :: ALL) ({ frames := 0, cells := 0, slots := 0, locals := 0 }) (PM D t b σ [.ref (b + 191), .int p1]) (QG D t b σ (some (.int r))) 0 0 (geA b) := by
  refine Met.ofW (cc := cX2_kindAt) (maxL := 3) (ret := (some .int)) (by decide) rfl ?_
  intro p e s m args below meth c s₁ B hml hv
  obtain ⟨rfl, hW, hE⟩ := hv
  have hx := B.exec
  have hb := B.bytes
  have hr := B.returns
  have hts := atoms_spec (ws := Cond.code yX2_kindAt cX2_kindAt 3 (some .int) :: ALL) B.pre
  have hta := fun w h => hts w (List.mem_cons_of_mem _ h)
  have hown : s.vm.findClass RX2 = some m.cls := findClass_of_methodNamed B.named
  have hlocks := B.notSynchronized
  have hS : va_S (geA b) s.heap s.heap [] := va_S.rf
  have hl := lv_entry ([.ref (b + 191), .int p1]) (n := 3) (Nat.le_of_ble_eq_true rfl)
  rw [lg_entry_eq]
  generalize (lg_sl ([.ref (b + 191), .int p1]) ++ List.replicate (3 - (lg_sl ([.ref (b + 191), .int p1])).length) Slot.unset).toArray = ls at hl ⊢
  have hl : lv_has ls 3 [(0, .ref (b + 191)), (1, .int p1)] := hl
  unfold f_X2_kindAt at hf
  refine lv_iload_n hx hb dX2_kindAt_0 rfl (lv_at hl 1 rfl) ?_
  refine lv_aload_n hx hb dX2_kindAt_1 rfl (lv_at hl 0 rfl) ?_
  refine getO hx hb hta hown hE.1 hW sh_191 1 (by decide) q231 rfl dX2_kindAt_2 ?_
  refine lv_icmp_lt (tgt := 10) hx hb dX2_kindAt_5 (by decide) (fun h1 => ?_) (fun h1 => ?_)
  · have hf := ifp h1 hf
    refine lv_aload_n hx hb dX2_kindAt_10 rfl (lv_at hl 0 rfl) ?_
    refine getO hx hb hta hown hE.1 hW sh_191 0 (by decide) q230 rfl dX2_kindAt_11 ?_
    refine lv_iload_n hx hb dX2_kindAt_14 rfl (lv_at hl 1 rfl) ?_
    obtain ⟨g2, hf⟩ := gd_e hf
    refine cald hx hb hE.1 hW sh_192 g2 dX2_kindAt_15 ?_
    refine lv_istore_n (lv' := [(2, .int (σ (191 + 1) (p1).toNatClampNeg)), (0, .ref (b + 191)), (1, .int p1)]) hx hb dX2_kindAt_16 rfl hl (by decide) rfl (fun ls hl => ?_)
    refine lv_iload_n hx hb dX2_kindAt_17 rfl (lv_at hl 0 rfl) ?_
    refine lv_bipush (v := 104) hx hb dX2_kindAt_18 (by decide) ?_
    refine lv_icmp_ne (tgt := 25) hx hb dX2_kindAt_20 (by decide) (fun h3 => ?_) (fun h3 => ?_)
    · have hf := ifn h3 hf
      refine lv_iload_n hx hb dX2_kindAt_25 rfl (lv_at hl 0 rfl) ?_
      refine lv_bipush (v := 100) hx hb dX2_kindAt_26 (by decide) ?_
      refine lv_icmp_ne (tgt := 33) hx hb dX2_kindAt_28 (by decide) (fun h4 => ?_) (fun h4 => ?_)
      · have hf := ifn h4 hf
        refine lv_iload_n hx hb dX2_kindAt_33 rfl (lv_at hl 0 rfl) ?_
        refine lv_bipush (v := 99) hx hb dX2_kindAt_34 (by decide) ?_
        refine lv_icmp_ne (tgt := 41) hx hb dX2_kindAt_36 (by decide) (fun h5 => ?_) (fun h5 => ?_)
        · have hf := ifn h5 hf
          refine lv_iload_n hx hb dX2_kindAt_41 rfl (lv_at hl 0 rfl) ?_
          refine lv_bipush (v := 108) hx hb dX2_kindAt_42 (by decide) ?_
          refine lv_icmp_ne (tgt := 49) hx hb dX2_kindAt_44 (by decide) (fun h6 => ?_) (fun h6 => ?_)
          · have hf := ifn h6 hf
            refine lv_iload_n hx hb dX2_kindAt_49 rfl (lv_at hl 0 rfl) ?_
            refine lv_bipush (v := 116) hx hb dX2_kindAt_50 (by decide) ?_
            refine lv_icmp_ne (tgt := 59) hx hb dX2_kindAt_52 (by decide) (fun h7 => ?_) (fun h7 => ?_)
            · have hf := ifn h7 hf
              refine lv_iconst (v := (-1)) hx hb dX2_kindAt_59 (by decide) ?_
              cases hf
              exact W.iret hx hb hr (fun u hu _ => ⟨⟨rfl, by rw [hu]; exact hW⟩, hS.F hu⟩) hS.2.2 dX2_kindAt_60
            · have hf := ifp h7 hf
              refine lv_iconst (v := 4) hx hb dX2_kindAt_55 (by decide) ?_
              refine lv_goto (tgt := 60) hx hb dX2_kindAt_56 (by decide) ?_
              cases hf
              exact W.iret hx hb hr (fun u hu _ => ⟨⟨rfl, by rw [hu]; exact hW⟩, hS.F hu⟩) hS.2.2 dX2_kindAt_60
          · have hf := ifp h6 hf
            refine lv_iconst (v := 3) hx hb dX2_kindAt_47 (by decide) ?_
            cases hf
            exact W.iret hx hb hr (fun u hu _ => ⟨⟨rfl, by rw [hu]; exact hW⟩, hS.F hu⟩) hS.2.2 dX2_kindAt_48
        · have hf := ifp h5 hf
          refine lv_iconst (v := 2) hx hb dX2_kindAt_39 (by decide) ?_
          cases hf
          exact W.iret hx hb hr (fun u hu _ => ⟨⟨rfl, by rw [hu]; exact hW⟩, hS.F hu⟩) hS.2.2 dX2_kindAt_40
      · have hf := ifp h4 hf
        refine lv_iconst (v := 1) hx hb dX2_kindAt_31 (by decide) ?_
        cases hf
        exact W.iret hx hb hr (fun u hu _ => ⟨⟨rfl, by rw [hu]; exact hW⟩, hS.F hu⟩) hS.2.2 dX2_kindAt_32
    · have hf := ifp h3 hf
      refine lv_iconst (v := 0) hx hb dX2_kindAt_23 (by decide) ?_
      cases hf
      exact W.iret hx hb hr (fun u hu _ => ⟨⟨rfl, by rw [hu]; exact hW⟩, hS.F hu⟩) hS.2.2 dX2_kindAt_24
  · have hf := ifn h1 hf
    refine lv_iconst (v := (-1)) hx hb dX2_kindAt_8 (by decide) ?_
    cases hf
    exact W.iret hx hb hr (fun u hu _ => ⟨⟨rfl, by rw [hu]; exact hW⟩, hS.F hu⟩) hS.2.2 dX2_kindAt_9
def f_X2_readKind (σ : Sg) : Option (Int32 × Sg) := b1 (f_X2_kindAt σ (σ 191 2)) fun y1 => st (u2 σ 191 6 y1) fun σ3 => if (σ3 191 6) = (-1) then (some (0, σ3)) else (st (u2 σ3 191 2 ((σ3 191 2) + 1)) fun σ6 => some (1, σ6))
set_option maxHeartbeats 4000000 in
set_option maxRecDepth 100000 in
theorem c_X2_readKind (l : Launch) (D : va_G) (t : Nat → ClassId) (b : Nat) (σ : Sg) (r : Int32) (σr : Sg) (hf : f_X2_readKind σ = some (r, σr)) : Met l yX2_readKind (Cond.code yX2_readKind cX2_readKind 1 (some .boolean) :: ALL) ({ frames := 1, cells := 0, slots := 0, locals := 22 }) (PM D t b σ [.ref (b + 191)]) (QG D t b σr (some (.int r))) 0 0 (geA b) := by
  refine Met.ofW (cc := cX2_readKind) (maxL := 1) (ret := (some .boolean)) (by decide) rfl ?_
  intro p e s m args below meth c s₁ B hml hv
  obtain ⟨rfl, hW, hE⟩ := hv
  have hx := B.exec
  have hb := B.bytes
  have hr := B.returns
  have hts := atoms_spec (ws := Cond.code yX2_readKind cX2_readKind 1 (some .boolean) :: ALL) B.pre
  have hta := fun w h => hts w (List.mem_cons_of_mem _ h)
  have hown : s.vm.findClass RX2 = some m.cls := findClass_of_methodNamed B.named
  have hlocks := B.notSynchronized
  have hS : va_S (geA b) s.heap s.heap [] := va_S.rf
  have hl := lv_entry ([.ref (b + 191)]) (n := 1) (Nat.le_of_ble_eq_true rfl)
  rw [lg_entry_eq]
  generalize (lg_sl ([.ref (b + 191)]) ++ List.replicate (1 - (lg_sl ([.ref (b + 191)])).length) Slot.unset).toArray = ls at hl ⊢
  have hl : lv_has ls 1 [(0, .ref (b + 191))] := hl
  unfold f_X2_readKind at hf
  refine lv_aload_n hx hb dX2_readKind_0 rfl (lv_at hl 0 rfl) ?_
  refine lv_aload_n hx hb dX2_readKind_1 rfl (lv_at hl 0 rfl) ?_
  refine lv_aload_n hx hb dX2_readKind_2 rfl (lv_at hl 0 rfl) ?_
  refine getO hx hb hta hown hE.1 hW sh_191 2 (by decide) q233 rfl dX2_readKind_3 ?_
  obtain ⟨y1, u2, hf⟩ := b1_e hf
  refine mV (k := 191) (q := (4, 0)) (C := RX2) (T := TX2) (N := 11) (ci := 2) (n := 1) (As := [.int (σ 191 2)]) (rest := [.ref (b + 191)]) (c_X2_kindAt l D t b σ (σ 191 2) y1 u2) sh_191 (by decide) rfl rfl hx hb hml hown hts hE hW hS q888 q890 q26 q38 q891 hy_X2_kindAt ⟨rfl, rfl⟩ ⟨Nat.le_of_ble_eq_true rfl, Nat.le_of_ble_eq_true rfl⟩ rfl rfl hl.1 (Nat.le_of_ble_eq_true rfl) ⟨Nat.zero_le _, Nat.zero_le _⟩ dX2_readKind_6 (fun H locs hW hS => ?_)
  refine putX (k := 191) (q := (4, 0)) (ci := 2) (x := y1) inA2 tyX2_ok nmX2 rfl (by decide) rfl hx hb hta hown hE.1 hW hS sh_191 6 (by decide) q241 rfl rfl rfl (Nat.le_of_ble_eq_true rfl) rfl dX2_readKind_9 (fun H locs hW hS => ?_)
  obtain ⟨σ3, e4, hf⟩ := st_e hf
  rw [e4] at hW
  refine lv_aload_n hx hb dX2_readKind_12 rfl (lv_at hl 0 rfl) ?_
  refine getO hx hb hta hown hE.1 hW sh_191 6 (by decide) q241 rfl dX2_readKind_13 ?_
  refine lv_iconst (v := (-1)) hx hb dX2_readKind_16 (by decide) ?_
  refine lv_icmp_ne (tgt := 22) hx hb dX2_readKind_17 (by decide) (fun h5 => ?_) (fun h5 => ?_)
  · have hf := ifn h5 hf
    refine lv_aload_n hx hb dX2_readKind_22 rfl (lv_at hl 0 rfl) ?_
    refine lv_dup hx hb dX2_readKind_23 rfl ?_
    refine getO hx hb hta hown hE.1 hW sh_191 2 (by decide) q233 rfl dX2_readKind_24 ?_
    refine lv_iconst (v := 1) hx hb dX2_readKind_27 (by decide) ?_
    refine lv_iadd hx hb dX2_readKind_28 ?_
    refine putX (k := 191) (q := (4, 0)) (ci := 2) (x := ((σ3 191 2) + 1)) inA2 tyX2_ok nmX2 rfl (by decide) rfl hx hb hta hown hE.1 hW hS sh_191 2 (by decide) q233 rfl rfl rfl (Nat.le_of_ble_eq_true rfl) rfl dX2_readKind_29 (fun H locs hW hS => ?_)
    obtain ⟨σ6, e7, hf⟩ := st_e hf
    rw [e7] at hW
    refine lv_iconst (v := 1) hx hb dX2_readKind_32 (by decide) ?_
    cases hf
    exact W.zret (ty := .boolean) hx hb hr (by decide) (fun u hu _ => ⟨⟨rfl, by rw [hu]; exact hW⟩, hS.F hu⟩) hS.2.2 dX2_readKind_33
  · have hf := ifp h5 hf
    refine lv_iconst (v := 0) hx hb dX2_readKind_20 (by decide) ?_
    cases hf
    exact W.zret (ty := .boolean) hx hb hr (by decide) (fun u hu _ => ⟨⟨rfl, by rw [hu]; exact hW⟩, hS.F hu⟩) hS.2.2 dX2_readKind_21
def f_X2_readCount (σ : Sg) (p1 : Int32) (p2 : Int32) : Option (Int32 × Sg) := b2 (f_X2_readDigits σ p1 p2) fun y1 σ3 => st (u2 σ3 191 9 y1) fun σ4 => if (σ4 191 9) = (-1) then (some (0, σ4)) else (some (1, σ4))
set_option maxHeartbeats 4000000 in
set_option maxRecDepth 100000 in
theorem c_X2_readCount (l : Launch) (D : va_G) (t : Nat → ClassId) (b : Nat) (σ : Sg) (p1 : Int32) (p2 : Int32) (r : Int32) (σr : Sg) (hf : f_X2_readCount σ p1 p2 = some (r, σr)) : Met l yX2_readCount (Cond.code yX2_readCount cX2_readCount 3 (some .boolean) :: ALL) ({ frames := 2, cells := 0, slots := 0, locals := 46 }) (PM D t b σ [.ref (b + 191), .int p1, .int p2]) (QG D t b σr (some (.int r))) 0 0 (geA b) := by
  refine Met.ofW (cc := cX2_readCount) (maxL := 3) (ret := (some .boolean)) (by decide) rfl ?_
  intro p e s m args below meth c s₁ B hml hv
  obtain ⟨rfl, hW, hE⟩ := hv
  have hx := B.exec
  have hb := B.bytes
  have hr := B.returns
  have hts := atoms_spec (ws := Cond.code yX2_readCount cX2_readCount 3 (some .boolean) :: ALL) B.pre
  have hta := fun w h => hts w (List.mem_cons_of_mem _ h)
  have hown : s.vm.findClass RX2 = some m.cls := findClass_of_methodNamed B.named
  have hlocks := B.notSynchronized
  have hS : va_S (geA b) s.heap s.heap [] := va_S.rf
  have hl := lv_entry ([.ref (b + 191), .int p1, .int p2]) (n := 3) (Nat.le_of_ble_eq_true rfl)
  rw [lg_entry_eq]
  generalize (lg_sl ([.ref (b + 191), .int p1, .int p2]) ++ List.replicate (3 - (lg_sl ([.ref (b + 191), .int p1, .int p2])).length) Slot.unset).toArray = ls at hl ⊢
  have hl : lv_has ls 3 [(0, .ref (b + 191)), (1, .int p1), (2, .int p2)] := hl
  unfold f_X2_readCount at hf
  refine lv_aload_n hx hb dX2_readCount_0 rfl (lv_at hl 0 rfl) ?_
  refine lv_aload_n hx hb dX2_readCount_1 rfl (lv_at hl 0 rfl) ?_
  refine lv_iload_n hx hb dX2_readCount_2 rfl (lv_at hl 1 rfl) ?_
  refine lv_iload_n hx hb dX2_readCount_3 rfl (lv_at hl 2 rfl) ?_
  obtain ⟨y1, σ3, u2, hf⟩ := b2_e hf
  refine mV (k := 191) (q := (4, 0)) (C := RX2) (T := TX2) (N := 11) (ci := 2) (n := 2) (As := [.int p1, .int p2]) (rest := [.ref (b + 191)]) (c_X2_readDigits l D t b σ p1 p2 y1 σ3 u2) sh_191 (by decide) rfl rfl hx hb hml hown hts hE hW hS q876 q878 q23 q38 q879 hy_X2_readDigits ⟨rfl, rfl⟩ ⟨Nat.le_of_ble_eq_true rfl, Nat.le_of_ble_eq_true rfl⟩ rfl rfl hl.1 (Nat.le_of_ble_eq_true rfl) ⟨Nat.zero_le _, Nat.zero_le _⟩ dX2_readCount_4 (fun H locs hW hS => ?_)
  refine putX (k := 191) (q := (4, 0)) (ci := 2) (x := y1) inA2 tyX2_ok nmX2 rfl (by decide) rfl hx hb hta hown hE.1 hW hS sh_191 9 (by decide) q247 rfl rfl rfl (Nat.le_of_ble_eq_true rfl) rfl dX2_readCount_7 (fun H locs hW hS => ?_)
  obtain ⟨σ4, e5, hf⟩ := st_e hf
  rw [e5] at hW
  refine lv_aload_n hx hb dX2_readCount_10 rfl (lv_at hl 0 rfl) ?_
  refine getO hx hb hta hown hE.1 hW sh_191 9 (by decide) q247 rfl dX2_readCount_11 ?_
  refine lv_iconst (v := (-1)) hx hb dX2_readCount_14 (by decide) ?_
  refine lv_icmp_eq (tgt := 22) hx hb dX2_readCount_15 (by decide) (fun h6 => ?_) (fun h6 => ?_)
  · have hf := ifp h6 hf
    refine lv_iconst (v := 0) hx hb dX2_readCount_22 (by decide) ?_
    cases hf
    exact W.zret (ty := .boolean) hx hb hr (by decide) (fun u hu _ => ⟨⟨rfl, by rw [hu]; exact hW⟩, hS.F hu⟩) hS.2.2 dX2_readCount_23
  · have hf := ifn h6 hf
    refine lv_iconst (v := 1) hx hb dX2_readCount_18 (by decide) ?_
    refine lv_goto (tgt := 23) hx hb dX2_readCount_19 (by decide) ?_
    cases hf
    exact W.zret (ty := .boolean) hx hb hr (by decide) (fun u hu _ => ⟨⟨rfl, by rw [hu]; exact hW⟩, hS.F hu⟩) hS.2.2 dX2_readCount_23
def f_X2_readRoof (σ : Sg) : Option (Int32 × Sg) := b2 (f_X2_readSign σ 94) fun y1 σ3 => gd y1 2 (st (u2 σ3 191 10 y1) fun σ5 => some (1, σ5))
set_option maxHeartbeats 4000000 in
set_option maxRecDepth 100000 in
theorem c_X2_readRoof (l : Launch) (D : va_G) (t : Nat → ClassId) (b : Nat) (σ : Sg) (r : Int32) (σr : Sg) (hf : f_X2_readRoof σ = some (r, σr)) : Met l yX2_readRoof (Cond.code yX2_readRoof cX2_readRoof 1 (some .boolean) :: ALL) ({ frames := 1, cells := 0, slots := 0, locals := 21 }) (PM D t b σ [.ref (b + 191)]) (QG D t b σr (some (.int r))) 0 0 (geA b) := by
  refine Met.ofW (cc := cX2_readRoof) (maxL := 1) (ret := (some .boolean)) (by decide) rfl ?_
  intro p e s m args below meth c s₁ B hml hv
  obtain ⟨rfl, hW, hE⟩ := hv
  have hx := B.exec
  have hb := B.bytes
  have hr := B.returns
  have hts := atoms_spec (ws := Cond.code yX2_readRoof cX2_readRoof 1 (some .boolean) :: ALL) B.pre
  have hta := fun w h => hts w (List.mem_cons_of_mem _ h)
  have hown : s.vm.findClass RX2 = some m.cls := findClass_of_methodNamed B.named
  have hlocks := B.notSynchronized
  have hS : va_S (geA b) s.heap s.heap [] := va_S.rf
  have hl := lv_entry ([.ref (b + 191)]) (n := 1) (Nat.le_of_ble_eq_true rfl)
  rw [lg_entry_eq]
  generalize (lg_sl ([.ref (b + 191)]) ++ List.replicate (1 - (lg_sl ([.ref (b + 191)])).length) Slot.unset).toArray = ls at hl ⊢
  have hl : lv_has ls 1 [(0, .ref (b + 191))] := hl
  unfold f_X2_readRoof at hf
  refine lv_aload_n hx hb dX2_readRoof_0 rfl (lv_at hl 0 rfl) ?_
  refine lv_aload_n hx hb dX2_readRoof_1 rfl (lv_at hl 0 rfl) ?_
  refine lv_bipush (v := 94) hx hb dX2_readRoof_2 (by decide) ?_
  obtain ⟨y1, σ3, u2, hf⟩ := b2_e hf
  refine mV (k := 191) (q := (4, 0)) (C := RX2) (T := TX2) (N := 11) (ci := 2) (n := 1) (As := [.int 94]) (rest := [.ref (b + 191)]) (c_X2_readSign l D t b σ 94 y1 σ3 u2) sh_191 (by decide) rfl rfl hx hb hml hown hts hE hW hS q864 q866 q20 q38 q867 hy_X2_readSign ⟨rfl, rfl⟩ ⟨Nat.le_of_ble_eq_true rfl, Nat.le_of_ble_eq_true rfl⟩ rfl rfl hl.1 (Nat.le_of_ble_eq_true rfl) ⟨Nat.zero_le _, Nat.zero_le _⟩ dX2_readRoof_4 (fun H locs hW hS => ?_)
  obtain ⟨g4, hf⟩ := gd_e hf
  refine putX (k := 191) (q := (4, 0)) (ci := 2) (x := y1) inA2 tyX2_ok nmX2 rfl (by decide) rfl hx hb hta hown hE.1 hW hS sh_191 10 (by decide) q249 rfl (nar_bool g4).1 (nar_bool g4).2 (Nat.le_of_ble_eq_true rfl) rfl dX2_readRoof_7 (fun H locs hW hS => ?_)
  obtain ⟨σ5, e6, hf⟩ := st_e hf
  rw [e6] at hW
  refine lv_iconst (v := 1) hx hb dX2_readRoof_10 (by decide) ?_
  cases hf
  exact W.zret (ty := .boolean) hx hb hr (by decide) (fun u hu _ => ⟨⟨rfl, by rw [hu]; exact hW⟩, hS.F hu⟩) hS.2.2 dX2_readRoof_11
def f_X2_readLevel (σ : Sg) : Option (Int32 × Sg) := b2 (f_X2_readDigits σ 0 3) fun y1 σ3 => st (u2 σ3 191 7 y1) fun σ4 => if (σ4 191 7) = (-1) then (some (0, σ4)) else (some (1, σ4))
set_option maxHeartbeats 4000000 in
set_option maxRecDepth 100000 in
theorem c_X2_readLevel (l : Launch) (D : va_G) (t : Nat → ClassId) (b : Nat) (σ : Sg) (r : Int32) (σr : Sg) (hf : f_X2_readLevel σ = some (r, σr)) : Met l yX2_readLevel (Cond.code yX2_readLevel cX2_readLevel 1 (some .boolean) :: ALL) ({ frames := 2, cells := 0, slots := 0, locals := 46 }) (PM D t b σ [.ref (b + 191)]) (QG D t b σr (some (.int r))) 0 0 (geA b) := by
  refine Met.ofW (cc := cX2_readLevel) (maxL := 1) (ret := (some .boolean)) (by decide) rfl ?_
  intro p e s m args below meth c s₁ B hml hv
  obtain ⟨rfl, hW, hE⟩ := hv
  have hx := B.exec
  have hb := B.bytes
  have hr := B.returns
  have hts := atoms_spec (ws := Cond.code yX2_readLevel cX2_readLevel 1 (some .boolean) :: ALL) B.pre
  have hta := fun w h => hts w (List.mem_cons_of_mem _ h)
  have hown : s.vm.findClass RX2 = some m.cls := findClass_of_methodNamed B.named
  have hlocks := B.notSynchronized
  have hS : va_S (geA b) s.heap s.heap [] := va_S.rf
  have hl := lv_entry ([.ref (b + 191)]) (n := 1) (Nat.le_of_ble_eq_true rfl)
  rw [lg_entry_eq]
  generalize (lg_sl ([.ref (b + 191)]) ++ List.replicate (1 - (lg_sl ([.ref (b + 191)])).length) Slot.unset).toArray = ls at hl ⊢
  have hl : lv_has ls 1 [(0, .ref (b + 191))] := hl
  unfold f_X2_readLevel at hf
  refine lv_aload_n hx hb dX2_readLevel_0 rfl (lv_at hl 0 rfl) ?_
  refine lv_aload_n hx hb dX2_readLevel_1 rfl (lv_at hl 0 rfl) ?_
  refine lv_iconst (v := 0) hx hb dX2_readLevel_2 (by decide) ?_
  refine lv_iconst (v := 3) hx hb dX2_readLevel_3 (by decide) ?_
  obtain ⟨y1, σ3, u2, hf⟩ := b2_e hf
  refine mV (k := 191) (q := (4, 0)) (C := RX2) (T := TX2) (N := 11) (ci := 2) (n := 2) (As := [.int 0, .int 3]) (rest := [.ref (b + 191)]) (c_X2_readDigits l D t b σ 0 3 y1 σ3 u2) sh_191 (by decide) rfl rfl hx hb hml hown hts hE hW hS q876 q878 q23 q38 q879 hy_X2_readDigits ⟨rfl, rfl⟩ ⟨Nat.le_of_ble_eq_true rfl, Nat.le_of_ble_eq_true rfl⟩ rfl rfl hl.1 (Nat.le_of_ble_eq_true rfl) ⟨Nat.zero_le _, Nat.zero_le _⟩ dX2_readLevel_4 (fun H locs hW hS => ?_)
  refine putX (k := 191) (q := (4, 0)) (ci := 2) (x := y1) inA2 tyX2_ok nmX2 rfl (by decide) rfl hx hb hta hown hE.1 hW hS sh_191 7 (by decide) q243 rfl rfl rfl (Nat.le_of_ble_eq_true rfl) rfl dX2_readLevel_7 (fun H locs hW hS => ?_)
  obtain ⟨σ4, e5, hf⟩ := st_e hf
  rw [e5] at hW
  refine lv_aload_n hx hb dX2_readLevel_10 rfl (lv_at hl 0 rfl) ?_
  refine getO hx hb hta hown hE.1 hW sh_191 7 (by decide) q243 rfl dX2_readLevel_11 ?_
  refine lv_iconst (v := (-1)) hx hb dX2_readLevel_14 (by decide) ?_
  refine lv_icmp_eq (tgt := 22) hx hb dX2_readLevel_15 (by decide) (fun h6 => ?_) (fun h6 => ?_)
  · have hf := ifp h6 hf
    refine lv_iconst (v := 0) hx hb dX2_readLevel_22 (by decide) ?_
    cases hf
    exact W.zret (ty := .boolean) hx hb hr (by decide) (fun u hu _ => ⟨⟨rfl, by rw [hu]; exact hW⟩, hS.F hu⟩) hS.2.2 dX2_readLevel_23
  · have hf := ifn h6 hf
    refine lv_iconst (v := 1) hx hb dX2_readLevel_18 (by decide) ?_
    refine lv_goto (tgt := 23) hx hb dX2_readLevel_19 (by decide) ?_
    cases hf
    exact W.zret (ty := .boolean) hx hb hr (by decide) (fun u hu _ => ⟨⟨rfl, by rw [hu]; exact hW⟩, hS.F hu⟩) hS.2.2 dX2_readLevel_23
def f_X2_readColour (σ : Sg) : Option (Int32 × Sg) := b2 (f_X2_readDigits σ 0 3) fun y1 σ3 => st (u2 σ3 191 8 y1) fun σ4 => if (σ4 191 8) = (-1) then (some (0, σ4)) else (some (1, σ4))
set_option maxHeartbeats 4000000 in
set_option maxRecDepth 100000 in
theorem c_X2_readColour (l : Launch) (D : va_G) (t : Nat → ClassId) (b : Nat) (σ : Sg) (r : Int32) (σr : Sg) (hf : f_X2_readColour σ = some (r, σr)) : Met l yX2_readColour (Cond.code yX2_readColour cX2_readColour 1 (some .boolean) :: ALL) ({ frames := 2, cells := 0, slots := 0, locals := 46 }) (PM D t b σ [.ref (b + 191)]) (QG D t b σr (some (.int r))) 0 0 (geA b) := by
  refine Met.ofW (cc := cX2_readColour) (maxL := 1) (ret := (some .boolean)) (by decide) rfl ?_
  intro p e s m args below meth c s₁ B hml hv
  obtain ⟨rfl, hW, hE⟩ := hv
  have hx := B.exec
  have hb := B.bytes
  have hr := B.returns
  have hts := atoms_spec (ws := Cond.code yX2_readColour cX2_readColour 1 (some .boolean) :: ALL) B.pre
  have hta := fun w h => hts w (List.mem_cons_of_mem _ h)
  have hown : s.vm.findClass RX2 = some m.cls := findClass_of_methodNamed B.named
  have hlocks := B.notSynchronized
  have hS : va_S (geA b) s.heap s.heap [] := va_S.rf
  have hl := lv_entry ([.ref (b + 191)]) (n := 1) (Nat.le_of_ble_eq_true rfl)
  rw [lg_entry_eq]
  generalize (lg_sl ([.ref (b + 191)]) ++ List.replicate (1 - (lg_sl ([.ref (b + 191)])).length) Slot.unset).toArray = ls at hl ⊢
  have hl : lv_has ls 1 [(0, .ref (b + 191))] := hl
  unfold f_X2_readColour at hf
  refine lv_aload_n hx hb dX2_readColour_0 rfl (lv_at hl 0 rfl) ?_
  refine lv_aload_n hx hb dX2_readColour_1 rfl (lv_at hl 0 rfl) ?_
  refine lv_iconst (v := 0) hx hb dX2_readColour_2 (by decide) ?_
  refine lv_iconst (v := 3) hx hb dX2_readColour_3 (by decide) ?_
  obtain ⟨y1, σ3, u2, hf⟩ := b2_e hf
  refine mV (k := 191) (q := (4, 0)) (C := RX2) (T := TX2) (N := 11) (ci := 2) (n := 2) (As := [.int 0, .int 3]) (rest := [.ref (b + 191)]) (c_X2_readDigits l D t b σ 0 3 y1 σ3 u2) sh_191 (by decide) rfl rfl hx hb hml hown hts hE hW hS q876 q878 q23 q38 q879 hy_X2_readDigits ⟨rfl, rfl⟩ ⟨Nat.le_of_ble_eq_true rfl, Nat.le_of_ble_eq_true rfl⟩ rfl rfl hl.1 (Nat.le_of_ble_eq_true rfl) ⟨Nat.zero_le _, Nat.zero_le _⟩ dX2_readColour_4 (fun H locs hW hS => ?_)
  refine putX (k := 191) (q := (4, 0)) (ci := 2) (x := y1) inA2 tyX2_ok nmX2 rfl (by decide) rfl hx hb hta hown hE.1 hW hS sh_191 8 (by decide) q245 rfl rfl rfl (Nat.le_of_ble_eq_true rfl) rfl dX2_readColour_7 (fun H locs hW hS => ?_)
  obtain ⟨σ4, e5, hf⟩ := st_e hf
  rw [e5] at hW
  refine lv_aload_n hx hb dX2_readColour_10 rfl (lv_at hl 0 rfl) ?_
  refine getO hx hb hta hown hE.1 hW sh_191 8 (by decide) q245 rfl dX2_readColour_11 ?_
  refine lv_iconst (v := (-1)) hx hb dX2_readColour_14 (by decide) ?_
  refine lv_icmp_eq (tgt := 22) hx hb dX2_readColour_15 (by decide) (fun h6 => ?_) (fun h6 => ?_)
  · have hf := ifp h6 hf
    refine lv_iconst (v := 0) hx hb dX2_readColour_22 (by decide) ?_
    cases hf
    exact W.zret (ty := .boolean) hx hb hr (by decide) (fun u hu _ => ⟨⟨rfl, by rw [hu]; exact hW⟩, hS.F hu⟩) hS.2.2 dX2_readColour_23
  · have hf := ifn h6 hf
    refine lv_iconst (v := 1) hx hb dX2_readColour_18 (by decide) ?_
    refine lv_goto (tgt := 23) hx hb dX2_readColour_19 (by decide) ?_
    cases hf
    exact W.zret (ty := .boolean) hx hb hr (by decide) (fun u hu _ => ⟨⟨rfl, by rw [hu]; exact hW⟩, hS.F hu⟩) hS.2.2 dX2_readColour_23
def f_X2_readOrder (σ : Sg) : Option (Int32 × Sg) := if (σ 191 2) < (σ 191 1) then (gd (σ 191 2) 80 (gd (σ (191 + 1) ((σ 191 2)).toNatClampNeg) 65536 (st (u2 σ 191 4 (σ (191 + 1) ((σ 191 2)).toNatClampNeg)) fun σ4 => b2 (f_X2_readSign σ4 98) fun y6 σ8 => if y6 = 0 then (b2 (f_X2_readSign σ8 114) fun y10 σ12 => if y10 = 0 then (b2 (f_X2_readSign σ12 102) fun y14 σ16 => if y14 = 0 then (b2 (f_X2_readSign σ16 99) fun y18 σ20 => if y18 = 0 then (b2 (f_X2_readSign σ20 119) fun y22 σ24 => if y22 = 0 then (b2 (f_X2_readSign σ24 112) fun y26 σ28 => if y26 = 0 then (some (0, σ28)) else (b2 (f_X2_readCount σ28 1 40) fun y30 σ32 => if y30 = 0 then (some (0, σ32)) else (some (1, σ32)))) else (b2 (f_X2_readPlace σ24 9) fun y34 σ36 => if y34 = 0 then (some (0, σ36)) else (b2 (f_X2_readSign σ36 61) fun y38 σ40 => if y38 = 0 then (some (0, σ40)) else (b2 (f_X2_readCount σ40 0 9) fun y42 σ44 => if y42 = 0 then (some (0, σ44)) else (some (1, σ44)))))) else (b2 (f_X2_readCount σ20 0 99) fun y46 σ48 => if y46 = 0 then (some (0, σ48)) else (b2 (f_X2_readKind σ48) fun y50 σ52 => if y50 = 0 then (some (0, σ52)) else (b2 (f_X2_readColour σ52) fun y54 σ56 => if y54 = 0 then (some (0, σ56)) else (some (1, σ56)))))) else (b2 (f_X2_readPlace σ16 5) fun y58 σ60 => if y58 = 0 then (some (0, σ60)) else (b2 (f_X2_readSign σ60 43) fun y62 σ64 => if y62 = 0 then (some (0, σ64)) else (b2 (f_X2_readCount σ64 1 99) fun y66 σ68 => if y66 = 0 then (some (0, σ68)) else (some (1, σ68)))))) else (b2 (f_X2_readPlace σ12 5) fun y70 σ72 => if y70 = 0 then (some (0, σ72)) else (b2 (f_X2_readSign σ72 58) fun y74 σ76 => if y74 = 0 then (some (0, σ76)) else (b2 (f_X2_readLevel σ76) fun y78 σ80 => if y78 = 0 then (some (0, σ80)) else (b2 (f_X2_readColour σ80) fun y82 σ84 => if y82 = 0 then (some (0, σ84)) else (b2 (f_X2_readSign σ84 42) fun y86 σ88 => if y86 = 0 then (some (0, σ88)) else (b2 (f_X2_readCount σ88 1 40) fun y90 σ92 => if y90 = 0 then (some (0, σ92)) else (some (1, σ92))))))))) else (b2 (f_X2_readPlace σ8 11) fun y94 σ96 => if y94 = 0 then (some (0, σ96)) else (b2 (f_X2_readKind σ96) fun y98 σ100 => if y98 = 0 then (some (0, σ100)) else (b2 (f_X2_readCount σ100 1 9) fun y102 σ104 => if y102 = 0 then (some (0, σ104)) else (b2 (f_X2_readRoof σ104) fun y106 σ108 => if y106 = 0 then (some (0, σ108)) else (some (1, σ108))))))))) else (some (0, σ))
set_option maxHeartbeats 4000000 in
set_option maxRecDepth 100000 in
theorem c_X2_readOrder (l : Launch) (D : va_G) (t : Nat → ClassId) (b : Nat) (σ : Sg) (r : Int32) (σr : Sg) (hf : f_X2_readOrder σ = some (r, σr)) : Met l yX2_readOrder (Cond.code yX2_readOrder cX2_readOrder 1 (some .boolean) :: ALL) ({ frames := 3, cells := 0, slots := 0, locals := 68 }) (PM D t b σ [.ref (b + 191)]) (QG D t b σr (some (.int r))) 0 0 (geA b) := by
  refine Met.ofW (cc := cX2_readOrder) (maxL := 1) (ret := (some .boolean)) (by decide) rfl ?_
  intro p e s m args below meth c s₁ B hml hv
  obtain ⟨rfl, hW, hE⟩ := hv
  have hx := B.exec
  have hb := B.bytes
  have hr := B.returns
  have hts := atoms_spec (ws := Cond.code yX2_readOrder cX2_readOrder 1 (some .boolean) :: ALL) B.pre
  have hta := fun w h => hts w (List.mem_cons_of_mem _ h)
  have hown : s.vm.findClass RX2 = some m.cls := findClass_of_methodNamed B.named
  have hlocks := B.notSynchronized
  have hS : va_S (geA b) s.heap s.heap [] := va_S.rf
  have hl := lv_entry ([.ref (b + 191)]) (n := 1) (Nat.le_of_ble_eq_true rfl)
  rw [lg_entry_eq]
  generalize (lg_sl ([.ref (b + 191)]) ++ List.replicate (1 - (lg_sl ([.ref (b + 191)])).length) Slot.unset).toArray = ls at hl ⊢
  have hl : lv_has ls 1 [(0, .ref (b + 191))] := hl
  unfold f_X2_readOrder at hf
  refine lv_aload_n hx hb dX2_readOrder_0 rfl (lv_at hl 0 rfl) ?_
  refine getO hx hb hta hown hE.1 hW sh_191 2 (by decide) q233 rfl dX2_readOrder_1 ?_
  refine lv_aload_n hx hb dX2_readOrder_4 rfl (lv_at hl 0 rfl) ?_
  refine getO hx hb hta hown hE.1 hW sh_191 1 (by decide) q231 rfl dX2_readOrder_5 ?_
  refine lv_icmp_lt (tgt := 13) hx hb dX2_readOrder_8 (by decide) (fun h1 => ?_) (fun h1 => ?_)
  · have hf := ifp h1 hf
    refine lv_aload_n hx hb dX2_readOrder_13 rfl (lv_at hl 0 rfl) ?_
    refine lv_aload_n hx hb dX2_readOrder_14 rfl (lv_at hl 0 rfl) ?_
    refine getO hx hb hta hown hE.1 hW sh_191 0 (by decide) q230 rfl dX2_readOrder_15 ?_
    refine lv_aload_n hx hb dX2_readOrder_18 rfl (lv_at hl 0 rfl) ?_
    refine getO hx hb hta hown hE.1 hW sh_191 2 (by decide) q233 rfl dX2_readOrder_19 ?_
    obtain ⟨g2, hf⟩ := gd_e hf
    refine cald hx hb hE.1 hW sh_192 g2 dX2_readOrder_22 ?_
    obtain ⟨g3, hf⟩ := gd_e hf
    refine putX (k := 191) (q := (4, 0)) (ci := 2) (x := (σ (191 + 1) ((σ 191 2)).toNatClampNeg)) inA2 tyX2_ok nmX2 rfl (by decide) rfl hx hb hta hown hE.1 hW hS sh_191 4 (by decide) q237 rfl (nar_char g3).1 (nar_char g3).2 (Nat.le_of_ble_eq_true rfl) rfl dX2_readOrder_23 (fun H locs hW hS => ?_)
    obtain ⟨σ4, e5, hf⟩ := st_e hf
    rw [e5] at hW
    refine lv_aload_n hx hb dX2_readOrder_26 rfl (lv_at hl 0 rfl) ?_
    refine lv_bipush (v := 98) hx hb dX2_readOrder_27 (by decide) ?_
    obtain ⟨y6, σ8, u7, hf⟩ := b2_e hf
    refine mV (k := 191) (q := (4, 0)) (C := RX2) (T := TX2) (N := 11) (ci := 2) (n := 1) (As := [.int 98]) (rest := []) (c_X2_readSign l D t b σ4 98 y6 σ8 u7) sh_191 (by decide) rfl rfl hx hb hml hown hts hE hW hS q864 q866 q20 q38 q867 hy_X2_readSign ⟨rfl, rfl⟩ ⟨Nat.le_of_ble_eq_true rfl, Nat.le_of_ble_eq_true rfl⟩ rfl rfl hl.1 (Nat.le_of_ble_eq_true rfl) ⟨Nat.zero_le _, Nat.zero_le _⟩ dX2_readOrder_29 (fun H locs hW hS => ?_)
    refine lv_if_eq (tgt := 74) hx hb dX2_readOrder_32 (by decide) (fun h9 => ?_) (fun h9 => ?_)
    · have hf := ifp h9 hf
      refine lv_aload_n hx hb dX2_readOrder_74 rfl (lv_at hl 0 rfl) ?_
      refine lv_bipush (v := 114) hx hb dX2_readOrder_75 (by decide) ?_
      obtain ⟨y10, σ12, u11, hf⟩ := b2_e hf
      refine mV (k := 191) (q := (4, 0)) (C := RX2) (T := TX2) (N := 11) (ci := 2) (n := 1) (As := [.int 114]) (rest := []) (c_X2_readSign l D t b σ8 114 y10 σ12 u11) sh_191 (by decide) rfl rfl hx hb hml hown hts hE hW hS q864 q866 q20 q38 q867 hy_X2_readSign ⟨rfl, rfl⟩ ⟨Nat.le_of_ble_eq_true rfl, Nat.le_of_ble_eq_true rfl⟩ rfl rfl hl.1 (Nat.le_of_ble_eq_true rfl) ⟨Nat.zero_le _, Nat.zero_le _⟩ dX2_readOrder_77 (fun H locs hW hS => ?_)
      refine lv_if_eq (tgt := 139) hx hb dX2_readOrder_80 (by decide) (fun h13 => ?_) (fun h13 => ?_)
      · have hf := ifp h13 hf
        refine lv_aload_n hx hb dX2_readOrder_139 rfl (lv_at hl 0 rfl) ?_
        refine lv_bipush (v := 102) hx hb dX2_readOrder_140 (by decide) ?_
        obtain ⟨y14, σ16, u15, hf⟩ := b2_e hf
        refine mV (k := 191) (q := (4, 0)) (C := RX2) (T := TX2) (N := 11) (ci := 2) (n := 1) (As := [.int 102]) (rest := []) (c_X2_readSign l D t b σ12 102 y14 σ16 u15) sh_191 (by decide) rfl rfl hx hb hml hown hts hE hW hS q864 q866 q20 q38 q867 hy_X2_readSign ⟨rfl, rfl⟩ ⟨Nat.le_of_ble_eq_true rfl, Nat.le_of_ble_eq_true rfl⟩ rfl rfl hl.1 (Nat.le_of_ble_eq_true rfl) ⟨Nat.zero_le _, Nat.zero_le _⟩ dX2_readOrder_142 (fun H locs hW hS => ?_)
        refine lv_if_eq (tgt := 181) hx hb dX2_readOrder_145 (by decide) (fun h17 => ?_) (fun h17 => ?_)
        · have hf := ifp h17 hf
          refine lv_aload_n hx hb dX2_readOrder_181 rfl (lv_at hl 0 rfl) ?_
          refine lv_bipush (v := 99) hx hb dX2_readOrder_182 (by decide) ?_
          obtain ⟨y18, σ20, u19, hf⟩ := b2_e hf
          refine mV (k := 191) (q := (4, 0)) (C := RX2) (T := TX2) (N := 11) (ci := 2) (n := 1) (As := [.int 99]) (rest := []) (c_X2_readSign l D t b σ16 99 y18 σ20 u19) sh_191 (by decide) rfl rfl hx hb hml hown hts hE hW hS q864 q866 q20 q38 q867 hy_X2_readSign ⟨rfl, rfl⟩ ⟨Nat.le_of_ble_eq_true rfl, Nat.le_of_ble_eq_true rfl⟩ rfl rfl hl.1 (Nat.le_of_ble_eq_true rfl) ⟨Nat.zero_le _, Nat.zero_le _⟩ dX2_readOrder_184 (fun H locs hW hS => ?_)
          refine lv_if_eq (tgt := 220) hx hb dX2_readOrder_187 (by decide) (fun h21 => ?_) (fun h21 => ?_)
          · have hf := ifp h21 hf
            refine lv_aload_n hx hb dX2_readOrder_220 rfl (lv_at hl 0 rfl) ?_
            refine lv_bipush (v := 119) hx hb dX2_readOrder_221 (by decide) ?_
            obtain ⟨y22, σ24, u23, hf⟩ := b2_e hf
            refine mV (k := 191) (q := (4, 0)) (C := RX2) (T := TX2) (N := 11) (ci := 2) (n := 1) (As := [.int 119]) (rest := []) (c_X2_readSign l D t b σ20 119 y22 σ24 u23) sh_191 (by decide) rfl rfl hx hb hml hown hts hE hW hS q864 q866 q20 q38 q867 hy_X2_readSign ⟨rfl, rfl⟩ ⟨Nat.le_of_ble_eq_true rfl, Nat.le_of_ble_eq_true rfl⟩ rfl rfl hl.1 (Nat.le_of_ble_eq_true rfl) ⟨Nat.zero_le _, Nat.zero_le _⟩ dX2_readOrder_223 (fun H locs hW hS => ?_)
            refine lv_if_eq (tgt := 263) hx hb dX2_readOrder_226 (by decide) (fun h25 => ?_) (fun h25 => ?_)
            · have hf := ifp h25 hf
              refine lv_aload_n hx hb dX2_readOrder_263 rfl (lv_at hl 0 rfl) ?_
              refine lv_bipush (v := 112) hx hb dX2_readOrder_264 (by decide) ?_
              obtain ⟨y26, σ28, u27, hf⟩ := b2_e hf
              refine mV (k := 191) (q := (4, 0)) (C := RX2) (T := TX2) (N := 11) (ci := 2) (n := 1) (As := [.int 112]) (rest := []) (c_X2_readSign l D t b σ24 112 y26 σ28 u27) sh_191 (by decide) rfl rfl hx hb hml hown hts hE hW hS q864 q866 q20 q38 q867 hy_X2_readSign ⟨rfl, rfl⟩ ⟨Nat.le_of_ble_eq_true rfl, Nat.le_of_ble_eq_true rfl⟩ rfl rfl hl.1 (Nat.le_of_ble_eq_true rfl) ⟨Nat.zero_le _, Nat.zero_le _⟩ dX2_readOrder_266 (fun H locs hW hS => ?_)
              refine lv_if_eq (tgt := 286) hx hb dX2_readOrder_269 (by decide) (fun h29 => ?_) (fun h29 => ?_)
              · have hf := ifp h29 hf
                refine lv_iconst (v := 0) hx hb dX2_readOrder_286 (by decide) ?_
                cases hf
                exact W.zret (ty := .boolean) hx hb hr (by decide) (fun u hu _ => ⟨⟨rfl, by rw [hu]; exact hW⟩, hS.F hu⟩) hS.2.2 dX2_readOrder_287
              · have hf := ifn h29 hf
                refine lv_aload_n hx hb dX2_readOrder_272 rfl (lv_at hl 0 rfl) ?_
                refine lv_iconst (v := 1) hx hb dX2_readOrder_273 (by decide) ?_
                refine lv_bipush (v := 40) hx hb dX2_readOrder_274 (by decide) ?_
                obtain ⟨y30, σ32, u31, hf⟩ := b2_e hf
                refine mV (k := 191) (q := (4, 0)) (C := RX2) (T := TX2) (N := 11) (ci := 2) (n := 2) (As := [.int 1, .int 40]) (rest := []) (c_X2_readCount l D t b σ28 1 40 y30 σ32 u31) sh_191 (by decide) rfl rfl hx hb hml hown hts hE hW hS q892 q894 q27 q38 q895 hy_X2_readCount ⟨rfl, rfl⟩ ⟨Nat.le_of_ble_eq_true rfl, Nat.le_of_ble_eq_true rfl⟩ rfl rfl hl.1 (Nat.le_of_ble_eq_true rfl) ⟨Nat.zero_le _, Nat.zero_le _⟩ dX2_readOrder_276 (fun H locs hW hS => ?_)
                refine lv_if_eq (tgt := 286) hx hb dX2_readOrder_279 (by decide) (fun h33 => ?_) (fun h33 => ?_)
                · have hf := ifp h33 hf
                  refine lv_iconst (v := 0) hx hb dX2_readOrder_286 (by decide) ?_
                  cases hf
                  exact W.zret (ty := .boolean) hx hb hr (by decide) (fun u hu _ => ⟨⟨rfl, by rw [hu]; exact hW⟩, hS.F hu⟩) hS.2.2 dX2_readOrder_287
                · have hf := ifn h33 hf
                  refine lv_iconst (v := 1) hx hb dX2_readOrder_282 (by decide) ?_
                  refine lv_goto (tgt := 287) hx hb dX2_readOrder_283 (by decide) ?_
                  cases hf
                  exact W.zret (ty := .boolean) hx hb hr (by decide) (fun u hu _ => ⟨⟨rfl, by rw [hu]; exact hW⟩, hS.F hu⟩) hS.2.2 dX2_readOrder_287
            · have hf := ifn h25 hf
              refine lv_aload_n hx hb dX2_readOrder_229 rfl (lv_at hl 0 rfl) ?_
              refine lv_bipush (v := 9) hx hb dX2_readOrder_230 (by decide) ?_
              obtain ⟨y34, σ36, u35, hf⟩ := b2_e hf
              refine mV (k := 191) (q := (4, 0)) (C := RX2) (T := TX2) (N := 11) (ci := 2) (n := 1) (As := [.int 9]) (rest := []) (c_X2_readPlace l D t b σ24 9 y34 σ36 u35) sh_191 (by decide) rfl rfl hx hb hml hown hts hE hW hS q872 q874 q22 q38 q875 hy_X2_readPlace ⟨rfl, rfl⟩ ⟨Nat.le_of_ble_eq_true rfl, Nat.le_of_ble_eq_true rfl⟩ rfl rfl hl.1 (Nat.le_of_ble_eq_true rfl) ⟨Nat.zero_le _, Nat.zero_le _⟩ dX2_readOrder_232 (fun H locs hW hS => ?_)
              refine lv_if_eq (tgt := 261) hx hb dX2_readOrder_235 (by decide) (fun h37 => ?_) (fun h37 => ?_)
              · have hf := ifp h37 hf
                refine lv_iconst (v := 0) hx hb dX2_readOrder_261 (by decide) ?_
                cases hf
                exact W.zret (ty := .boolean) hx hb hr (by decide) (fun u hu _ => ⟨⟨rfl, by rw [hu]; exact hW⟩, hS.F hu⟩) hS.2.2 dX2_readOrder_262
              · have hf := ifn h37 hf
                refine lv_aload_n hx hb dX2_readOrder_238 rfl (lv_at hl 0 rfl) ?_
                refine lv_bipush (v := 61) hx hb dX2_readOrder_239 (by decide) ?_
                obtain ⟨y38, σ40, u39, hf⟩ := b2_e hf
                refine mV (k := 191) (q := (4, 0)) (C := RX2) (T := TX2) (N := 11) (ci := 2) (n := 1) (As := [.int 61]) (rest := []) (c_X2_readSign l D t b σ36 61 y38 σ40 u39) sh_191 (by decide) rfl rfl hx hb hml hown hts hE hW hS q864 q866 q20 q38 q867 hy_X2_readSign ⟨rfl, rfl⟩ ⟨Nat.le_of_ble_eq_true rfl, Nat.le_of_ble_eq_true rfl⟩ rfl rfl hl.1 (Nat.le_of_ble_eq_true rfl) ⟨Nat.zero_le _, Nat.zero_le _⟩ dX2_readOrder_241 (fun H locs hW hS => ?_)
                refine lv_if_eq (tgt := 261) hx hb dX2_readOrder_244 (by decide) (fun h41 => ?_) (fun h41 => ?_)
                · have hf := ifp h41 hf
                  refine lv_iconst (v := 0) hx hb dX2_readOrder_261 (by decide) ?_
                  cases hf
                  exact W.zret (ty := .boolean) hx hb hr (by decide) (fun u hu _ => ⟨⟨rfl, by rw [hu]; exact hW⟩, hS.F hu⟩) hS.2.2 dX2_readOrder_262
                · have hf := ifn h41 hf
                  refine lv_aload_n hx hb dX2_readOrder_247 rfl (lv_at hl 0 rfl) ?_
                  refine lv_iconst (v := 0) hx hb dX2_readOrder_248 (by decide) ?_
                  refine lv_bipush (v := 9) hx hb dX2_readOrder_249 (by decide) ?_
                  obtain ⟨y42, σ44, u43, hf⟩ := b2_e hf
                  refine mV (k := 191) (q := (4, 0)) (C := RX2) (T := TX2) (N := 11) (ci := 2) (n := 2) (As := [.int 0, .int 9]) (rest := []) (c_X2_readCount l D t b σ40 0 9 y42 σ44 u43) sh_191 (by decide) rfl rfl hx hb hml hown hts hE hW hS q892 q894 q27 q38 q895 hy_X2_readCount ⟨rfl, rfl⟩ ⟨Nat.le_of_ble_eq_true rfl, Nat.le_of_ble_eq_true rfl⟩ rfl rfl hl.1 (Nat.le_of_ble_eq_true rfl) ⟨Nat.zero_le _, Nat.zero_le _⟩ dX2_readOrder_251 (fun H locs hW hS => ?_)
                  refine lv_if_eq (tgt := 261) hx hb dX2_readOrder_254 (by decide) (fun h45 => ?_) (fun h45 => ?_)
                  · have hf := ifp h45 hf
                    refine lv_iconst (v := 0) hx hb dX2_readOrder_261 (by decide) ?_
                    cases hf
                    exact W.zret (ty := .boolean) hx hb hr (by decide) (fun u hu _ => ⟨⟨rfl, by rw [hu]; exact hW⟩, hS.F hu⟩) hS.2.2 dX2_readOrder_262
                  · have hf := ifn h45 hf
                    refine lv_iconst (v := 1) hx hb dX2_readOrder_257 (by decide) ?_
                    refine lv_goto (tgt := 262) hx hb dX2_readOrder_258 (by decide) ?_
                    cases hf
                    exact W.zret (ty := .boolean) hx hb hr (by decide) (fun u hu _ => ⟨⟨rfl, by rw [hu]; exact hW⟩, hS.F hu⟩) hS.2.2 dX2_readOrder_262
          · have hf := ifn h21 hf
            refine lv_aload_n hx hb dX2_readOrder_190 rfl (lv_at hl 0 rfl) ?_
            refine lv_iconst (v := 0) hx hb dX2_readOrder_191 (by decide) ?_
            refine lv_bipush (v := 99) hx hb dX2_readOrder_192 (by decide) ?_
            obtain ⟨y46, σ48, u47, hf⟩ := b2_e hf
            refine mV (k := 191) (q := (4, 0)) (C := RX2) (T := TX2) (N := 11) (ci := 2) (n := 2) (As := [.int 0, .int 99]) (rest := []) (c_X2_readCount l D t b σ20 0 99 y46 σ48 u47) sh_191 (by decide) rfl rfl hx hb hml hown hts hE hW hS q892 q894 q27 q38 q895 hy_X2_readCount ⟨rfl, rfl⟩ ⟨Nat.le_of_ble_eq_true rfl, Nat.le_of_ble_eq_true rfl⟩ rfl rfl hl.1 (Nat.le_of_ble_eq_true rfl) ⟨Nat.zero_le _, Nat.zero_le _⟩ dX2_readOrder_194 (fun H locs hW hS => ?_)
            refine lv_if_eq (tgt := 218) hx hb dX2_readOrder_197 (by decide) (fun h49 => ?_) (fun h49 => ?_)
            · have hf := ifp h49 hf
              refine lv_iconst (v := 0) hx hb dX2_readOrder_218 (by decide) ?_
              cases hf
              exact W.zret (ty := .boolean) hx hb hr (by decide) (fun u hu _ => ⟨⟨rfl, by rw [hu]; exact hW⟩, hS.F hu⟩) hS.2.2 dX2_readOrder_219
            · have hf := ifn h49 hf
              refine lv_aload_n hx hb dX2_readOrder_200 rfl (lv_at hl 0 rfl) ?_
              obtain ⟨y50, σ52, u51, hf⟩ := b2_e hf
              refine mV (k := 191) (q := (4, 0)) (C := RX2) (T := TX2) (N := 11) (ci := 2) (n := 0) (As := []) (rest := []) (c_X2_readKind l D t b σ48 y50 σ52 u51) sh_191 (by decide) rfl rfl hx hb hml hown hts hE hW hS q884 q886 q25 q38 q887 hy_X2_readKind ⟨rfl, rfl⟩ ⟨Nat.le_of_ble_eq_true rfl, Nat.le_of_ble_eq_true rfl⟩ rfl rfl hl.1 (Nat.le_of_ble_eq_true rfl) ⟨Nat.zero_le _, Nat.zero_le _⟩ dX2_readOrder_201 (fun H locs hW hS => ?_)
              refine lv_if_eq (tgt := 218) hx hb dX2_readOrder_204 (by decide) (fun h53 => ?_) (fun h53 => ?_)
              · have hf := ifp h53 hf
                refine lv_iconst (v := 0) hx hb dX2_readOrder_218 (by decide) ?_
                cases hf
                exact W.zret (ty := .boolean) hx hb hr (by decide) (fun u hu _ => ⟨⟨rfl, by rw [hu]; exact hW⟩, hS.F hu⟩) hS.2.2 dX2_readOrder_219
              · have hf := ifn h53 hf
                refine lv_aload_n hx hb dX2_readOrder_207 rfl (lv_at hl 0 rfl) ?_
                obtain ⟨y54, σ56, u55, hf⟩ := b2_e hf
                refine mV (k := 191) (q := (4, 0)) (C := RX2) (T := TX2) (N := 11) (ci := 2) (n := 0) (As := []) (rest := []) (c_X2_readColour l D t b σ52 y54 σ56 u55) sh_191 (by decide) rfl rfl hx hb hml hown hts hE hW hS q904 q906 q30 q38 q907 hy_X2_readColour ⟨rfl, rfl⟩ ⟨Nat.le_of_ble_eq_true rfl, Nat.le_of_ble_eq_true rfl⟩ rfl rfl hl.1 (Nat.le_of_ble_eq_true rfl) ⟨Nat.zero_le _, Nat.zero_le _⟩ dX2_readOrder_208 (fun H locs hW hS => ?_)
                refine lv_if_eq (tgt := 218) hx hb dX2_readOrder_211 (by decide) (fun h57 => ?_) (fun h57 => ?_)
                · have hf := ifp h57 hf
                  refine lv_iconst (v := 0) hx hb dX2_readOrder_218 (by decide) ?_
                  cases hf
                  exact W.zret (ty := .boolean) hx hb hr (by decide) (fun u hu _ => ⟨⟨rfl, by rw [hu]; exact hW⟩, hS.F hu⟩) hS.2.2 dX2_readOrder_219
                · have hf := ifn h57 hf
                  refine lv_iconst (v := 1) hx hb dX2_readOrder_214 (by decide) ?_
                  refine lv_goto (tgt := 219) hx hb dX2_readOrder_215 (by decide) ?_
                  cases hf
                  exact W.zret (ty := .boolean) hx hb hr (by decide) (fun u hu _ => ⟨⟨rfl, by rw [hu]; exact hW⟩, hS.F hu⟩) hS.2.2 dX2_readOrder_219
        · have hf := ifn h17 hf
          refine lv_aload_n hx hb dX2_readOrder_148 rfl (lv_at hl 0 rfl) ?_
          refine lv_iconst (v := 5) hx hb dX2_readOrder_149 (by decide) ?_
          obtain ⟨y58, σ60, u59, hf⟩ := b2_e hf
          refine mV (k := 191) (q := (4, 0)) (C := RX2) (T := TX2) (N := 11) (ci := 2) (n := 1) (As := [.int 5]) (rest := []) (c_X2_readPlace l D t b σ16 5 y58 σ60 u59) sh_191 (by decide) rfl rfl hx hb hml hown hts hE hW hS q872 q874 q22 q38 q875 hy_X2_readPlace ⟨rfl, rfl⟩ ⟨Nat.le_of_ble_eq_true rfl, Nat.le_of_ble_eq_true rfl⟩ rfl rfl hl.1 (Nat.le_of_ble_eq_true rfl) ⟨Nat.zero_le _, Nat.zero_le _⟩ dX2_readOrder_150 (fun H locs hW hS => ?_)
          refine lv_if_eq (tgt := 179) hx hb dX2_readOrder_153 (by decide) (fun h61 => ?_) (fun h61 => ?_)
          · have hf := ifp h61 hf
            refine lv_iconst (v := 0) hx hb dX2_readOrder_179 (by decide) ?_
            cases hf
            exact W.zret (ty := .boolean) hx hb hr (by decide) (fun u hu _ => ⟨⟨rfl, by rw [hu]; exact hW⟩, hS.F hu⟩) hS.2.2 dX2_readOrder_180
          · have hf := ifn h61 hf
            refine lv_aload_n hx hb dX2_readOrder_156 rfl (lv_at hl 0 rfl) ?_
            refine lv_bipush (v := 43) hx hb dX2_readOrder_157 (by decide) ?_
            obtain ⟨y62, σ64, u63, hf⟩ := b2_e hf
            refine mV (k := 191) (q := (4, 0)) (C := RX2) (T := TX2) (N := 11) (ci := 2) (n := 1) (As := [.int 43]) (rest := []) (c_X2_readSign l D t b σ60 43 y62 σ64 u63) sh_191 (by decide) rfl rfl hx hb hml hown hts hE hW hS q864 q866 q20 q38 q867 hy_X2_readSign ⟨rfl, rfl⟩ ⟨Nat.le_of_ble_eq_true rfl, Nat.le_of_ble_eq_true rfl⟩ rfl rfl hl.1 (Nat.le_of_ble_eq_true rfl) ⟨Nat.zero_le _, Nat.zero_le _⟩ dX2_readOrder_159 (fun H locs hW hS => ?_)
            refine lv_if_eq (tgt := 179) hx hb dX2_readOrder_162 (by decide) (fun h65 => ?_) (fun h65 => ?_)
            · have hf := ifp h65 hf
              refine lv_iconst (v := 0) hx hb dX2_readOrder_179 (by decide) ?_
              cases hf
              exact W.zret (ty := .boolean) hx hb hr (by decide) (fun u hu _ => ⟨⟨rfl, by rw [hu]; exact hW⟩, hS.F hu⟩) hS.2.2 dX2_readOrder_180
            · have hf := ifn h65 hf
              refine lv_aload_n hx hb dX2_readOrder_165 rfl (lv_at hl 0 rfl) ?_
              refine lv_iconst (v := 1) hx hb dX2_readOrder_166 (by decide) ?_
              refine lv_bipush (v := 99) hx hb dX2_readOrder_167 (by decide) ?_
              obtain ⟨y66, σ68, u67, hf⟩ := b2_e hf
              refine mV (k := 191) (q := (4, 0)) (C := RX2) (T := TX2) (N := 11) (ci := 2) (n := 2) (As := [.int 1, .int 99]) (rest := []) (c_X2_readCount l D t b σ64 1 99 y66 σ68 u67) sh_191 (by decide) rfl rfl hx hb hml hown hts hE hW hS q892 q894 q27 q38 q895 hy_X2_readCount ⟨rfl, rfl⟩ ⟨Nat.le_of_ble_eq_true rfl, Nat.le_of_ble_eq_true rfl⟩ rfl rfl hl.1 (Nat.le_of_ble_eq_true rfl) ⟨Nat.zero_le _, Nat.zero_le _⟩ dX2_readOrder_169 (fun H locs hW hS => ?_)
              refine lv_if_eq (tgt := 179) hx hb dX2_readOrder_172 (by decide) (fun h69 => ?_) (fun h69 => ?_)
              · have hf := ifp h69 hf
                refine lv_iconst (v := 0) hx hb dX2_readOrder_179 (by decide) ?_
                cases hf
                exact W.zret (ty := .boolean) hx hb hr (by decide) (fun u hu _ => ⟨⟨rfl, by rw [hu]; exact hW⟩, hS.F hu⟩) hS.2.2 dX2_readOrder_180
              · have hf := ifn h69 hf
                refine lv_iconst (v := 1) hx hb dX2_readOrder_175 (by decide) ?_
                refine lv_goto (tgt := 180) hx hb dX2_readOrder_176 (by decide) ?_
                cases hf
                exact W.zret (ty := .boolean) hx hb hr (by decide) (fun u hu _ => ⟨⟨rfl, by rw [hu]; exact hW⟩, hS.F hu⟩) hS.2.2 dX2_readOrder_180
      · have hf := ifn h13 hf
        refine lv_aload_n hx hb dX2_readOrder_83 rfl (lv_at hl 0 rfl) ?_
        refine lv_iconst (v := 5) hx hb dX2_readOrder_84 (by decide) ?_
        obtain ⟨y70, σ72, u71, hf⟩ := b2_e hf
        refine mV (k := 191) (q := (4, 0)) (C := RX2) (T := TX2) (N := 11) (ci := 2) (n := 1) (As := [.int 5]) (rest := []) (c_X2_readPlace l D t b σ12 5 y70 σ72 u71) sh_191 (by decide) rfl rfl hx hb hml hown hts hE hW hS q872 q874 q22 q38 q875 hy_X2_readPlace ⟨rfl, rfl⟩ ⟨Nat.le_of_ble_eq_true rfl, Nat.le_of_ble_eq_true rfl⟩ rfl rfl hl.1 (Nat.le_of_ble_eq_true rfl) ⟨Nat.zero_le _, Nat.zero_le _⟩ dX2_readOrder_85 (fun H locs hW hS => ?_)
        refine lv_if_eq (tgt := 137) hx hb dX2_readOrder_88 (by decide) (fun h73 => ?_) (fun h73 => ?_)
        · have hf := ifp h73 hf
          refine lv_iconst (v := 0) hx hb dX2_readOrder_137 (by decide) ?_
          cases hf
          exact W.zret (ty := .boolean) hx hb hr (by decide) (fun u hu _ => ⟨⟨rfl, by rw [hu]; exact hW⟩, hS.F hu⟩) hS.2.2 dX2_readOrder_138
        · have hf := ifn h73 hf
          refine lv_aload_n hx hb dX2_readOrder_91 rfl (lv_at hl 0 rfl) ?_
          refine lv_bipush (v := 58) hx hb dX2_readOrder_92 (by decide) ?_
          obtain ⟨y74, σ76, u75, hf⟩ := b2_e hf
          refine mV (k := 191) (q := (4, 0)) (C := RX2) (T := TX2) (N := 11) (ci := 2) (n := 1) (As := [.int 58]) (rest := []) (c_X2_readSign l D t b σ72 58 y74 σ76 u75) sh_191 (by decide) rfl rfl hx hb hml hown hts hE hW hS q864 q866 q20 q38 q867 hy_X2_readSign ⟨rfl, rfl⟩ ⟨Nat.le_of_ble_eq_true rfl, Nat.le_of_ble_eq_true rfl⟩ rfl rfl hl.1 (Nat.le_of_ble_eq_true rfl) ⟨Nat.zero_le _, Nat.zero_le _⟩ dX2_readOrder_94 (fun H locs hW hS => ?_)
          refine lv_if_eq (tgt := 137) hx hb dX2_readOrder_97 (by decide) (fun h77 => ?_) (fun h77 => ?_)
          · have hf := ifp h77 hf
            refine lv_iconst (v := 0) hx hb dX2_readOrder_137 (by decide) ?_
            cases hf
            exact W.zret (ty := .boolean) hx hb hr (by decide) (fun u hu _ => ⟨⟨rfl, by rw [hu]; exact hW⟩, hS.F hu⟩) hS.2.2 dX2_readOrder_138
          · have hf := ifn h77 hf
            refine lv_aload_n hx hb dX2_readOrder_100 rfl (lv_at hl 0 rfl) ?_
            obtain ⟨y78, σ80, u79, hf⟩ := b2_e hf
            refine mV (k := 191) (q := (4, 0)) (C := RX2) (T := TX2) (N := 11) (ci := 2) (n := 0) (As := []) (rest := []) (c_X2_readLevel l D t b σ76 y78 σ80 u79) sh_191 (by decide) rfl rfl hx hb hml hown hts hE hW hS q900 q902 q29 q38 q903 hy_X2_readLevel ⟨rfl, rfl⟩ ⟨Nat.le_of_ble_eq_true rfl, Nat.le_of_ble_eq_true rfl⟩ rfl rfl hl.1 (Nat.le_of_ble_eq_true rfl) ⟨Nat.zero_le _, Nat.zero_le _⟩ dX2_readOrder_101 (fun H locs hW hS => ?_)
            refine lv_if_eq (tgt := 137) hx hb dX2_readOrder_104 (by decide) (fun h81 => ?_) (fun h81 => ?_)
            · have hf := ifp h81 hf
              refine lv_iconst (v := 0) hx hb dX2_readOrder_137 (by decide) ?_
              cases hf
              exact W.zret (ty := .boolean) hx hb hr (by decide) (fun u hu _ => ⟨⟨rfl, by rw [hu]; exact hW⟩, hS.F hu⟩) hS.2.2 dX2_readOrder_138
            · have hf := ifn h81 hf
              refine lv_aload_n hx hb dX2_readOrder_107 rfl (lv_at hl 0 rfl) ?_
              obtain ⟨y82, σ84, u83, hf⟩ := b2_e hf
              refine mV (k := 191) (q := (4, 0)) (C := RX2) (T := TX2) (N := 11) (ci := 2) (n := 0) (As := []) (rest := []) (c_X2_readColour l D t b σ80 y82 σ84 u83) sh_191 (by decide) rfl rfl hx hb hml hown hts hE hW hS q904 q906 q30 q38 q907 hy_X2_readColour ⟨rfl, rfl⟩ ⟨Nat.le_of_ble_eq_true rfl, Nat.le_of_ble_eq_true rfl⟩ rfl rfl hl.1 (Nat.le_of_ble_eq_true rfl) ⟨Nat.zero_le _, Nat.zero_le _⟩ dX2_readOrder_108 (fun H locs hW hS => ?_)
              refine lv_if_eq (tgt := 137) hx hb dX2_readOrder_111 (by decide) (fun h85 => ?_) (fun h85 => ?_)
              · have hf := ifp h85 hf
                refine lv_iconst (v := 0) hx hb dX2_readOrder_137 (by decide) ?_
                cases hf
                exact W.zret (ty := .boolean) hx hb hr (by decide) (fun u hu _ => ⟨⟨rfl, by rw [hu]; exact hW⟩, hS.F hu⟩) hS.2.2 dX2_readOrder_138
              · have hf := ifn h85 hf
                refine lv_aload_n hx hb dX2_readOrder_114 rfl (lv_at hl 0 rfl) ?_
                refine lv_bipush (v := 42) hx hb dX2_readOrder_115 (by decide) ?_
                obtain ⟨y86, σ88, u87, hf⟩ := b2_e hf
                refine mV (k := 191) (q := (4, 0)) (C := RX2) (T := TX2) (N := 11) (ci := 2) (n := 1) (As := [.int 42]) (rest := []) (c_X2_readSign l D t b σ84 42 y86 σ88 u87) sh_191 (by decide) rfl rfl hx hb hml hown hts hE hW hS q864 q866 q20 q38 q867 hy_X2_readSign ⟨rfl, rfl⟩ ⟨Nat.le_of_ble_eq_true rfl, Nat.le_of_ble_eq_true rfl⟩ rfl rfl hl.1 (Nat.le_of_ble_eq_true rfl) ⟨Nat.zero_le _, Nat.zero_le _⟩ dX2_readOrder_117 (fun H locs hW hS => ?_)
                refine lv_if_eq (tgt := 137) hx hb dX2_readOrder_120 (by decide) (fun h89 => ?_) (fun h89 => ?_)
                · have hf := ifp h89 hf
                  refine lv_iconst (v := 0) hx hb dX2_readOrder_137 (by decide) ?_
                  cases hf
                  exact W.zret (ty := .boolean) hx hb hr (by decide) (fun u hu _ => ⟨⟨rfl, by rw [hu]; exact hW⟩, hS.F hu⟩) hS.2.2 dX2_readOrder_138
                · have hf := ifn h89 hf
                  refine lv_aload_n hx hb dX2_readOrder_123 rfl (lv_at hl 0 rfl) ?_
                  refine lv_iconst (v := 1) hx hb dX2_readOrder_124 (by decide) ?_
                  refine lv_bipush (v := 40) hx hb dX2_readOrder_125 (by decide) ?_
                  obtain ⟨y90, σ92, u91, hf⟩ := b2_e hf
                  refine mV (k := 191) (q := (4, 0)) (C := RX2) (T := TX2) (N := 11) (ci := 2) (n := 2) (As := [.int 1, .int 40]) (rest := []) (c_X2_readCount l D t b σ88 1 40 y90 σ92 u91) sh_191 (by decide) rfl rfl hx hb hml hown hts hE hW hS q892 q894 q27 q38 q895 hy_X2_readCount ⟨rfl, rfl⟩ ⟨Nat.le_of_ble_eq_true rfl, Nat.le_of_ble_eq_true rfl⟩ rfl rfl hl.1 (Nat.le_of_ble_eq_true rfl) ⟨Nat.zero_le _, Nat.zero_le _⟩ dX2_readOrder_127 (fun H locs hW hS => ?_)
                  refine lv_if_eq (tgt := 137) hx hb dX2_readOrder_130 (by decide) (fun h93 => ?_) (fun h93 => ?_)
                  · have hf := ifp h93 hf
                    refine lv_iconst (v := 0) hx hb dX2_readOrder_137 (by decide) ?_
                    cases hf
                    exact W.zret (ty := .boolean) hx hb hr (by decide) (fun u hu _ => ⟨⟨rfl, by rw [hu]; exact hW⟩, hS.F hu⟩) hS.2.2 dX2_readOrder_138
                  · have hf := ifn h93 hf
                    refine lv_iconst (v := 1) hx hb dX2_readOrder_133 (by decide) ?_
                    refine lv_goto (tgt := 138) hx hb dX2_readOrder_134 (by decide) ?_
                    cases hf
                    exact W.zret (ty := .boolean) hx hb hr (by decide) (fun u hu _ => ⟨⟨rfl, by rw [hu]; exact hW⟩, hS.F hu⟩) hS.2.2 dX2_readOrder_138
    · have hf := ifn h9 hf
      refine lv_aload_n hx hb dX2_readOrder_35 rfl (lv_at hl 0 rfl) ?_
      refine lv_bipush (v := 11) hx hb dX2_readOrder_36 (by decide) ?_
      obtain ⟨y94, σ96, u95, hf⟩ := b2_e hf
      refine mV (k := 191) (q := (4, 0)) (C := RX2) (T := TX2) (N := 11) (ci := 2) (n := 1) (As := [.int 11]) (rest := []) (c_X2_readPlace l D t b σ8 11 y94 σ96 u95) sh_191 (by decide) rfl rfl hx hb hml hown hts hE hW hS q872 q874 q22 q38 q875 hy_X2_readPlace ⟨rfl, rfl⟩ ⟨Nat.le_of_ble_eq_true rfl, Nat.le_of_ble_eq_true rfl⟩ rfl rfl hl.1 (Nat.le_of_ble_eq_true rfl) ⟨Nat.zero_le _, Nat.zero_le _⟩ dX2_readOrder_38 (fun H locs hW hS => ?_)
      refine lv_if_eq (tgt := 72) hx hb dX2_readOrder_41 (by decide) (fun h97 => ?_) (fun h97 => ?_)
      · have hf := ifp h97 hf
        refine lv_iconst (v := 0) hx hb dX2_readOrder_72 (by decide) ?_
        cases hf
        exact W.zret (ty := .boolean) hx hb hr (by decide) (fun u hu _ => ⟨⟨rfl, by rw [hu]; exact hW⟩, hS.F hu⟩) hS.2.2 dX2_readOrder_73
      · have hf := ifn h97 hf
        refine lv_aload_n hx hb dX2_readOrder_44 rfl (lv_at hl 0 rfl) ?_
        obtain ⟨y98, σ100, u99, hf⟩ := b2_e hf
        refine mV (k := 191) (q := (4, 0)) (C := RX2) (T := TX2) (N := 11) (ci := 2) (n := 0) (As := []) (rest := []) (c_X2_readKind l D t b σ96 y98 σ100 u99) sh_191 (by decide) rfl rfl hx hb hml hown hts hE hW hS q884 q886 q25 q38 q887 hy_X2_readKind ⟨rfl, rfl⟩ ⟨Nat.le_of_ble_eq_true rfl, Nat.le_of_ble_eq_true rfl⟩ rfl rfl hl.1 (Nat.le_of_ble_eq_true rfl) ⟨Nat.zero_le _, Nat.zero_le _⟩ dX2_readOrder_45 (fun H locs hW hS => ?_)
        refine lv_if_eq (tgt := 72) hx hb dX2_readOrder_48 (by decide) (fun h101 => ?_) (fun h101 => ?_)
        · have hf := ifp h101 hf
          refine lv_iconst (v := 0) hx hb dX2_readOrder_72 (by decide) ?_
          cases hf
          exact W.zret (ty := .boolean) hx hb hr (by decide) (fun u hu _ => ⟨⟨rfl, by rw [hu]; exact hW⟩, hS.F hu⟩) hS.2.2 dX2_readOrder_73
        · have hf := ifn h101 hf
          refine lv_aload_n hx hb dX2_readOrder_51 rfl (lv_at hl 0 rfl) ?_
          refine lv_iconst (v := 1) hx hb dX2_readOrder_52 (by decide) ?_
          refine lv_bipush (v := 9) hx hb dX2_readOrder_53 (by decide) ?_
          obtain ⟨y102, σ104, u103, hf⟩ := b2_e hf
          refine mV (k := 191) (q := (4, 0)) (C := RX2) (T := TX2) (N := 11) (ci := 2) (n := 2) (As := [.int 1, .int 9]) (rest := []) (c_X2_readCount l D t b σ100 1 9 y102 σ104 u103) sh_191 (by decide) rfl rfl hx hb hml hown hts hE hW hS q892 q894 q27 q38 q895 hy_X2_readCount ⟨rfl, rfl⟩ ⟨Nat.le_of_ble_eq_true rfl, Nat.le_of_ble_eq_true rfl⟩ rfl rfl hl.1 (Nat.le_of_ble_eq_true rfl) ⟨Nat.zero_le _, Nat.zero_le _⟩ dX2_readOrder_55 (fun H locs hW hS => ?_)
          refine lv_if_eq (tgt := 72) hx hb dX2_readOrder_58 (by decide) (fun h105 => ?_) (fun h105 => ?_)
          · have hf := ifp h105 hf
            refine lv_iconst (v := 0) hx hb dX2_readOrder_72 (by decide) ?_
            cases hf
            exact W.zret (ty := .boolean) hx hb hr (by decide) (fun u hu _ => ⟨⟨rfl, by rw [hu]; exact hW⟩, hS.F hu⟩) hS.2.2 dX2_readOrder_73
          · have hf := ifn h105 hf
            refine lv_aload_n hx hb dX2_readOrder_61 rfl (lv_at hl 0 rfl) ?_
            obtain ⟨y106, σ108, u107, hf⟩ := b2_e hf
            refine mV (k := 191) (q := (4, 0)) (C := RX2) (T := TX2) (N := 11) (ci := 2) (n := 0) (As := []) (rest := []) (c_X2_readRoof l D t b σ104 y106 σ108 u107) sh_191 (by decide) rfl rfl hx hb hml hown hts hE hW hS q896 q898 q28 q38 q899 hy_X2_readRoof ⟨rfl, rfl⟩ ⟨Nat.le_of_ble_eq_true rfl, Nat.le_of_ble_eq_true rfl⟩ rfl rfl hl.1 (Nat.le_of_ble_eq_true rfl) ⟨Nat.zero_le _, Nat.zero_le _⟩ dX2_readOrder_62 (fun H locs hW hS => ?_)
            refine lv_if_eq (tgt := 72) hx hb dX2_readOrder_65 (by decide) (fun h109 => ?_) (fun h109 => ?_)
            · have hf := ifp h109 hf
              refine lv_iconst (v := 0) hx hb dX2_readOrder_72 (by decide) ?_
              cases hf
              exact W.zret (ty := .boolean) hx hb hr (by decide) (fun u hu _ => ⟨⟨rfl, by rw [hu]; exact hW⟩, hS.F hu⟩) hS.2.2 dX2_readOrder_73
            · have hf := ifn h109 hf
              refine lv_iconst (v := 1) hx hb dX2_readOrder_68 (by decide) ?_
              refine lv_goto (tgt := 73) hx hb dX2_readOrder_69 (by decide) ?_
              cases hf
              exact W.zret (ty := .boolean) hx hb hr (by decide) (fun u hu _ => ⟨⟨rfl, by rw [hu]; exact hW⟩, hS.F hu⟩) hS.2.2 dX2_readOrder_73
  · have hf := ifn h1 hf
    refine lv_iconst (v := 0) hx hb dX2_readOrder_11 (by decide) ?_
    cases hf
    exact W.zret (ty := .boolean) hx hb hr (by decide) (fun u hu _ => ⟨⟨rfl, by rw [hu]; exact hW⟩, hS.F hu⟩) hS.2.2 dX2_readOrder_12
def f_X2_readNext (σ : Sg) : Option (Int32 × Sg) := if (σ 191 3) ≤ 0 then (b2 (f_X2_readOrder σ) fun y2 σ4 => if y2 = 0 then (some (0, σ4)) else (st (u2 σ4 191 3 ((σ4 191 3) + 1)) fun σ6 => some (1, σ6))) else (b2 (f_X2_readSign σ 59) fun y8 σ10 => if y8 = 0 then (some (0, σ10)) else (b2 (f_X2_readOrder σ10) fun y12 σ14 => if y12 = 0 then (some (0, σ14)) else (st (u2 σ14 191 3 ((σ14 191 3) + 1)) fun σ16 => some (1, σ16))))
set_option maxHeartbeats 4000000 in
set_option maxRecDepth 100000 in
theorem c_X2_readNext (l : Launch) (D : va_G) (t : Nat → ClassId) (b : Nat) (σ : Sg) (r : Int32) (σr : Sg) (hf : f_X2_readNext σ = some (r, σr)) : Met l yX2_readNext (Cond.code yX2_readNext cX2_readNext 1 (some .boolean) :: ALL) ({ frames := 4, cells := 0, slots := 0, locals := 88 }) (PM D t b σ [.ref (b + 191)]) (QG D t b σr (some (.int r))) 0 0 (geA b) := by
  refine Met.ofW (cc := cX2_readNext) (maxL := 1) (ret := (some .boolean)) (by decide) rfl ?_
  intro p e s m args below meth c s₁ B hml hv
  obtain ⟨rfl, hW, hE⟩ := hv
  have hx := B.exec
  have hb := B.bytes
  have hr := B.returns
  have hts := atoms_spec (ws := Cond.code yX2_readNext cX2_readNext 1 (some .boolean) :: ALL) B.pre
  have hta := fun w h => hts w (List.mem_cons_of_mem _ h)
  have hown : s.vm.findClass RX2 = some m.cls := findClass_of_methodNamed B.named
  have hlocks := B.notSynchronized
  have hS : va_S (geA b) s.heap s.heap [] := va_S.rf
  have hl := lv_entry ([.ref (b + 191)]) (n := 1) (Nat.le_of_ble_eq_true rfl)
  rw [lg_entry_eq]
  generalize (lg_sl ([.ref (b + 191)]) ++ List.replicate (1 - (lg_sl ([.ref (b + 191)])).length) Slot.unset).toArray = ls at hl ⊢
  have hl : lv_has ls 1 [(0, .ref (b + 191))] := hl
  unfold f_X2_readNext at hf
  refine lv_aload_n hx hb dX2_readNext_0 rfl (lv_at hl 0 rfl) ?_
  refine getO hx hb hta hown hE.1 hW sh_191 3 (by decide) q234 rfl dX2_readNext_1 ?_
  refine lv_if_le (tgt := 18) hx hb dX2_readNext_4 (by decide) (fun h1 => ?_) (fun h1 => ?_)
  · have hf := ifp h1 hf
    refine lv_aload_n hx hb dX2_readNext_18 rfl (lv_at hl 0 rfl) ?_
    obtain ⟨y2, σ4, u3, hf⟩ := b2_e hf
    refine mV (k := 191) (q := (4, 0)) (C := RX2) (T := TX2) (N := 11) (ci := 2) (n := 0) (As := []) (rest := []) (c_X2_readOrder l D t b σ y2 σ4 u3) sh_191 (by decide) rfl rfl hx hb hml hown hts hE hW hS q868 q870 q21 q38 q871 hy_X2_readOrder ⟨rfl, rfl⟩ ⟨Nat.le_of_ble_eq_true rfl, Nat.le_of_ble_eq_true rfl⟩ rfl rfl hl.1 (Nat.le_of_ble_eq_true rfl) ⟨Nat.zero_le _, Nat.zero_le _⟩ dX2_readNext_19 (fun H locs hW hS => ?_)
    refine lv_if_ne (tgt := 27) hx hb dX2_readNext_22 (by decide) (fun h5 => ?_) (fun h5 => ?_)
    · have hf := ifn h5 hf
      refine lv_aload_n hx hb dX2_readNext_27 rfl (lv_at hl 0 rfl) ?_
      refine lv_dup hx hb dX2_readNext_28 rfl ?_
      refine getO hx hb hta hown hE.1 hW sh_191 3 (by decide) q234 rfl dX2_readNext_29 ?_
      refine lv_iconst (v := 1) hx hb dX2_readNext_32 (by decide) ?_
      refine lv_iadd hx hb dX2_readNext_33 ?_
      refine putX (k := 191) (q := (4, 0)) (ci := 2) (x := ((σ4 191 3) + 1)) inA2 tyX2_ok nmX2 rfl (by decide) rfl hx hb hta hown hE.1 hW hS sh_191 3 (by decide) q234 rfl rfl rfl (Nat.le_of_ble_eq_true rfl) rfl dX2_readNext_34 (fun H locs hW hS => ?_)
      obtain ⟨σ6, e7, hf⟩ := st_e hf
      rw [e7] at hW
      refine lv_iconst (v := 1) hx hb dX2_readNext_37 (by decide) ?_
      cases hf
      exact W.zret (ty := .boolean) hx hb hr (by decide) (fun u hu _ => ⟨⟨rfl, by rw [hu]; exact hW⟩, hS.F hu⟩) hS.2.2 dX2_readNext_38
    · have hf := ifp h5 hf
      refine lv_iconst (v := 0) hx hb dX2_readNext_25 (by decide) ?_
      cases hf
      exact W.zret (ty := .boolean) hx hb hr (by decide) (fun u hu _ => ⟨⟨rfl, by rw [hu]; exact hW⟩, hS.F hu⟩) hS.2.2 dX2_readNext_26
  · have hf := ifn h1 hf
    refine lv_aload_n hx hb dX2_readNext_7 rfl (lv_at hl 0 rfl) ?_
    refine lv_bipush (v := 59) hx hb dX2_readNext_8 (by decide) ?_
    obtain ⟨y8, σ10, u9, hf⟩ := b2_e hf
    refine mV (k := 191) (q := (4, 0)) (C := RX2) (T := TX2) (N := 11) (ci := 2) (n := 1) (As := [.int 59]) (rest := []) (c_X2_readSign l D t b σ 59 y8 σ10 u9) sh_191 (by decide) rfl rfl hx hb hml hown hts hE hW hS q864 q866 q20 q38 q867 hy_X2_readSign ⟨rfl, rfl⟩ ⟨Nat.le_of_ble_eq_true rfl, Nat.le_of_ble_eq_true rfl⟩ rfl rfl hl.1 (Nat.le_of_ble_eq_true rfl) ⟨Nat.zero_le _, Nat.zero_le _⟩ dX2_readNext_10 (fun H locs hW hS => ?_)
    refine lv_if_ne (tgt := 18) hx hb dX2_readNext_13 (by decide) (fun h11 => ?_) (fun h11 => ?_)
    · have hf := ifn h11 hf
      refine lv_aload_n hx hb dX2_readNext_18 rfl (lv_at hl 0 rfl) ?_
      obtain ⟨y12, σ14, u13, hf⟩ := b2_e hf
      refine mV (k := 191) (q := (4, 0)) (C := RX2) (T := TX2) (N := 11) (ci := 2) (n := 0) (As := []) (rest := []) (c_X2_readOrder l D t b σ10 y12 σ14 u13) sh_191 (by decide) rfl rfl hx hb hml hown hts hE hW hS q868 q870 q21 q38 q871 hy_X2_readOrder ⟨rfl, rfl⟩ ⟨Nat.le_of_ble_eq_true rfl, Nat.le_of_ble_eq_true rfl⟩ rfl rfl hl.1 (Nat.le_of_ble_eq_true rfl) ⟨Nat.zero_le _, Nat.zero_le _⟩ dX2_readNext_19 (fun H locs hW hS => ?_)
      refine lv_if_ne (tgt := 27) hx hb dX2_readNext_22 (by decide) (fun h15 => ?_) (fun h15 => ?_)
      · have hf := ifn h15 hf
        refine lv_aload_n hx hb dX2_readNext_27 rfl (lv_at hl 0 rfl) ?_
        refine lv_dup hx hb dX2_readNext_28 rfl ?_
        refine getO hx hb hta hown hE.1 hW sh_191 3 (by decide) q234 rfl dX2_readNext_29 ?_
        refine lv_iconst (v := 1) hx hb dX2_readNext_32 (by decide) ?_
        refine lv_iadd hx hb dX2_readNext_33 ?_
        refine putX (k := 191) (q := (4, 0)) (ci := 2) (x := ((σ14 191 3) + 1)) inA2 tyX2_ok nmX2 rfl (by decide) rfl hx hb hta hown hE.1 hW hS sh_191 3 (by decide) q234 rfl rfl rfl (Nat.le_of_ble_eq_true rfl) rfl dX2_readNext_34 (fun H locs hW hS => ?_)
        obtain ⟨σ16, e17, hf⟩ := st_e hf
        rw [e17] at hW
        refine lv_iconst (v := 1) hx hb dX2_readNext_37 (by decide) ?_
        cases hf
        exact W.zret (ty := .boolean) hx hb hr (by decide) (fun u hu _ => ⟨⟨rfl, by rw [hu]; exact hW⟩, hS.F hu⟩) hS.2.2 dX2_readNext_38
      · have hf := ifp h15 hf
        refine lv_iconst (v := 0) hx hb dX2_readNext_25 (by decide) ?_
        cases hf
        exact W.zret (ty := .boolean) hx hb hr (by decide) (fun u hu _ => ⟨⟨rfl, by rw [hu]; exact hW⟩, hS.F hu⟩) hS.2.2 dX2_readNext_26
    · have hf := ifp h11 hf
      refine lv_iconst (v := 0) hx hb dX2_readNext_16 (by decide) ?_
      cases hf
      exact W.zret (ty := .boolean) hx hb hr (by decide) (fun u hu _ => ⟨⟨rfl, by rw [hu]; exact hW⟩, hS.F hu⟩) hS.2.2 dX2_readNext_17
def l_X2_firstError_6 : Nat → Sg → Int32 → Option (Int32 × Sg)
  | 0, _, _ => none
  | n + 1, τ, x1 => if 80 ≤ x1 then (some ((τ 191 2), τ)) else (b2 (f_X2_readNext τ) fun y5 σ7 => if y5 = 0 then (some ((σ7 191 2), σ7)) else (if (σ7 191 2) = (σ7 191 1) then (some ((-1), σ7)) else (l_X2_firstError_6 n σ7 (x1 + 1))))
def f_X2_firstError (σ : Sg) : Option (Int32 × Sg) := b1 (f_X2_rewind σ) fun σ3 => l_X2_firstError_6 10000 σ3 0
set_option maxHeartbeats 4000000 in
set_option maxRecDepth 100000 in
theorem c_X2_firstError (l : Launch) (D : va_G) (t : Nat → ClassId) (b : Nat) (σ : Sg) (r : Int32) (σr : Sg) (hf : f_X2_firstError σ = some (r, σr)) : Met l yX2_firstError (Cond.code yX2_firstError cX2_firstError 2 (some .int) :: ALL) ({ frames := 5, cells := 0, slots := 0, locals := 108 }) (PM D t b σ [.ref (b + 191)]) (QG D t b σr (some (.int r))) 0 0 (geA b) := by
  refine Met.ofW (cc := cX2_firstError) (maxL := 2) (ret := (some .int)) (by decide) rfl ?_
  intro p e s m args below meth c s₁ B hml hv
  obtain ⟨rfl, hW, hE⟩ := hv
  have hx := B.exec
  have hb := B.bytes
  have hr := B.returns
  have hts := atoms_spec (ws := Cond.code yX2_firstError cX2_firstError 2 (some .int) :: ALL) B.pre
  have hta := fun w h => hts w (List.mem_cons_of_mem _ h)
  have hown : s.vm.findClass RX2 = some m.cls := findClass_of_methodNamed B.named
  have hlocks := B.notSynchronized
  have hS : va_S (geA b) s.heap s.heap [] := va_S.rf
  have hl := lv_entry ([.ref (b + 191)]) (n := 2) (Nat.le_of_ble_eq_true rfl)
  rw [lg_entry_eq]
  generalize (lg_sl ([.ref (b + 191)]) ++ List.replicate (2 - (lg_sl ([.ref (b + 191)])).length) Slot.unset).toArray = ls at hl ⊢
  have hl : lv_has ls 2 [(0, .ref (b + 191))] := hl
  unfold f_X2_firstError at hf
  refine lv_aload_n hx hb dX2_firstError_0 rfl (lv_at hl 0 rfl) ?_
  obtain ⟨σ3, u2, hf⟩ := b1_e hf
  refine mV (k := 191) (q := (4, 0)) (C := RX2) (T := TX2) (N := 11) (ci := 2) (n := 0) (As := []) (rest := []) (c_X2_rewind l D t b σ σ3 u2) sh_191 (by decide) rfl rfl hx hb hml hown hts hE hW hS q856 q857 q858 q38 q859 hy_X2_rewind ⟨rfl, rfl⟩ ⟨Nat.le_of_ble_eq_true rfl, Nat.le_of_ble_eq_true rfl⟩ rfl rfl hl.1 (Nat.le_of_ble_eq_true rfl) ⟨Nat.zero_le _, Nat.zero_le _⟩ dX2_firstError_1 (fun H locs hW hS => ?_)
  refine lv_iconst (v := 0) hx hb dX2_firstError_4 (by decide) ?_
  refine lv_istore_n (lv' := [(1, .int 0), (0, .ref (b + 191))]) hx hb dX2_firstError_5 rfl hl (by decide) rfl (fun ls hl => ?_)
  have key_6 : ∀ (n : Nat) (τ : Sg) (x1 : Int32) (H : Heap) (locs : List Loc) (ls : Array Slot), l_X2_firstError_6 n τ x1 = some (r, σr) → wd D t b τ H → va_S (geA b) s.heap H locs → lv_has ls 2 [(0, .ref (b + 191)), (1, .int x1)] → W p l e (headSpec (Cond.code yX2_firstError cX2_firstError 2 (some .int) :: ALL) ({ frames := 5, cells := 0, slots := 0, locals := 108 })).room s m (([.ref (b + 191)] : List Value).toArray) below meth c H locs 0 0 (MQ below (QG D t b σr (some (.int r))) (([.ref (b + 191)] : List Value).toArray) s 0 0 (geA b)) (F0 m 6 ls []) := by
    intro n
    induction n with
    | zero =>
      intro τ x1 H locs ls hf
      rw [l_X2_firstError_6.eq_1] at hf
      cases hf
    | succ n ih_6 =>
      intro τ x1 H locs ls hf hW hS hl
      rw [l_X2_firstError_6.eq_2] at hf
      refine lv_iload_n hx hb dX2_firstError_6 rfl (lv_at hl 1 rfl) ?_
      refine lv_bipush (v := 80) hx hb dX2_firstError_7 (by decide) ?_
      refine lv_icmp_ge (tgt := 38) hx hb dX2_firstError_9 (by decide) (fun h4 => ?_) (fun h4 => ?_)
      · have hf := ifp h4 hf
        refine lv_aload_n hx hb dX2_firstError_38 rfl (lv_at hl 0 rfl) ?_
        refine getO hx hb hta hown hE.1 hW sh_191 2 (by decide) q233 rfl dX2_firstError_39 ?_
        cases hf
        exact W.iret hx hb hr (fun u hu _ => ⟨⟨rfl, by rw [hu]; exact hW⟩, hS.F hu⟩) hS.2.2 dX2_firstError_42
      · have hf := ifn h4 hf
        refine lv_aload_n hx hb dX2_firstError_12 rfl (lv_at hl 0 rfl) ?_
        obtain ⟨y5, σ7, u6, hf⟩ := b2_e hf
        refine mV (k := 191) (q := (4, 0)) (C := RX2) (T := TX2) (N := 11) (ci := 2) (n := 0) (As := []) (rest := []) (c_X2_readNext l D t b τ y5 σ7 u6) sh_191 (by decide) rfl rfl hx hb hml hown hts hE hW hS q860 q861 q862 q38 q863 hy_X2_readNext ⟨rfl, rfl⟩ ⟨Nat.le_of_ble_eq_true rfl, Nat.le_of_ble_eq_true rfl⟩ rfl rfl hl.1 (Nat.le_of_ble_eq_true rfl) ⟨Nat.zero_le _, Nat.zero_le _⟩ dX2_firstError_13 (fun H locs hW hS => ?_)
        refine lv_if_eq (tgt := 38) hx hb dX2_firstError_16 (by decide) (fun h8 => ?_) (fun h8 => ?_)
        · have hf := ifp h8 hf
          refine lv_aload_n hx hb dX2_firstError_38 rfl (lv_at hl 0 rfl) ?_
          refine getO hx hb hta hown hE.1 hW sh_191 2 (by decide) q233 rfl dX2_firstError_39 ?_
          cases hf
          exact W.iret hx hb hr (fun u hu _ => ⟨⟨rfl, by rw [hu]; exact hW⟩, hS.F hu⟩) hS.2.2 dX2_firstError_42
        · have hf := ifn h8 hf
          refine lv_aload_n hx hb dX2_firstError_19 rfl (lv_at hl 0 rfl) ?_
          refine getO hx hb hta hown hE.1 hW sh_191 2 (by decide) q233 rfl dX2_firstError_20 ?_
          refine lv_aload_n hx hb dX2_firstError_23 rfl (lv_at hl 0 rfl) ?_
          refine getO hx hb hta hown hE.1 hW sh_191 1 (by decide) q231 rfl dX2_firstError_24 ?_
          refine lv_icmp_ne (tgt := 32) hx hb dX2_firstError_27 (by decide) (fun h9 => ?_) (fun h9 => ?_)
          · have hf := ifn h9 hf
            refine lv_iinc (v := (x1 + 1)) (lv' := [(1, .int (x1 + 1)), (0, .ref (b + 191))]) hx hb dX2_firstError_32 hl (k := 1) rfl (by rfl) (by decide) rfl (fun ls hl => ?_)
            refine lv_goto (tgt := 6) hx hb dX2_firstError_35 (by decide) ?_
            exact ih_6 σ7 (x1 + 1) _ _ _ hf hW hS (lv_sub hl [1, 0] rfl)
          · have hf := ifp h9 hf
            refine lv_iconst (v := (-1)) hx hb dX2_firstError_30 (by decide) ?_
            cases hf
            exact W.iret hx hb hr (fun u hu _ => ⟨⟨rfl, by rw [hu]; exact hW⟩, hS.F hu⟩) hS.2.2 dX2_firstError_31
  exact key_6 10000 σ3 0 _ _ _ hf hW hS (lv_sub hl [1, 0] rfl)
def f_X4_textError (σ : Sg) : Option (Int32 × Sg) := b2 (f_X2_firstError σ) fun y1 σ3 => some (y1, σ3)
set_option maxHeartbeats 4000000 in
set_option maxRecDepth 100000 in
theorem c_X4_textError (l : Launch) (D : va_G) (t : Nat → ClassId) (b : Nat) (σ : Sg) (r : Int32) (σr : Sg) (hf : f_X4_textError σ = some (r, σr)) : Met l yX4_textError (Cond.code yX4_textError cX4_textError 1 (some .int) :: ALL) ({ frames := 6, cells := 0, slots := 0, locals := 129 }) (PM D t b σ [.ref (b + 0)]) (QG D t b σr (some (.int r))) 0 0 (geA b) := by
  refine Met.ofW (cc := cX4_textError) (maxL := 1) (ret := (some .int)) (by decide) rfl ?_
  intro p e s m args below meth c s₁ B hml hv
  obtain ⟨rfl, hW, hE⟩ := hv
  have hx := B.exec
  have hb := B.bytes
  have hr := B.returns
  have hts := atoms_spec (ws := Cond.code yX4_textError cX4_textError 1 (some .int) :: ALL) B.pre
  have hta := fun w h => hts w (List.mem_cons_of_mem _ h)
  have hown : s.vm.findClass RX4 = some m.cls := findClass_of_methodNamed B.named
  have hlocks := B.notSynchronized
  have hS : va_S (geA b) s.heap s.heap [] := va_S.rf
  have hl := lv_entry ([.ref (b + 0)]) (n := 1) (Nat.le_of_ble_eq_true rfl)
  rw [lg_entry_eq]
  generalize (lg_sl ([.ref (b + 0)]) ++ List.replicate (1 - (lg_sl ([.ref (b + 0)])).length) Slot.unset).toArray = ls at hl ⊢
  have hl : lv_has ls 1 [(0, .ref (b + 0))] := hl
  unfold f_X4_textError at hf
  refine lv_aload_n hx hb dX4_textError_0 rfl (lv_at hl 0 rfl) ?_
  refine getP hx hb hta hown hE.1 hW 7 (by decide) q281 rfl dX4_textError_1 ?_
  obtain ⟨y1, σ3, u2, hf⟩ := b2_e hf
  refine mV (k := 191) (q := (4, 0)) (C := RX2) (T := TX2) (N := 11) (ci := 2) (n := 0) (As := []) (rest := []) (c_X2_firstError l D t b σ y1 σ3 u2) sh_191 (by decide) rfl rfl hx hb hml hown hts hE hW hS q852 q853 q854 q38 q855 hy_X2_firstError ⟨rfl, rfl⟩ ⟨Nat.le_of_ble_eq_true rfl, Nat.le_of_ble_eq_true rfl⟩ rfl rfl hl.1 (Nat.le_of_ble_eq_true rfl) ⟨Nat.zero_le _, Nat.zero_le _⟩ dX4_textError_4 (fun H locs hW hS => ?_)
  cases hf
  exact W.iret hx hb hr (fun u hu _ => ⟨⟨rfl, by rw [hu]; exact hW⟩, hS.F hu⟩) hS.2.2 dX4_textError_7
def f_X1_canObey (c0 : Nat) (σ : Sg) : Option Int32 := if (σ 191 4) = 98 then (b1 (f_X1_canBuild c0 σ (σ 191 5) (σ 191 10)) fun y2 => gd y2 2 (some y2)) else (if (σ 191 4) = 114 then (b1 (f_X1_canRestock c0 σ (σ 191 5) (σ 191 7) (σ 191 9)) fun y6 => gd y6 2 (some y6)) else (if (σ 191 4) = 102 then (b1 (f_X1_canFund c0 σ (σ 191 5) (σ 191 9)) fun y10 => gd y10 2 (some y10)) else (if (σ 191 4) = 99 then (b1 (f_X0_haveRoom (c0 + 4) σ) fun y14 => gd y14 2 (some y14)) else (if (σ 191 4) = 119 then (if (σ 191 5) < 0 then (some 0) else (if 10 ≤ (σ 191 5) then (some 0) else (some 1))) else (b1 (f_X1_canPass c0 σ (σ 191 9)) fun y20 => gd y20 2 (some y20))))))
set_option maxHeartbeats 4000000 in
set_option maxRecDepth 100000 in
theorem c_X1_canObey (l : Launch) (D : va_G) (t : Nat → ClassId) (b : Nat) (c0 : Nat) (σ : Sg) (r : Int32) (hc0 : sh c0 = (1, 0)) (hf : f_X1_canObey c0 σ = some r) : Met l yX1_canObey (Cond.code yX1_canObey cX1_canObey 2 (some .boolean) :: ALL) ({ frames := 2, cells := 0, slots := 0, locals := 45 }) (PM D t b σ [.ref (b + c0), .ref (b + 191)]) (QG D t b σ (some (.int r))) 0 0 (geA b) := by
  refine Met.ofW (cc := cX1_canObey) (maxL := 2) (ret := (some .boolean)) (by decide) rfl ?_
  intro p e s m args below meth c s₁ B hml hv
  obtain ⟨rfl, hW, hE⟩ := hv
  have hx := B.exec
  have hb := B.bytes
  have hr := B.returns
  have hts := atoms_spec (ws := Cond.code yX1_canObey cX1_canObey 2 (some .boolean) :: ALL) B.pre
  have hta := fun w h => hts w (List.mem_cons_of_mem _ h)
  have hown : s.vm.findClass RX1 = some m.cls := findClass_of_methodNamed B.named
  have hlocks := B.notSynchronized
  have hS : va_S (geA b) s.heap s.heap [] := va_S.rf
  have hl := lv_entry ([.ref (b + c0), .ref (b + 191)]) (n := 2) (Nat.le_of_ble_eq_true rfl)
  rw [lg_entry_eq]
  generalize (lg_sl ([.ref (b + c0), .ref (b + 191)]) ++ List.replicate (2 - (lg_sl ([.ref (b + c0), .ref (b + 191)])).length) Slot.unset).toArray = ls at hl ⊢
  have hl : lv_has ls 2 [(0, .ref (b + c0)), (1, .ref (b + 191))] := hl
  unfold f_X1_canObey at hf
  refine lv_aload_n hx hb dX1_canObey_0 rfl (lv_at hl 1 rfl) ?_
  refine getO hx hb hta hown hE.1 hW sh_191 4 (by decide) q236 rfl dX1_canObey_1 ?_
  refine lv_bipush (v := 98) hx hb dX1_canObey_4 (by decide) ?_
  refine lv_icmp_ne (tgt := 22) hx hb dX1_canObey_6 (by decide) (fun h1 => ?_) (fun h1 => ?_)
  · have hf := ifn h1 hf
    refine lv_aload_n hx hb dX1_canObey_22 rfl (lv_at hl 1 rfl) ?_
    refine getO hx hb hta hown hE.1 hW sh_191 4 (by decide) q236 rfl dX1_canObey_23 ?_
    refine lv_bipush (v := 114) hx hb dX1_canObey_26 (by decide) ?_
    refine lv_icmp_ne (tgt := 48) hx hb dX1_canObey_28 (by decide) (fun h5 => ?_) (fun h5 => ?_)
    · have hf := ifn h5 hf
      refine lv_aload_n hx hb dX1_canObey_48 rfl (lv_at hl 1 rfl) ?_
      refine getO hx hb hta hown hE.1 hW sh_191 4 (by decide) q236 rfl dX1_canObey_49 ?_
      refine lv_bipush (v := 102) hx hb dX1_canObey_52 (by decide) ?_
      refine lv_icmp_ne (tgt := 70) hx hb dX1_canObey_54 (by decide) (fun h9 => ?_) (fun h9 => ?_)
      · have hf := ifn h9 hf
        refine lv_aload_n hx hb dX1_canObey_70 rfl (lv_at hl 1 rfl) ?_
        refine getO hx hb hta hown hE.1 hW sh_191 4 (by decide) q236 rfl dX1_canObey_71 ?_
        refine lv_bipush (v := 99) hx hb dX1_canObey_74 (by decide) ?_
        refine lv_icmp_ne (tgt := 87) hx hb dX1_canObey_76 (by decide) (fun h13 => ?_) (fun h13 => ?_)
        · have hf := ifn h13 hf
          refine lv_aload_n hx hb dX1_canObey_87 rfl (lv_at hl 1 rfl) ?_
          refine getO hx hb hta hown hE.1 hW sh_191 4 (by decide) q236 rfl dX1_canObey_88 ?_
          refine lv_bipush (v := 119) hx hb dX1_canObey_91 (by decide) ?_
          refine lv_icmp_ne (tgt := 118) hx hb dX1_canObey_93 (by decide) (fun h17 => ?_) (fun h17 => ?_)
          · have hf := ifn h17 hf
            refine lv_aload_n hx hb dX1_canObey_118 rfl (lv_at hl 0 rfl) ?_
            refine lv_aload_n hx hb dX1_canObey_119 rfl (lv_at hl 1 rfl) ?_
            refine getO hx hb hta hown hE.1 hW sh_191 9 (by decide) q246 rfl dX1_canObey_120 ?_
            obtain ⟨y20, u21, hf⟩ := b1_e hf
            refine mV (k := c0) (q := (1, 0)) (C := RX1) (T := TX1) (N := 13) (ci := 1) (n := 1) (As := [.int (σ 191 9)]) (rest := []) (c_X1_canPass l D t b c0 σ (σ 191 9) y20 hc0 u21) hc0 (by decide) rfl rfl hx hb hml hown hts hE hW hS q926 q622 q623 q35 q624 hy_X1_canPass ⟨rfl, rfl⟩ ⟨Nat.le_of_ble_eq_true rfl, Nat.le_of_ble_eq_true rfl⟩ rfl rfl hl.1 (Nat.le_of_ble_eq_true rfl) ⟨Nat.zero_le _, Nat.zero_le _⟩ dX1_canObey_123 (fun H locs hW hS => ?_)
            obtain ⟨g22, hf⟩ := gd_e hf
            cases hf
            exact W.zret (ty := .boolean) hx hb hr (nar_bool g22).1 (fun u hu _ => ⟨⟨rfl, by rw [hu]; exact hW⟩, hS.F hu⟩) hS.2.2 dX1_canObey_126
          · have hf := ifp h17 hf
            refine lv_aload_n hx hb dX1_canObey_96 rfl (lv_at hl 1 rfl) ?_
            refine getO hx hb hta hown hE.1 hW sh_191 5 (by decide) q238 rfl dX1_canObey_97 ?_
            refine lv_if_lt (tgt := 116) hx hb dX1_canObey_100 (by decide) (fun h18 => ?_) (fun h18 => ?_)
            · have hf := ifp h18 hf
              refine lv_iconst (v := 0) hx hb dX1_canObey_116 (by decide) ?_
              cases hf
              exact W.zret (ty := .boolean) hx hb hr (by decide) (fun u hu _ => ⟨⟨rfl, by rw [hu]; exact hW⟩, hS.F hu⟩) hS.2.2 dX1_canObey_117
            · have hf := ifn h18 hf
              refine lv_aload_n hx hb dX1_canObey_103 rfl (lv_at hl 1 rfl) ?_
              refine getO hx hb hta hown hE.1 hW sh_191 5 (by decide) q238 rfl dX1_canObey_104 ?_
              refine lv_bipush (v := 10) hx hb dX1_canObey_107 (by decide) ?_
              refine lv_icmp_ge (tgt := 116) hx hb dX1_canObey_109 (by decide) (fun h19 => ?_) (fun h19 => ?_)
              · have hf := ifp h19 hf
                refine lv_iconst (v := 0) hx hb dX1_canObey_116 (by decide) ?_
                cases hf
                exact W.zret (ty := .boolean) hx hb hr (by decide) (fun u hu _ => ⟨⟨rfl, by rw [hu]; exact hW⟩, hS.F hu⟩) hS.2.2 dX1_canObey_117
              · have hf := ifn h19 hf
                refine lv_iconst (v := 1) hx hb dX1_canObey_112 (by decide) ?_
                refine lv_goto (tgt := 117) hx hb dX1_canObey_113 (by decide) ?_
                cases hf
                exact W.zret (ty := .boolean) hx hb hr (by decide) (fun u hu _ => ⟨⟨rfl, by rw [hu]; exact hW⟩, hS.F hu⟩) hS.2.2 dX1_canObey_117
        · have hf := ifp h13 hf
          refine lv_aload_n hx hb dX1_canObey_79 rfl (lv_at hl 0 rfl) ?_
          refine getF hx hb hta hown hE.1 hW hc0 12 (by decide) q194 rfl dX1_canObey_80 ?_
          obtain ⟨y14, u15, hf⟩ := b1_e hf
          refine mV (k := (c0 + 4)) (q := (2, 0)) (C := RX0) (T := TX0) (N := 10) (ci := 0) (n := 0) (As := []) (rest := []) (c_X0_haveRoom l D t b (c0 + 4) σ y14 (shF_4 hc0) u15) (shF_4 hc0) (by decide) rfl rfl hx hb hml hown hts hE hW hS q641 q531 q532 q36 q533 hy_X0_haveRoom ⟨rfl, rfl⟩ ⟨Nat.le_of_ble_eq_true rfl, Nat.le_of_ble_eq_true rfl⟩ rfl rfl hl.1 (Nat.le_of_ble_eq_true rfl) ⟨Nat.zero_le _, Nat.zero_le _⟩ dX1_canObey_83 (fun H locs hW hS => ?_)
          obtain ⟨g16, hf⟩ := gd_e hf
          cases hf
          exact W.zret (ty := .boolean) hx hb hr (nar_bool g16).1 (fun u hu _ => ⟨⟨rfl, by rw [hu]; exact hW⟩, hS.F hu⟩) hS.2.2 dX1_canObey_86
      · have hf := ifp h9 hf
        refine lv_aload_n hx hb dX1_canObey_57 rfl (lv_at hl 0 rfl) ?_
        refine lv_aload_n hx hb dX1_canObey_58 rfl (lv_at hl 1 rfl) ?_
        refine getO hx hb hta hown hE.1 hW sh_191 5 (by decide) q238 rfl dX1_canObey_59 ?_
        refine lv_aload_n hx hb dX1_canObey_62 rfl (lv_at hl 1 rfl) ?_
        refine getO hx hb hta hown hE.1 hW sh_191 9 (by decide) q246 rfl dX1_canObey_63 ?_
        obtain ⟨y10, u11, hf⟩ := b1_e hf
        refine mV (k := c0) (q := (1, 0)) (C := RX1) (T := TX1) (N := 13) (ci := 1) (n := 2) (As := [.int (σ 191 5), .int (σ 191 9)]) (rest := []) (c_X1_canFund l D t b c0 σ (σ 191 5) (σ 191 9) y10 hc0 u11) hc0 (by decide) rfl rfl hx hb hml hown hts hE hW hS q925 q517 q518 q35 q519 hy_X1_canFund ⟨rfl, rfl⟩ ⟨Nat.le_of_ble_eq_true rfl, Nat.le_of_ble_eq_true rfl⟩ rfl rfl hl.1 (Nat.le_of_ble_eq_true rfl) ⟨Nat.zero_le _, Nat.zero_le _⟩ dX1_canObey_66 (fun H locs hW hS => ?_)
        obtain ⟨g12, hf⟩ := gd_e hf
        cases hf
        exact W.zret (ty := .boolean) hx hb hr (nar_bool g12).1 (fun u hu _ => ⟨⟨rfl, by rw [hu]; exact hW⟩, hS.F hu⟩) hS.2.2 dX1_canObey_69
    · have hf := ifp h5 hf
      refine lv_aload_n hx hb dX1_canObey_31 rfl (lv_at hl 0 rfl) ?_
      refine lv_aload_n hx hb dX1_canObey_32 rfl (lv_at hl 1 rfl) ?_
      refine getO hx hb hta hown hE.1 hW sh_191 5 (by decide) q238 rfl dX1_canObey_33 ?_
      refine lv_aload_n hx hb dX1_canObey_36 rfl (lv_at hl 1 rfl) ?_
      refine getO hx hb hta hown hE.1 hW sh_191 7 (by decide) q242 rfl dX1_canObey_37 ?_
      refine lv_aload_n hx hb dX1_canObey_40 rfl (lv_at hl 1 rfl) ?_
      refine getO hx hb hta hown hE.1 hW sh_191 9 (by decide) q246 rfl dX1_canObey_41 ?_
      obtain ⟨y6, u7, hf⟩ := b1_e hf
      refine mV (k := c0) (q := (1, 0)) (C := RX1) (T := TX1) (N := 13) (ci := 1) (n := 3) (As := [.int (σ 191 5), .int (σ 191 7), .int (σ 191 9)]) (rest := []) (c_X1_canRestock l D t b c0 σ (σ 191 5) (σ 191 7) (σ 191 9) y6 hc0 u7) hc0 (by decide) rfl rfl hx hb hml hown hts hE hW hS q924 q495 q496 q35 q497 hy_X1_canRestock ⟨rfl, rfl⟩ ⟨Nat.le_of_ble_eq_true rfl, Nat.le_of_ble_eq_true rfl⟩ rfl rfl hl.1 (Nat.le_of_ble_eq_true rfl) ⟨Nat.zero_le _, Nat.zero_le _⟩ dX1_canObey_44 (fun H locs hW hS => ?_)
      obtain ⟨g8, hf⟩ := gd_e hf
      cases hf
      exact W.zret (ty := .boolean) hx hb hr (nar_bool g8).1 (fun u hu _ => ⟨⟨rfl, by rw [hu]; exact hW⟩, hS.F hu⟩) hS.2.2 dX1_canObey_47
  · have hf := ifp h1 hf
    refine lv_aload_n hx hb dX1_canObey_9 rfl (lv_at hl 0 rfl) ?_
    refine lv_aload_n hx hb dX1_canObey_10 rfl (lv_at hl 1 rfl) ?_
    refine getO hx hb hta hown hE.1 hW sh_191 5 (by decide) q238 rfl dX1_canObey_11 ?_
    refine lv_aload_n hx hb dX1_canObey_14 rfl (lv_at hl 1 rfl) ?_
    refine getO hx hb hta hown hE.1 hW sh_191 10 (by decide) q248 rfl dX1_canObey_15 ?_
    obtain ⟨y2, u3, hf⟩ := b1_e hf
    refine mV (k := c0) (q := (1, 0)) (C := RX1) (T := TX1) (N := 13) (ci := 1) (n := 2) (As := [.int (σ 191 5), .int (σ 191 10)]) (rest := []) (c_X1_canBuild l D t b c0 σ (σ 191 5) (σ 191 10) y2 hc0 u3) hc0 (by decide) rfl rfl hx hb hml hown hts hE hW hS q923 q401 q402 q35 q403 hy_X1_canBuild ⟨rfl, rfl⟩ ⟨Nat.le_of_ble_eq_true rfl, Nat.le_of_ble_eq_true rfl⟩ rfl rfl hl.1 (Nat.le_of_ble_eq_true rfl) ⟨Nat.zero_le _, Nat.zero_le _⟩ dX1_canObey_18 (fun H locs hW hS => ?_)
    obtain ⟨g4, hf⟩ := gd_e hf
    cases hf
    exact W.zret (ty := .boolean) hx hb hr (nar_bool g4).1 (fun u hu _ => ⟨⟨rfl, by rw [hu]; exact hW⟩, hS.F hu⟩) hS.2.2 dX1_canObey_21
def f_X1_obey (c0 : Nat) (σ : Sg) : Option (Int32 × Sg) := b1 (f_X1_canObey c0 σ) fun y1 => if y1 = 0 then (some (0, σ)) else (if (σ 191 4) = 98 then (b2 (f_X1_buildStall c0 σ (σ 191 5) (σ 191 6) (σ 191 9) (σ 191 10)) fun y5 σ7 => some (1, σ7)) else (if (σ 191 4) = 114 then (b1 (f_X1_putPrizes c0 σ (σ 191 5) (σ 191 7) (σ 191 8) (σ 191 9)) fun σ11 => some (1, σ11)) else (if (σ 191 4) = 102 then (b1 (f_X1_giveCoins c0 σ (σ 191 5) (σ 191 9)) fun σ15 => some (1, σ15)) else (if (σ 191 4) = 99 then (b2 (f_X1_letIn c0 σ (σ 191 9) (σ 191 6) (σ 191 8)) fun y17 σ19 => some (1, σ19)) else (if (σ 191 4) = 119 then (gd (σ 191 5) 10 (st (u2 σ (c0 + 1) ((σ 191 5)).toNatClampNeg (σ 191 9)) fun σ22 => some (1, σ22))) else (if (σ 191 4) = 112 then (b1 (f_X1_letPass c0 σ (σ 191 9)) fun σ27 => some (1, σ27)) else (some (1, σ))))))))
set_option maxHeartbeats 4000000 in
set_option maxRecDepth 100000 in
theorem c_X1_obey (l : Launch) (D : va_G) (t : Nat → ClassId) (b : Nat) (c0 : Nat) (σ : Sg) (r : Int32) (σr : Sg) (hc0 : sh c0 = (1, 0)) (hf : f_X1_obey c0 σ = some (r, σr)) : Met l yX1_obey (Cond.code yX1_obey cX1_obey 2 (some .boolean) :: ALL) ({ frames := 4, cells := 0, slots := 0, locals := 97 }) (PM D t b σ [.ref (b + c0), .ref (b + 191)]) (QG D t b σr (some (.int r))) 0 0 (geA b) := by
  refine Met.ofW (cc := cX1_obey) (maxL := 2) (ret := (some .boolean)) (by decide) rfl ?_
  intro p e s m args below meth c s₁ B hml hv
  obtain ⟨rfl, hW, hE⟩ := hv
  have hx := B.exec
  have hb := B.bytes
  have hr := B.returns
  have hts := atoms_spec (ws := Cond.code yX1_obey cX1_obey 2 (some .boolean) :: ALL) B.pre
  have hta := fun w h => hts w (List.mem_cons_of_mem _ h)
  have hown : s.vm.findClass RX1 = some m.cls := findClass_of_methodNamed B.named
  have hlocks := B.notSynchronized
  have hS : va_S (geA b) s.heap s.heap [] := va_S.rf
  have hl := lv_entry ([.ref (b + c0), .ref (b + 191)]) (n := 2) (Nat.le_of_ble_eq_true rfl)
  rw [lg_entry_eq]
  generalize (lg_sl ([.ref (b + c0), .ref (b + 191)]) ++ List.replicate (2 - (lg_sl ([.ref (b + c0), .ref (b + 191)])).length) Slot.unset).toArray = ls at hl ⊢
  have hl : lv_has ls 2 [(0, .ref (b + c0)), (1, .ref (b + 191))] := hl
  unfold f_X1_obey at hf
  refine lv_aload_n hx hb dX1_obey_0 rfl (lv_at hl 0 rfl) ?_
  refine lv_aload_n hx hb dX1_obey_1 rfl (lv_at hl 1 rfl) ?_
  obtain ⟨y1, u2, hf⟩ := b1_e hf
  refine mV (k := c0) (q := (1, 0)) (C := RX1) (T := TX1) (N := 13) (ci := 1) (n := 1) (As := [.ref (b + 191)]) (rest := []) (c_X1_canObey l D t b c0 σ y1 hc0 u2) hc0 (by decide) rfl rfl hx hb hml hown hts hE hW hS q919 q921 q32 q35 q922 hy_X1_canObey ⟨rfl, rfl⟩ ⟨Nat.le_of_ble_eq_true rfl, Nat.le_of_ble_eq_true rfl⟩ rfl rfl hl.1 (Nat.le_of_ble_eq_true rfl) ⟨Nat.zero_le _, Nat.zero_le _⟩ dX1_obey_2 (fun H locs hW hS => ?_)
  refine lv_if_ne (tgt := 10) hx hb dX1_obey_5 (by decide) (fun h3 => ?_) (fun h3 => ?_)
  · have hf := ifn h3 hf
    refine lv_aload_n hx hb dX1_obey_10 rfl (lv_at hl 1 rfl) ?_
    refine getO hx hb hta hown hE.1 hW sh_191 4 (by decide) q236 rfl dX1_obey_11 ?_
    refine lv_bipush (v := 98) hx hb dX1_obey_14 (by decide) ?_
    refine lv_icmp_ne (tgt := 43) hx hb dX1_obey_16 (by decide) (fun h4 => ?_) (fun h4 => ?_)
    · have hf := ifn h4 hf
      refine lv_aload_n hx hb dX1_obey_43 rfl (lv_at hl 1 rfl) ?_
      refine getO hx hb hta hown hE.1 hW sh_191 4 (by decide) q236 rfl dX1_obey_44 ?_
      refine lv_bipush (v := 114) hx hb dX1_obey_47 (by decide) ?_
      refine lv_icmp_ne (tgt := 75) hx hb dX1_obey_49 (by decide) (fun h8 => ?_) (fun h8 => ?_)
      · have hf := ifn h8 hf
        refine lv_aload_n hx hb dX1_obey_75 rfl (lv_at hl 1 rfl) ?_
        refine getO hx hb hta hown hE.1 hW sh_191 4 (by decide) q236 rfl dX1_obey_76 ?_
        refine lv_bipush (v := 102) hx hb dX1_obey_79 (by decide) ?_
        refine lv_icmp_ne (tgt := 99) hx hb dX1_obey_81 (by decide) (fun h12 => ?_) (fun h12 => ?_)
        · have hf := ifn h12 hf
          refine lv_aload_n hx hb dX1_obey_99 rfl (lv_at hl 1 rfl) ?_
          refine getO hx hb hta hown hE.1 hW sh_191 4 (by decide) q236 rfl dX1_obey_100 ?_
          refine lv_bipush (v := 99) hx hb dX1_obey_103 (by decide) ?_
          refine lv_icmp_ne (tgt := 128) hx hb dX1_obey_105 (by decide) (fun h16 => ?_) (fun h16 => ?_)
          · have hf := ifn h16 hf
            refine lv_aload_n hx hb dX1_obey_128 rfl (lv_at hl 1 rfl) ?_
            refine getO hx hb hta hown hE.1 hW sh_191 4 (by decide) q236 rfl dX1_obey_129 ?_
            refine lv_bipush (v := 119) hx hb dX1_obey_132 (by decide) ?_
            refine lv_icmp_ne (tgt := 153) hx hb dX1_obey_134 (by decide) (fun h20 => ?_) (fun h20 => ?_)
            · have hf := ifn h20 hf
              refine lv_aload_n hx hb dX1_obey_153 rfl (lv_at hl 1 rfl) ?_
              refine getO hx hb hta hown hE.1 hW sh_191 4 (by decide) q236 rfl dX1_obey_154 ?_
              refine lv_bipush (v := 112) hx hb dX1_obey_157 (by decide) ?_
              refine lv_icmp_ne (tgt := 170) hx hb dX1_obey_159 (by decide) (fun h24 => ?_) (fun h24 => ?_)
              · have hf := ifn h24 hf
                refine lv_iconst (v := 1) hx hb dX1_obey_170 (by decide) ?_
                cases hf
                exact W.zret (ty := .boolean) hx hb hr (by decide) (fun u hu _ => ⟨⟨rfl, by rw [hu]; exact hW⟩, hS.F hu⟩) hS.2.2 dX1_obey_171
              · have hf := ifp h24 hf
                refine lv_aload_n hx hb dX1_obey_162 rfl (lv_at hl 0 rfl) ?_
                refine lv_aload_n hx hb dX1_obey_163 rfl (lv_at hl 1 rfl) ?_
                refine getO hx hb hta hown hE.1 hW sh_191 9 (by decide) q246 rfl dX1_obey_164 ?_
                obtain ⟨σ27, u26, hf⟩ := b1_e hf
                refine mV (k := c0) (q := (1, 0)) (C := RX1) (T := TX1) (N := 13) (ci := 1) (n := 1) (As := [.int (σ 191 9)]) (rest := []) (c_X1_letPass l D t b c0 σ (σ 191 9) σ27 hc0 u26) hc0 (by decide) rfl rfl hx hb hml hown hts hE hW hS q930 q627 q628 q35 q629 hy_X1_letPass ⟨rfl, rfl⟩ ⟨Nat.le_of_ble_eq_true rfl, Nat.le_of_ble_eq_true rfl⟩ rfl rfl hl.1 (Nat.le_of_ble_eq_true rfl) ⟨Nat.zero_le _, Nat.zero_le _⟩ dX1_obey_167 (fun H locs hW hS => ?_)
                refine lv_iconst (v := 1) hx hb dX1_obey_170 (by decide) ?_
                cases hf
                exact W.zret (ty := .boolean) hx hb hr (by decide) (fun u hu _ => ⟨⟨rfl, by rw [hu]; exact hW⟩, hS.F hu⟩) hS.2.2 dX1_obey_171
            · have hf := ifp h20 hf
              refine lv_aload_n hx hb dX1_obey_137 rfl (lv_at hl 0 rfl) ?_
              refine getF hx hb hta hown hE.1 hW hc0 8 (by decide) q186 rfl dX1_obey_138 ?_
              refine lv_aload_n hx hb dX1_obey_141 rfl (lv_at hl 1 rfl) ?_
              refine getO hx hb hta hown hE.1 hW sh_191 5 (by decide) q238 rfl dX1_obey_142 ?_
              refine lv_aload_n hx hb dX1_obey_145 rfl (lv_at hl 1 rfl) ?_
              refine getO hx hb hta hown hE.1 hW sh_191 9 (by decide) q246 rfl dX1_obey_146 ?_
              obtain ⟨g21, hf⟩ := gd_e hf
              refine iast (k := (c0 + 1)) (i := (σ 191 5)) (x := (σ 191 9)) hx hb hE.1 hW hS (shF_1 hc0) g21 dX1_obey_149 (fun H locs hW hS => ?_)
              obtain ⟨σ22, e23, hf⟩ := st_e hf
              rw [e23] at hW
              refine lv_goto (tgt := 170) hx hb dX1_obey_150 (by decide) ?_
              refine lv_iconst (v := 1) hx hb dX1_obey_170 (by decide) ?_
              cases hf
              exact W.zret (ty := .boolean) hx hb hr (by decide) (fun u hu _ => ⟨⟨rfl, by rw [hu]; exact hW⟩, hS.F hu⟩) hS.2.2 dX1_obey_171
          · have hf := ifp h16 hf
            refine lv_aload_n hx hb dX1_obey_108 rfl (lv_at hl 0 rfl) ?_
            refine lv_aload_n hx hb dX1_obey_109 rfl (lv_at hl 1 rfl) ?_
            refine getO hx hb hta hown hE.1 hW sh_191 9 (by decide) q246 rfl dX1_obey_110 ?_
            refine lv_aload_n hx hb dX1_obey_113 rfl (lv_at hl 1 rfl) ?_
            refine getO hx hb hta hown hE.1 hW sh_191 6 (by decide) q240 rfl dX1_obey_114 ?_
            refine lv_aload_n hx hb dX1_obey_117 rfl (lv_at hl 1 rfl) ?_
            refine getO hx hb hta hown hE.1 hW sh_191 8 (by decide) q244 rfl dX1_obey_118 ?_
            obtain ⟨y17, σ19, u18, hf⟩ := b2_e hf
            refine mV (k := c0) (q := (1, 0)) (C := RX1) (T := TX1) (N := 13) (ci := 1) (n := 3) (As := [.int (σ 191 9), .int (σ 191 6), .int (σ 191 8)]) (rest := []) (c_X1_letIn l D t b c0 σ (σ 191 9) (σ 191 6) (σ 191 8) y17 σ19 hc0 u18) hc0 (by decide) rfl rfl hx hb hml hown hts hE hW hS q646 q540 q541 q35 q542 hy_X1_letIn ⟨rfl, rfl⟩ ⟨Nat.le_of_ble_eq_true rfl, Nat.le_of_ble_eq_true rfl⟩ rfl rfl hl.1 (Nat.le_of_ble_eq_true rfl) ⟨Nat.zero_le _, Nat.zero_le _⟩ dX1_obey_121 (fun H locs hW hS => ?_)
            refine lv_pop hx hb dX1_obey_124 rfl ?_
            refine lv_goto (tgt := 170) hx hb dX1_obey_125 (by decide) ?_
            refine lv_iconst (v := 1) hx hb dX1_obey_170 (by decide) ?_
            cases hf
            exact W.zret (ty := .boolean) hx hb hr (by decide) (fun u hu _ => ⟨⟨rfl, by rw [hu]; exact hW⟩, hS.F hu⟩) hS.2.2 dX1_obey_171
        · have hf := ifp h12 hf
          refine lv_aload_n hx hb dX1_obey_84 rfl (lv_at hl 0 rfl) ?_
          refine lv_aload_n hx hb dX1_obey_85 rfl (lv_at hl 1 rfl) ?_
          refine getO hx hb hta hown hE.1 hW sh_191 5 (by decide) q238 rfl dX1_obey_86 ?_
          refine lv_aload_n hx hb dX1_obey_89 rfl (lv_at hl 1 rfl) ?_
          refine getO hx hb hta hown hE.1 hW sh_191 9 (by decide) q246 rfl dX1_obey_90 ?_
          obtain ⟨σ15, u14, hf⟩ := b1_e hf
          refine mV (k := c0) (q := (1, 0)) (C := RX1) (T := TX1) (N := 13) (ci := 1) (n := 2) (As := [.int (σ 191 5), .int (σ 191 9)]) (rest := []) (c_X1_giveCoins l D t b c0 σ (σ 191 5) (σ 191 9) σ15 hc0 u14) hc0 (by decide) rfl rfl hx hb hml hown hts hE hW hS q929 q522 q523 q35 q524 hy_X1_giveCoins ⟨rfl, rfl⟩ ⟨Nat.le_of_ble_eq_true rfl, Nat.le_of_ble_eq_true rfl⟩ rfl rfl hl.1 (Nat.le_of_ble_eq_true rfl) ⟨Nat.zero_le _, Nat.zero_le _⟩ dX1_obey_93 (fun H locs hW hS => ?_)
          refine lv_goto (tgt := 170) hx hb dX1_obey_96 (by decide) ?_
          refine lv_iconst (v := 1) hx hb dX1_obey_170 (by decide) ?_
          cases hf
          exact W.zret (ty := .boolean) hx hb hr (by decide) (fun u hu _ => ⟨⟨rfl, by rw [hu]; exact hW⟩, hS.F hu⟩) hS.2.2 dX1_obey_171
      · have hf := ifp h8 hf
        refine lv_aload_n hx hb dX1_obey_52 rfl (lv_at hl 0 rfl) ?_
        refine lv_aload_n hx hb dX1_obey_53 rfl (lv_at hl 1 rfl) ?_
        refine getO hx hb hta hown hE.1 hW sh_191 5 (by decide) q238 rfl dX1_obey_54 ?_
        refine lv_aload_n hx hb dX1_obey_57 rfl (lv_at hl 1 rfl) ?_
        refine getO hx hb hta hown hE.1 hW sh_191 7 (by decide) q242 rfl dX1_obey_58 ?_
        refine lv_aload_n hx hb dX1_obey_61 rfl (lv_at hl 1 rfl) ?_
        refine getO hx hb hta hown hE.1 hW sh_191 8 (by decide) q244 rfl dX1_obey_62 ?_
        refine lv_aload_n hx hb dX1_obey_65 rfl (lv_at hl 1 rfl) ?_
        refine getO hx hb hta hown hE.1 hW sh_191 9 (by decide) q246 rfl dX1_obey_66 ?_
        obtain ⟨σ11, u10, hf⟩ := b1_e hf
        refine mV (k := c0) (q := (1, 0)) (C := RX1) (T := TX1) (N := 13) (ci := 1) (n := 4) (As := [.int (σ 191 5), .int (σ 191 7), .int (σ 191 8), .int (σ 191 9)]) (rest := []) (c_X1_putPrizes l D t b c0 σ (σ 191 5) (σ 191 7) (σ 191 8) (σ 191 9) σ11 hc0 u10) hc0 (by decide) rfl rfl hx hb hml hown hts hE hW hS q928 q508 q509 q35 q510 hy_X1_putPrizes ⟨rfl, rfl⟩ ⟨Nat.le_of_ble_eq_true rfl, Nat.le_of_ble_eq_true rfl⟩ rfl rfl hl.1 (Nat.le_of_ble_eq_true rfl) ⟨Nat.zero_le _, Nat.zero_le _⟩ dX1_obey_69 (fun H locs hW hS => ?_)
        refine lv_goto (tgt := 170) hx hb dX1_obey_72 (by decide) ?_
        refine lv_iconst (v := 1) hx hb dX1_obey_170 (by decide) ?_
        cases hf
        exact W.zret (ty := .boolean) hx hb hr (by decide) (fun u hu _ => ⟨⟨rfl, by rw [hu]; exact hW⟩, hS.F hu⟩) hS.2.2 dX1_obey_171
    · have hf := ifp h4 hf
      refine lv_aload_n hx hb dX1_obey_19 rfl (lv_at hl 0 rfl) ?_
      refine lv_aload_n hx hb dX1_obey_20 rfl (lv_at hl 1 rfl) ?_
      refine getO hx hb hta hown hE.1 hW sh_191 5 (by decide) q238 rfl dX1_obey_21 ?_
      refine lv_aload_n hx hb dX1_obey_24 rfl (lv_at hl 1 rfl) ?_
      refine getO hx hb hta hown hE.1 hW sh_191 6 (by decide) q240 rfl dX1_obey_25 ?_
      refine lv_aload_n hx hb dX1_obey_28 rfl (lv_at hl 1 rfl) ?_
      refine getO hx hb hta hown hE.1 hW sh_191 9 (by decide) q246 rfl dX1_obey_29 ?_
      refine lv_aload_n hx hb dX1_obey_32 rfl (lv_at hl 1 rfl) ?_
      refine getO hx hb hta hown hE.1 hW sh_191 10 (by decide) q248 rfl dX1_obey_33 ?_
      obtain ⟨y5, σ7, u6, hf⟩ := b2_e hf
      refine mV (k := c0) (q := (1, 0)) (C := RX1) (T := TX1) (N := 13) (ci := 1) (n := 4) (As := [.int (σ 191 5), .int (σ 191 6), .int (σ 191 9), .int (σ 191 10)]) (rest := []) (c_X1_buildStall l D t b c0 σ (σ 191 5) (σ 191 6) (σ 191 9) (σ 191 10) y5 σ7 hc0 u6) hc0 (by decide) rfl rfl hx hb hml hown hts hE hW hS q927 q449 q450 q35 q451 hy_X1_buildStall ⟨rfl, rfl⟩ ⟨Nat.le_of_ble_eq_true rfl, Nat.le_of_ble_eq_true rfl⟩ rfl rfl hl.1 (Nat.le_of_ble_eq_true rfl) ⟨Nat.zero_le _, Nat.zero_le _⟩ dX1_obey_36 (fun H locs hW hS => ?_)
      refine lv_pop hx hb dX1_obey_39 rfl ?_
      refine lv_goto (tgt := 170) hx hb dX1_obey_40 (by decide) ?_
      refine lv_iconst (v := 1) hx hb dX1_obey_170 (by decide) ?_
      cases hf
      exact W.zret (ty := .boolean) hx hb hr (by decide) (fun u hu _ => ⟨⟨rfl, by rw [hu]; exact hW⟩, hS.F hu⟩) hS.2.2 dX1_obey_171
  · have hf := ifp h3 hf
    refine lv_iconst (v := 0) hx hb dX1_obey_8 (by decide) ?_
    cases hf
    exact W.zret (ty := .boolean) hx hb hr (by decide) (fun u hu _ => ⟨⟨rfl, by rw [hu]; exact hW⟩, hS.F hu⟩) hS.2.2 dX1_obey_9
def l_X4_tryOrders_20 : Nat → Sg → Int32 → Option (Int32 × Sg)
  | 0, _, _ => none
  | n + 1, τ, x1 => if 80 ≤ x1 then (some ((-1), τ)) else (b2 (f_X2_readNext τ) fun y8 σ10 => if y8 = 0 then (some ((-1), σ10)) else (b2 (f_X1_obey 28 σ10) fun y12 σ14 => if y12 = 0 then (some (x1, σ14)) else (l_X4_tryOrders_20 n σ14 (x1 + 1))))
def f_X4_tryOrders (σ : Sg) : Option (Int32 × Sg) := b1 (f_X1_copyFrom 28 1 σ) fun σ3 => b1 (f_X2_rewind σ3) fun σ6 => l_X4_tryOrders_20 10000 σ6 0
set_option maxHeartbeats 4000000 in
set_option maxRecDepth 100000 in
theorem c_X4_tryOrders (l : Launch) (D : va_G) (t : Nat → ClassId) (b : Nat) (σ : Sg) (r : Int32) (σr : Sg) (hf : f_X4_tryOrders σ = some (r, σr)) : Met l yX4_tryOrders (Cond.code yX4_tryOrders cX4_tryOrders 2 (some .int) :: ALL) ({ frames := 5, cells := 0, slots := 0, locals := 118 }) (PM D t b σ [.ref (b + 0)]) (QG D t b σr (some (.int r))) 0 0 (geA b) := by
  refine Met.ofW (cc := cX4_tryOrders) (maxL := 2) (ret := (some .int)) (by decide) rfl ?_
  intro p e s m args below meth c s₁ B hml hv
  obtain ⟨rfl, hW, hE⟩ := hv
  have hx := B.exec
  have hb := B.bytes
  have hr := B.returns
  have hts := atoms_spec (ws := Cond.code yX4_tryOrders cX4_tryOrders 2 (some .int) :: ALL) B.pre
  have hta := fun w h => hts w (List.mem_cons_of_mem _ h)
  have hown : s.vm.findClass RX4 = some m.cls := findClass_of_methodNamed B.named
  have hlocks := B.notSynchronized
  have hS : va_S (geA b) s.heap s.heap [] := va_S.rf
  have hl := lv_entry ([.ref (b + 0)]) (n := 2) (Nat.le_of_ble_eq_true rfl)
  rw [lg_entry_eq]
  generalize (lg_sl ([.ref (b + 0)]) ++ List.replicate (2 - (lg_sl ([.ref (b + 0)])).length) Slot.unset).toArray = ls at hl ⊢
  have hl : lv_has ls 2 [(0, .ref (b + 0))] := hl
  unfold f_X4_tryOrders at hf
  refine lv_aload_n hx hb dX4_tryOrders_0 rfl (lv_at hl 0 rfl) ?_
  refine getP hx hb hta hown hE.1 hW 1 (by decide) q275 rfl dX4_tryOrders_1 ?_
  refine lv_aload_n hx hb dX4_tryOrders_4 rfl (lv_at hl 0 rfl) ?_
  refine getP hx hb hta hown hE.1 hW 0 (by decide) q274 rfl dX4_tryOrders_5 ?_
  obtain ⟨σ3, u2, hf⟩ := b1_e hf
  refine mV (k := 28) (q := (1, 0)) (C := RX1) (T := TX1) (N := 13) (ci := 1) (n := 1) (As := [.ref (b + 1)]) (rest := []) (c_X1_copyFrom l D t b 28 1 σ σ3 sh_28 sh_1 u2) sh_28 (by decide) rfl rfl hx hb hml hown hts hE hW hS q431 q432 q433 q35 q434 hy_X1_copyFrom ⟨rfl, rfl⟩ ⟨Nat.le_of_ble_eq_true rfl, Nat.le_of_ble_eq_true rfl⟩ rfl rfl hl.1 (Nat.le_of_ble_eq_true rfl) ⟨Nat.zero_le _, Nat.zero_le _⟩ dX4_tryOrders_8 (fun H locs hW hS => ?_)
  refine lv_aload_n hx hb dX4_tryOrders_11 rfl (lv_at hl 0 rfl) ?_
  refine getP hx hb hta hown hE.1 hW 7 (by decide) q281 rfl dX4_tryOrders_12 ?_
  obtain ⟨σ6, u5, hf⟩ := b1_e hf
  refine mV (k := 191) (q := (4, 0)) (C := RX2) (T := TX2) (N := 11) (ci := 2) (n := 0) (As := []) (rest := []) (c_X2_rewind l D t b σ3 σ6 u5) sh_191 (by decide) rfl rfl hx hb hml hown hts hE hW hS q913 q857 q858 q38 q859 hy_X2_rewind ⟨rfl, rfl⟩ ⟨Nat.le_of_ble_eq_true rfl, Nat.le_of_ble_eq_true rfl⟩ rfl rfl hl.1 (Nat.le_of_ble_eq_true rfl) ⟨Nat.zero_le _, Nat.zero_le _⟩ dX4_tryOrders_15 (fun H locs hW hS => ?_)
  refine lv_iconst (v := 0) hx hb dX4_tryOrders_18 (by decide) ?_
  refine lv_istore_n (lv' := [(1, .int 0), (0, .ref (b + 0))]) hx hb dX4_tryOrders_19 rfl hl (by decide) rfl (fun ls hl => ?_)
  have key_20 : ∀ (n : Nat) (τ : Sg) (x1 : Int32) (H : Heap) (locs : List Loc) (ls : Array Slot), l_X4_tryOrders_20 n τ x1 = some (r, σr) → wd D t b τ H → va_S (geA b) s.heap H locs → lv_has ls 2 [(0, .ref (b + 0)), (1, .int x1)] → W p l e (headSpec (Cond.code yX4_tryOrders cX4_tryOrders 2 (some .int) :: ALL) ({ frames := 5, cells := 0, slots := 0, locals := 118 })).room s m (([.ref (b + 0)] : List Value).toArray) below meth c H locs 0 0 (MQ below (QG D t b σr (some (.int r))) (([.ref (b + 0)] : List Value).toArray) s 0 0 (geA b)) (F0 m 20 ls []) := by
    intro n
    induction n with
    | zero =>
      intro τ x1 H locs ls hf
      rw [l_X4_tryOrders_20.eq_1] at hf
      cases hf
    | succ n ih_20 =>
      intro τ x1 H locs ls hf hW hS hl
      rw [l_X4_tryOrders_20.eq_2] at hf
      refine lv_iload_n hx hb dX4_tryOrders_20 rfl (lv_at hl 1 rfl) ?_
      refine lv_bipush (v := 80) hx hb dX4_tryOrders_21 (by decide) ?_
      refine lv_icmp_ge (tgt := 58) hx hb dX4_tryOrders_23 (by decide) (fun h7 => ?_) (fun h7 => ?_)
      · have hf := ifp h7 hf
        refine lv_iconst (v := (-1)) hx hb dX4_tryOrders_58 (by decide) ?_
        cases hf
        exact W.iret hx hb hr (fun u hu _ => ⟨⟨rfl, by rw [hu]; exact hW⟩, hS.F hu⟩) hS.2.2 dX4_tryOrders_59
      · have hf := ifn h7 hf
        refine lv_aload_n hx hb dX4_tryOrders_26 rfl (lv_at hl 0 rfl) ?_
        refine getP hx hb hta hown hE.1 hW 7 (by decide) q281 rfl dX4_tryOrders_27 ?_
        obtain ⟨y8, σ10, u9, hf⟩ := b2_e hf
        refine mV (k := 191) (q := (4, 0)) (C := RX2) (T := TX2) (N := 11) (ci := 2) (n := 0) (As := []) (rest := []) (c_X2_readNext l D t b τ y8 σ10 u9) sh_191 (by decide) rfl rfl hx hb hml hown hts hE hW hS q914 q861 q862 q38 q863 hy_X2_readNext ⟨rfl, rfl⟩ ⟨Nat.le_of_ble_eq_true rfl, Nat.le_of_ble_eq_true rfl⟩ rfl rfl hl.1 (Nat.le_of_ble_eq_true rfl) ⟨Nat.zero_le _, Nat.zero_le _⟩ dX4_tryOrders_30 (fun H locs hW hS => ?_)
        refine lv_if_eq (tgt := 58) hx hb dX4_tryOrders_33 (by decide) (fun h11 => ?_) (fun h11 => ?_)
        · have hf := ifp h11 hf
          refine lv_iconst (v := (-1)) hx hb dX4_tryOrders_58 (by decide) ?_
          cases hf
          exact W.iret hx hb hr (fun u hu _ => ⟨⟨rfl, by rw [hu]; exact hW⟩, hS.F hu⟩) hS.2.2 dX4_tryOrders_59
        · have hf := ifn h11 hf
          refine lv_aload_n hx hb dX4_tryOrders_36 rfl (lv_at hl 0 rfl) ?_
          refine getP hx hb hta hown hE.1 hW 1 (by decide) q275 rfl dX4_tryOrders_37 ?_
          refine lv_aload_n hx hb dX4_tryOrders_40 rfl (lv_at hl 0 rfl) ?_
          refine getP hx hb hta hown hE.1 hW 7 (by decide) q281 rfl dX4_tryOrders_41 ?_
          obtain ⟨y12, σ14, u13, hf⟩ := b2_e hf
          refine mV (k := 28) (q := (1, 0)) (C := RX1) (T := TX1) (N := 13) (ci := 1) (n := 1) (As := [.ref (b + 191)]) (rest := []) (c_X1_obey l D t b 28 σ10 y12 σ14 sh_28 u13) sh_28 (by decide) rfl rfl hx hb hml hown hts hE hW hS q915 q916 q917 q35 q918 hy_X1_obey ⟨rfl, rfl⟩ ⟨Nat.le_of_ble_eq_true rfl, Nat.le_of_ble_eq_true rfl⟩ rfl rfl hl.1 (Nat.le_of_ble_eq_true rfl) ⟨Nat.zero_le _, Nat.zero_le _⟩ dX4_tryOrders_44 (fun H locs hW hS => ?_)
          refine lv_if_ne (tgt := 52) hx hb dX4_tryOrders_47 (by decide) (fun h15 => ?_) (fun h15 => ?_)
          · have hf := ifn h15 hf
            refine lv_iinc (v := (x1 + 1)) (lv' := [(1, .int (x1 + 1)), (0, .ref (b + 0))]) hx hb dX4_tryOrders_52 hl (k := 1) rfl (by rfl) (by decide) rfl (fun ls hl => ?_)
            refine lv_goto (tgt := 20) hx hb dX4_tryOrders_55 (by decide) ?_
            exact ih_20 σ14 (x1 + 1) _ _ _ hf hW hS (lv_sub hl [1, 0] rfl)
          · have hf := ifp h15 hf
            refine lv_iload_n hx hb dX4_tryOrders_50 rfl (lv_at hl 1 rfl) ?_
            cases hf
            exact W.iret hx hb hr (fun u hu _ => ⟨⟨rfl, by rw [hu]; exact hW⟩, hS.F hu⟩) hS.2.2 dX4_tryOrders_51
  exact key_20 10000 σ6 0 _ _ _ hf hW hS (lv_sub hl [1, 0] rfl)
def f_X4_takeSnapshot (σ : Sg) : Option (Int32 × Sg) := b1 (f_X1_copyFrom 55 1 σ) fun σ3 => st (u2 σ3 0 3 1) fun σ4 => some ((σ4 1 0), σ4)
set_option maxHeartbeats 4000000 in
set_option maxRecDepth 100000 in
theorem c_X4_takeSnapshot (l : Launch) (D : va_G) (t : Nat → ClassId) (b : Nat) (σ : Sg) (r : Int32) (σr : Sg) (hf : f_X4_takeSnapshot σ = some (r, σr)) : Met l yX4_takeSnapshot (Cond.code yX4_takeSnapshot cX4_takeSnapshot 1 (some .int) :: ALL) ({ frames := 3, cells := 0, slots := 0, locals := 103 }) (PM D t b σ [.ref (b + 0)]) (QG D t b σr (some (.int r))) 0 0 (geA b) := by
  refine Met.ofW (cc := cX4_takeSnapshot) (maxL := 1) (ret := (some .int)) (by decide) rfl ?_
  intro p e s m args below meth c s₁ B hml hv
  obtain ⟨rfl, hW, hE⟩ := hv
  have hx := B.exec
  have hb := B.bytes
  have hr := B.returns
  have hts := atoms_spec (ws := Cond.code yX4_takeSnapshot cX4_takeSnapshot 1 (some .int) :: ALL) B.pre
  have hta := fun w h => hts w (List.mem_cons_of_mem _ h)
  have hown : s.vm.findClass RX4 = some m.cls := findClass_of_methodNamed B.named
  have hlocks := B.notSynchronized
  have hS : va_S (geA b) s.heap s.heap [] := va_S.rf
  have hl := lv_entry ([.ref (b + 0)]) (n := 1) (Nat.le_of_ble_eq_true rfl)
  rw [lg_entry_eq]
  generalize (lg_sl ([.ref (b + 0)]) ++ List.replicate (1 - (lg_sl ([.ref (b + 0)])).length) Slot.unset).toArray = ls at hl ⊢
  have hl : lv_has ls 1 [(0, .ref (b + 0))] := hl
  unfold f_X4_takeSnapshot at hf
  refine lv_aload_n hx hb dX4_takeSnapshot_0 rfl (lv_at hl 0 rfl) ?_
  refine getP hx hb hta hown hE.1 hW 2 (by decide) q276 rfl dX4_takeSnapshot_1 ?_
  refine lv_aload_n hx hb dX4_takeSnapshot_4 rfl (lv_at hl 0 rfl) ?_
  refine getP hx hb hta hown hE.1 hW 0 (by decide) q274 rfl dX4_takeSnapshot_5 ?_
  obtain ⟨σ3, u2, hf⟩ := b1_e hf
  refine mV (k := 55) (q := (1, 0)) (C := RX1) (T := TX1) (N := 13) (ci := 1) (n := 1) (As := [.ref (b + 1)]) (rest := []) (c_X1_copyFrom l D t b 55 1 σ σ3 sh_55 sh_1 u2) sh_55 (by decide) rfl rfl hx hb hml hown hts hE hW hS q431 q432 q433 q35 q434 hy_X1_copyFrom ⟨rfl, rfl⟩ ⟨Nat.le_of_ble_eq_true rfl, Nat.le_of_ble_eq_true rfl⟩ rfl rfl hl.1 (Nat.le_of_ble_eq_true rfl) ⟨Nat.zero_le _, Nat.zero_le _⟩ dX4_takeSnapshot_8 (fun H locs hW hS => ?_)
  refine lv_aload_n hx hb dX4_takeSnapshot_11 rfl (lv_at hl 0 rfl) ?_
  refine lv_iconst (v := 1) hx hb dX4_takeSnapshot_12 (by decide) ?_
  refine putX (k := 0) (q := (0, 0)) (ci := 4) (x := 1) inA4 tyX4_ok nmX4 rfl (by decide) rfl hx hb hta hown hE.1 hW hS sh_0 3 (by decide) q277 rfl (by decide) (by decide) (Nat.le_of_ble_eq_true rfl) rfl dX4_takeSnapshot_13 (fun H locs hW hS => ?_)
  obtain ⟨σ4, e5, hf⟩ := st_e hf
  rw [e5] at hW
  refine lv_aload_n hx hb dX4_takeSnapshot_16 rfl (lv_at hl 0 rfl) ?_
  refine getP hx hb hta hown hE.1 hW 0 (by decide) q274 rfl dX4_takeSnapshot_17 ?_
  refine getF hx hb hta hown hE.1 hW sh_1 0 (by decide) q171 rfl dX4_takeSnapshot_20 ?_
  cases hf
  exact W.iret hx hb hr (fun u hu _ => ⟨⟨rfl, by rw [hu]; exact hW⟩, hS.F hu⟩) hS.2.2 dX4_takeSnapshot_23
def f_X4_stalls (σ : Sg) : Option Int32 := some (σ 1 10)
set_option maxHeartbeats 4000000 in
set_option maxRecDepth 100000 in
theorem c_X4_stalls (l : Launch) (D : va_G) (t : Nat → ClassId) (b : Nat) (σ : Sg) (r : Int32) (hf : f_X4_stalls σ = some r) : Met l yX4_stalls (Cond.code yX4_stalls cX4_stalls 1 (some .int) :: ALL) ({ frames := 0, cells := 0, slots := 0, locals := 0 }) (PM D t b σ [.ref (b + 0)]) (QG D t b σ (some (.int r))) 0 0 (geA b) := by
  refine Met.ofW (cc := cX4_stalls) (maxL := 1) (ret := (some .int)) (by decide) rfl ?_
  intro p e s m args below meth c s₁ B hml hv
  obtain ⟨rfl, hW, hE⟩ := hv
  have hx := B.exec
  have hb := B.bytes
  have hr := B.returns
  have hts := atoms_spec (ws := Cond.code yX4_stalls cX4_stalls 1 (some .int) :: ALL) B.pre
  have hta := fun w h => hts w (List.mem_cons_of_mem _ h)
  have hown : s.vm.findClass RX4 = some m.cls := findClass_of_methodNamed B.named
  have hlocks := B.notSynchronized
  have hS : va_S (geA b) s.heap s.heap [] := va_S.rf
  have hl := lv_entry ([.ref (b + 0)]) (n := 1) (Nat.le_of_ble_eq_true rfl)
  rw [lg_entry_eq]
  generalize (lg_sl ([.ref (b + 0)]) ++ List.replicate (1 - (lg_sl ([.ref (b + 0)])).length) Slot.unset).toArray = ls at hl ⊢
  have hl : lv_has ls 1 [(0, .ref (b + 0))] := hl
  unfold f_X4_stalls at hf
  refine lv_aload_n hx hb dX4_stalls_0 rfl (lv_at hl 0 rfl) ?_
  refine getP hx hb hta hown hE.1 hW 0 (by decide) q274 rfl dX4_stalls_1 ?_
  refine getF hx hb hta hown hE.1 hW sh_1 10 (by decide) q191 rfl dX4_stalls_4 ?_
  cases hf
  exact W.iret hx hb hr (fun u hu _ => ⟨⟨rfl, by rw [hu]; exact hW⟩, hS.F hu⟩) hS.2.2 dX4_stalls_7
def f_X4_children (σ : Sg) : Option Int32 := some (σ (1 + 4) 0)
set_option maxHeartbeats 4000000 in
set_option maxRecDepth 100000 in
theorem c_X4_children (l : Launch) (D : va_G) (t : Nat → ClassId) (b : Nat) (σ : Sg) (r : Int32) (hf : f_X4_children σ = some r) : Met l yX4_children (Cond.code yX4_children cX4_children 1 (some .int) :: ALL) ({ frames := 0, cells := 0, slots := 0, locals := 0 }) (PM D t b σ [.ref (b + 0)]) (QG D t b σ (some (.int r))) 0 0 (geA b) := by
  refine Met.ofW (cc := cX4_children) (maxL := 1) (ret := (some .int)) (by decide) rfl ?_
  intro p e s m args below meth c s₁ B hml hv
  obtain ⟨rfl, hW, hE⟩ := hv
  have hx := B.exec
  have hb := B.bytes
  have hr := B.returns
  have hts := atoms_spec (ws := Cond.code yX4_children cX4_children 1 (some .int) :: ALL) B.pre
  have hta := fun w h => hts w (List.mem_cons_of_mem _ h)
  have hown : s.vm.findClass RX4 = some m.cls := findClass_of_methodNamed B.named
  have hlocks := B.notSynchronized
  have hS : va_S (geA b) s.heap s.heap [] := va_S.rf
  have hl := lv_entry ([.ref (b + 0)]) (n := 1) (Nat.le_of_ble_eq_true rfl)
  rw [lg_entry_eq]
  generalize (lg_sl ([.ref (b + 0)]) ++ List.replicate (1 - (lg_sl ([.ref (b + 0)])).length) Slot.unset).toArray = ls at hl ⊢
  have hl : lv_has ls 1 [(0, .ref (b + 0))] := hl
  unfold f_X4_children at hf
  refine lv_aload_n hx hb dX4_children_0 rfl (lv_at hl 0 rfl) ?_
  refine getP hx hb hta hown hE.1 hW 0 (by decide) q274 rfl dX4_children_1 ?_
  refine getF hx hb hta hown hE.1 hW sh_1 12 (by decide) q195 rfl dX4_children_4 ?_
  refine getC hx hb hta hown hE.1 hW (shF_4 sh_1) 0 (by decide) q71 rfl dX4_children_7 ?_
  cases hf
  exact W.iret hx hb hr (fun u hu _ => ⟨⟨rfl, by rw [hu]; exact hW⟩, hS.F hu⟩) hS.2.2 dX4_children_10
def f_X4_atFair (σ : Sg) : Option Int32 := b1 (f_X0_countHere (1 + 4) σ) fun y1 => some y1
set_option maxHeartbeats 4000000 in
set_option maxRecDepth 100000 in
theorem c_X4_atFair (l : Launch) (D : va_G) (t : Nat → ClassId) (b : Nat) (σ : Sg) (r : Int32) (hf : f_X4_atFair σ = some r) : Met l yX4_atFair (Cond.code yX4_atFair cX4_atFair 1 (some .int) :: ALL) ({ frames := 1, cells := 0, slots := 0, locals := 22 }) (PM D t b σ [.ref (b + 0)]) (QG D t b σ (some (.int r))) 0 0 (geA b) := by
  refine Met.ofW (cc := cX4_atFair) (maxL := 1) (ret := (some .int)) (by decide) rfl ?_
  intro p e s m args below meth c s₁ B hml hv
  obtain ⟨rfl, hW, hE⟩ := hv
  have hx := B.exec
  have hb := B.bytes
  have hr := B.returns
  have hts := atoms_spec (ws := Cond.code yX4_atFair cX4_atFair 1 (some .int) :: ALL) B.pre
  have hta := fun w h => hts w (List.mem_cons_of_mem _ h)
  have hown : s.vm.findClass RX4 = some m.cls := findClass_of_methodNamed B.named
  have hlocks := B.notSynchronized
  have hS : va_S (geA b) s.heap s.heap [] := va_S.rf
  have hl := lv_entry ([.ref (b + 0)]) (n := 1) (Nat.le_of_ble_eq_true rfl)
  rw [lg_entry_eq]
  generalize (lg_sl ([.ref (b + 0)]) ++ List.replicate (1 - (lg_sl ([.ref (b + 0)])).length) Slot.unset).toArray = ls at hl ⊢
  have hl : lv_has ls 1 [(0, .ref (b + 0))] := hl
  unfold f_X4_atFair at hf
  refine lv_aload_n hx hb dX4_atFair_0 rfl (lv_at hl 0 rfl) ?_
  refine getP hx hb hta hown hE.1 hW 0 (by decide) q274 rfl dX4_atFair_1 ?_
  refine getF hx hb hta hown hE.1 hW sh_1 12 (by decide) q195 rfl dX4_atFair_4 ?_
  obtain ⟨y1, u2, hf⟩ := b1_e hf
  refine mV (k := (1 + 4)) (q := (2, 0)) (C := RX0) (T := TX0) (N := 10) (ci := 0) (n := 0) (As := []) (rest := []) (c_X0_countHere l D t b (1 + 4) σ y1 (shF_4 sh_1) u2) (shF_4 sh_1) (by decide) rfl rfl hx hb hml hown hts hE hW hS q1055 q535 q536 q36 q537 hy_X0_countHere ⟨rfl, rfl⟩ ⟨Nat.le_of_ble_eq_true rfl, Nat.le_of_ble_eq_true rfl⟩ rfl rfl hl.1 (Nat.le_of_ble_eq_true rfl) ⟨Nat.zero_le _, Nat.zero_le _⟩ dX4_atFair_7 (fun H locs hW hS => ?_)
  cases hf
  exact W.iret hx hb hr (fun u hu _ => ⟨⟨rfl, by rw [hu]; exact hW⟩, hS.F hu⟩) hS.2.2 dX4_atFair_10
def l_X0_findHappiest_9 (c0 : Nat) : Nat → Sg → Int32 → Int32 → Int32 → Option Int32
  | 0, _, _, _, _ => none
  | n + 1, τ, x1, x2, x3 => if (τ c0 0) ≤ x3 then (some x1) else (gd x3 200 (if (τ (c0 + 5) (x3).toNatClampNeg) = (-1) then (l_X0_findHappiest_9 c0 n τ x1 x2 (x3 + 1)) else (if (τ (c0 + 2) (x3).toNatClampNeg) ≤ x2 then (l_X0_findHappiest_9 c0 n τ x1 x2 (x3 + 1)) else (l_X0_findHappiest_9 c0 n τ x3 (τ (c0 + 2) (x3).toNatClampNeg) (x3 + 1)))))
def f_X0_findHappiest (c0 : Nat) (σ : Sg) : Option Int32 := l_X0_findHappiest_9 c0 10000 σ (-1) (-1) (σ c0 1)
set_option maxHeartbeats 4000000 in
set_option maxRecDepth 100000 in
theorem c_X0_findHappiest (l : Launch) (D : va_G) (t : Nat → ClassId) (b : Nat) (c0 : Nat) (σ : Sg) (r : Int32) (hc0 : sh c0 = (2, 0)) (hf : f_X0_findHappiest c0 σ = some r) : Met l yX0_findHappiest (Cond.code yX0_findHappiest cX0_findHappiest 4 (some .int) :: ALL) ({ frames := 0, cells := 0, slots := 0, locals := 0 }) (PM D t b σ [.ref (b + c0)]) (QG D t b σ (some (.int r))) 0 0 (geA b) := by
  refine Met.ofW (cc := cX0_findHappiest) (maxL := 4) (ret := (some .int)) (by decide) rfl ?_
  intro p e s m args below meth c s₁ B hml hv
  obtain ⟨rfl, hW, hE⟩ := hv
  have hx := B.exec
  have hb := B.bytes
  have hr := B.returns
  have hts := atoms_spec (ws := Cond.code yX0_findHappiest cX0_findHappiest 4 (some .int) :: ALL) B.pre
  have hta := fun w h => hts w (List.mem_cons_of_mem _ h)
  have hown : s.vm.findClass RX0 = some m.cls := findClass_of_methodNamed B.named
  have hlocks := B.notSynchronized
  have hS : va_S (geA b) s.heap s.heap [] := va_S.rf
  have hl := lv_entry ([.ref (b + c0)]) (n := 4) (Nat.le_of_ble_eq_true rfl)
  rw [lg_entry_eq]
  generalize (lg_sl ([.ref (b + c0)]) ++ List.replicate (4 - (lg_sl ([.ref (b + c0)])).length) Slot.unset).toArray = ls at hl ⊢
  have hl : lv_has ls 4 [(0, .ref (b + c0))] := hl
  unfold f_X0_findHappiest at hf
  refine lv_iconst (v := (-1)) hx hb dX0_findHappiest_0 (by decide) ?_
  refine lv_istore_n (lv' := [(1, .int (-1)), (0, .ref (b + c0))]) hx hb dX0_findHappiest_1 rfl hl (by decide) rfl (fun ls hl => ?_)
  refine lv_iconst (v := (-1)) hx hb dX0_findHappiest_2 (by decide) ?_
  refine lv_istore_n (lv' := [(2, .int (-1)), (1, .int (-1)), (0, .ref (b + c0))]) hx hb dX0_findHappiest_3 rfl hl (by decide) rfl (fun ls hl => ?_)
  refine lv_aload_n hx hb dX0_findHappiest_4 rfl (lv_at hl 2 rfl) ?_
  refine getC hx hb hta hown hE.1 hW hc0 1 (by decide) q72 rfl dX0_findHappiest_5 ?_
  refine lv_istore_n (lv' := [(3, .int (σ c0 1)), (2, .int (-1)), (1, .int (-1)), (0, .ref (b + c0))]) hx hb dX0_findHappiest_8 rfl hl (by decide) rfl (fun ls hl => ?_)
  have key_9 : ∀ (n : Nat) (τ : Sg) (x1 : Int32) (x2 : Int32) (x3 : Int32) (H : Heap) (locs : List Loc) (ls : Array Slot), l_X0_findHappiest_9 c0 n τ x1 x2 x3 = some r → wd D t b τ H → va_S (geA b) s.heap H locs → lv_has ls 4 [(0, .ref (b + c0)), (1, .int x1), (2, .int x2), (3, .int x3)] → W p l e (headSpec (Cond.code yX0_findHappiest cX0_findHappiest 4 (some .int) :: ALL) ({ frames := 0, cells := 0, slots := 0, locals := 0 })).room s m (([.ref (b + c0)] : List Value).toArray) below meth c H locs 0 0 (MQ below (QG D t b τ (some (.int r))) (([.ref (b + c0)] : List Value).toArray) s 0 0 (geA b)) (F0 m 9 ls []) := by
    intro n
    induction n with
    | zero =>
      intro τ x1 x2 x3 H locs ls hf
      rw [l_X0_findHappiest_9.eq_1] at hf
      cases hf
    | succ n ih_9 =>
      intro τ x1 x2 x3 H locs ls hf hW hS hl
      rw [l_X0_findHappiest_9.eq_2] at hf
      refine lv_iload_n hx hb dX0_findHappiest_9 rfl (lv_at hl 3 rfl) ?_
      refine lv_aload_n hx hb dX0_findHappiest_10 rfl (lv_at hl 0 rfl) ?_
      refine getC hx hb hta hown hE.1 hW hc0 0 (by decide) q69 rfl dX0_findHappiest_11 ?_
      refine lv_icmp_ge (tgt := 52) hx hb dX0_findHappiest_14 (by decide) (fun h1 => ?_) (fun h1 => ?_)
      · have hf := ifp h1 hf
        refine lv_iload_n hx hb dX0_findHappiest_52 rfl (lv_at hl 1 rfl) ?_
        cases hf
        exact W.iret hx hb hr (fun u hu _ => ⟨⟨rfl, by rw [hu]; exact hW⟩, hS.F hu⟩) hS.2.2 dX0_findHappiest_53
      · have hf := ifn h1 hf
        refine lv_aload_n hx hb dX0_findHappiest_17 rfl (lv_at hl 0 rfl) ?_
        refine getC hx hb hta hown hE.1 hW hc0 6 (by decide) q83 rfl dX0_findHappiest_18 ?_
        refine lv_iload_n hx hb dX0_findHappiest_21 rfl (lv_at hl 3 rfl) ?_
        obtain ⟨g2, hf⟩ := gd_e hf
        refine iald hx hb hE.1 hW (shC_5 hc0) g2 dX0_findHappiest_22 ?_
        refine lv_iconst (v := (-1)) hx hb dX0_findHappiest_23 (by decide) ?_
        refine lv_icmp_eq (tgt := 46) hx hb dX0_findHappiest_24 (by decide) (fun h3 => ?_) (fun h3 => ?_)
        · have hf := ifp h3 hf
          refine lv_iinc (v := (x3 + 1)) (lv' := [(3, .int (x3 + 1)), (0, .ref (b + c0)), (1, .int x1), (2, .int x2)]) hx hb dX0_findHappiest_46 hl (k := 3) rfl (by rfl) (by decide) rfl (fun ls hl => ?_)
          refine lv_goto (tgt := 9) hx hb dX0_findHappiest_49 (by decide) ?_
          exact ih_9 τ x1 x2 (x3 + 1) _ _ _ hf hW hS (lv_sub hl [1, 2, 3, 0] rfl)
        · have hf := ifn h3 hf
          refine lv_aload_n hx hb dX0_findHappiest_27 rfl (lv_at hl 0 rfl) ?_
          refine getC hx hb hta hown hE.1 hW hc0 3 (by decide) q77 rfl dX0_findHappiest_28 ?_
          refine lv_iload_n hx hb dX0_findHappiest_31 rfl (lv_at hl 3 rfl) ?_
          refine iald hx hb hE.1 hW (shC_2 hc0) g2 dX0_findHappiest_32 ?_
          refine lv_iload_n hx hb dX0_findHappiest_33 rfl (lv_at hl 2 rfl) ?_
          refine lv_icmp_le (tgt := 46) hx hb dX0_findHappiest_34 (by decide) (fun h4 => ?_) (fun h4 => ?_)
          · have hf := ifp h4 hf
            refine lv_iinc (v := (x3 + 1)) (lv' := [(3, .int (x3 + 1)), (0, .ref (b + c0)), (1, .int x1), (2, .int x2)]) hx hb dX0_findHappiest_46 hl (k := 3) rfl (by rfl) (by decide) rfl (fun ls hl => ?_)
            refine lv_goto (tgt := 9) hx hb dX0_findHappiest_49 (by decide) ?_
            exact ih_9 τ x1 x2 (x3 + 1) _ _ _ hf hW hS (lv_sub hl [1, 2, 3, 0] rfl)
          · have hf := ifn h4 hf
            refine lv_aload_n hx hb dX0_findHappiest_37 rfl (lv_at hl 0 rfl) ?_
            refine getC hx hb hta hown hE.1 hW hc0 3 (by decide) q77 rfl dX0_findHappiest_38 ?_
            refine lv_iload_n hx hb dX0_findHappiest_41 rfl (lv_at hl 3 rfl) ?_
            refine iald hx hb hE.1 hW (shC_2 hc0) g2 dX0_findHappiest_42 ?_
            refine lv_istore_n (lv' := [(2, .int (τ (c0 + 2) (x3).toNatClampNeg)), (0, .ref (b + c0)), (1, .int x1), (3, .int x3)]) hx hb dX0_findHappiest_43 rfl hl (by decide) rfl (fun ls hl => ?_)
            refine lv_iload_n hx hb dX0_findHappiest_44 rfl (lv_at hl 3 rfl) ?_
            refine lv_istore_n (lv' := [(1, .int x3), (2, .int (τ (c0 + 2) (x3).toNatClampNeg)), (0, .ref (b + c0)), (3, .int x3)]) hx hb dX0_findHappiest_45 rfl hl (by decide) rfl (fun ls hl => ?_)
            refine lv_iinc (v := (x3 + 1)) (lv' := [(3, .int (x3 + 1)), (1, .int x3), (2, .int (τ (c0 + 2) (x3).toNatClampNeg)), (0, .ref (b + c0))]) hx hb dX0_findHappiest_46 hl (k := 3) rfl (by rfl) (by decide) rfl (fun ls hl => ?_)
            refine lv_goto (tgt := 9) hx hb dX0_findHappiest_49 (by decide) ?_
            exact ih_9 τ x3 (τ (c0 + 2) (x3).toNatClampNeg) (x3 + 1) _ _ _ hf hW hS (lv_sub hl [3, 1, 2, 0] rfl)
  exact key_9 10000 σ (-1) (-1) (σ c0 1) _ _ _ hf hW hS (lv_sub hl [3, 2, 1, 0] rfl)
def f_X4_happiest (σ : Sg) : Option Int32 := b1 (f_X0_findHappiest (1 + 4) σ) fun y1 => some y1
set_option maxHeartbeats 4000000 in
set_option maxRecDepth 100000 in
theorem c_X4_happiest (l : Launch) (D : va_G) (t : Nat → ClassId) (b : Nat) (σ : Sg) (r : Int32) (hf : f_X4_happiest σ = some r) : Met l yX4_happiest (Cond.code yX4_happiest cX4_happiest 1 (some .int) :: ALL) ({ frames := 1, cells := 0, slots := 0, locals := 23 }) (PM D t b σ [.ref (b + 0)]) (QG D t b σ (some (.int r))) 0 0 (geA b) := by
  refine Met.ofW (cc := cX4_happiest) (maxL := 1) (ret := (some .int)) (by decide) rfl ?_
  intro p e s m args below meth c s₁ B hml hv
  obtain ⟨rfl, hW, hE⟩ := hv
  have hx := B.exec
  have hb := B.bytes
  have hr := B.returns
  have hts := atoms_spec (ws := Cond.code yX4_happiest cX4_happiest 1 (some .int) :: ALL) B.pre
  have hta := fun w h => hts w (List.mem_cons_of_mem _ h)
  have hown : s.vm.findClass RX4 = some m.cls := findClass_of_methodNamed B.named
  have hlocks := B.notSynchronized
  have hS : va_S (geA b) s.heap s.heap [] := va_S.rf
  have hl := lv_entry ([.ref (b + 0)]) (n := 1) (Nat.le_of_ble_eq_true rfl)
  rw [lg_entry_eq]
  generalize (lg_sl ([.ref (b + 0)]) ++ List.replicate (1 - (lg_sl ([.ref (b + 0)])).length) Slot.unset).toArray = ls at hl ⊢
  have hl : lv_has ls 1 [(0, .ref (b + 0))] := hl
  unfold f_X4_happiest at hf
  refine lv_aload_n hx hb dX4_happiest_0 rfl (lv_at hl 0 rfl) ?_
  refine getP hx hb hta hown hE.1 hW 0 (by decide) q274 rfl dX4_happiest_1 ?_
  refine getF hx hb hta hown hE.1 hW sh_1 12 (by decide) q195 rfl dX4_happiest_4 ?_
  obtain ⟨y1, u2, hf⟩ := b1_e hf
  refine mV (k := (1 + 4)) (q := (2, 0)) (C := RX0) (T := TX0) (N := 10) (ci := 0) (n := 0) (As := []) (rest := []) (c_X0_findHappiest l D t b (1 + 4) σ y1 (shF_4 sh_1) u2) (shF_4 sh_1) (by decide) rfl rfl hx hb hml hown hts hE hW hS q1014 q1015 q1016 q36 q1017 hy_X0_findHappiest ⟨rfl, rfl⟩ ⟨Nat.le_of_ble_eq_true rfl, Nat.le_of_ble_eq_true rfl⟩ rfl rfl hl.1 (Nat.le_of_ble_eq_true rfl) ⟨Nat.zero_le _, Nat.zero_le _⟩ dX4_happiest_7 (fun H locs hW hS => ?_)
  cases hf
  exact W.iret hx hb hr (fun u hu _ => ⟨⟨rfl, by rw [hu]; exact hW⟩, hS.F hu⟩) hS.2.2 dX4_happiest_10
def l_X0_countSulkers_7 (c0 : Nat) : Nat → Sg → Int32 → Int32 → Option Int32
  | 0, _, _, _ => none
  | n + 1, τ, x1, x2 => if (τ c0 0) ≤ x2 then (some x1) else (gd x2 200 (if (τ (c0 + 5) (x2).toNatClampNeg) = (-1) then (l_X0_countSulkers_7 c0 n τ x1 (x2 + 1)) else (if 50 ≤ (τ (c0 + 2) (x2).toNatClampNeg) then (l_X0_countSulkers_7 c0 n τ x1 (x2 + 1)) else (l_X0_countSulkers_7 c0 n τ (x1 + 1) (x2 + 1)))))
def f_X0_countSulkers (c0 : Nat) (σ : Sg) : Option Int32 := l_X0_countSulkers_7 c0 10000 σ 0 (σ c0 1)
set_option maxHeartbeats 4000000 in
set_option maxRecDepth 100000 in
theorem c_X0_countSulkers (l : Launch) (D : va_G) (t : Nat → ClassId) (b : Nat) (c0 : Nat) (σ : Sg) (r : Int32) (hc0 : sh c0 = (2, 0)) (hf : f_X0_countSulkers c0 σ = some r) : Met l yX0_countSulkers (Cond.code yX0_countSulkers cX0_countSulkers 3 (some .int) :: ALL) ({ frames := 0, cells := 0, slots := 0, locals := 0 }) (PM D t b σ [.ref (b + c0)]) (QG D t b σ (some (.int r))) 0 0 (geA b) := by
  refine Met.ofW (cc := cX0_countSulkers) (maxL := 3) (ret := (some .int)) (by decide) rfl ?_
  intro p e s m args below meth c s₁ B hml hv
  obtain ⟨rfl, hW, hE⟩ := hv
  have hx := B.exec
  have hb := B.bytes
  have hr := B.returns
  have hts := atoms_spec (ws := Cond.code yX0_countSulkers cX0_countSulkers 3 (some .int) :: ALL) B.pre
  have hta := fun w h => hts w (List.mem_cons_of_mem _ h)
  have hown : s.vm.findClass RX0 = some m.cls := findClass_of_methodNamed B.named
  have hlocks := B.notSynchronized
  have hS : va_S (geA b) s.heap s.heap [] := va_S.rf
  have hl := lv_entry ([.ref (b + c0)]) (n := 3) (Nat.le_of_ble_eq_true rfl)
  rw [lg_entry_eq]
  generalize (lg_sl ([.ref (b + c0)]) ++ List.replicate (3 - (lg_sl ([.ref (b + c0)])).length) Slot.unset).toArray = ls at hl ⊢
  have hl : lv_has ls 3 [(0, .ref (b + c0))] := hl
  unfold f_X0_countSulkers at hf
  refine lv_iconst (v := 0) hx hb dX0_countSulkers_0 (by decide) ?_
  refine lv_istore_n (lv' := [(1, .int 0), (0, .ref (b + c0))]) hx hb dX0_countSulkers_1 rfl hl (by decide) rfl (fun ls hl => ?_)
  refine lv_aload_n hx hb dX0_countSulkers_2 rfl (lv_at hl 1 rfl) ?_
  refine getC hx hb hta hown hE.1 hW hc0 1 (by decide) q72 rfl dX0_countSulkers_3 ?_
  refine lv_istore_n (lv' := [(2, .int (σ c0 1)), (1, .int 0), (0, .ref (b + c0))]) hx hb dX0_countSulkers_6 rfl hl (by decide) rfl (fun ls hl => ?_)
  have key_7 : ∀ (n : Nat) (τ : Sg) (x1 : Int32) (x2 : Int32) (H : Heap) (locs : List Loc) (ls : Array Slot), l_X0_countSulkers_7 c0 n τ x1 x2 = some r → wd D t b τ H → va_S (geA b) s.heap H locs → lv_has ls 3 [(0, .ref (b + c0)), (1, .int x1), (2, .int x2)] → W p l e (headSpec (Cond.code yX0_countSulkers cX0_countSulkers 3 (some .int) :: ALL) ({ frames := 0, cells := 0, slots := 0, locals := 0 })).room s m (([.ref (b + c0)] : List Value).toArray) below meth c H locs 0 0 (MQ below (QG D t b τ (some (.int r))) (([.ref (b + c0)] : List Value).toArray) s 0 0 (geA b)) (F0 m 7 ls []) := by
    intro n
    induction n with
    | zero =>
      intro τ x1 x2 H locs ls hf
      rw [l_X0_countSulkers_7.eq_1] at hf
      cases hf
    | succ n ih_7 =>
      intro τ x1 x2 H locs ls hf hW hS hl
      rw [l_X0_countSulkers_7.eq_2] at hf
      refine lv_iload_n hx hb dX0_countSulkers_7 rfl (lv_at hl 2 rfl) ?_
      refine lv_aload_n hx hb dX0_countSulkers_8 rfl (lv_at hl 0 rfl) ?_
      refine getC hx hb hta hown hE.1 hW hc0 0 (by decide) q69 rfl dX0_countSulkers_9 ?_
      refine lv_icmp_ge (tgt := 45) hx hb dX0_countSulkers_12 (by decide) (fun h1 => ?_) (fun h1 => ?_)
      · have hf := ifp h1 hf
        refine lv_iload_n hx hb dX0_countSulkers_45 rfl (lv_at hl 1 rfl) ?_
        cases hf
        exact W.iret hx hb hr (fun u hu _ => ⟨⟨rfl, by rw [hu]; exact hW⟩, hS.F hu⟩) hS.2.2 dX0_countSulkers_46
      · have hf := ifn h1 hf
        refine lv_aload_n hx hb dX0_countSulkers_15 rfl (lv_at hl 0 rfl) ?_
        refine getC hx hb hta hown hE.1 hW hc0 6 (by decide) q83 rfl dX0_countSulkers_16 ?_
        refine lv_iload_n hx hb dX0_countSulkers_19 rfl (lv_at hl 2 rfl) ?_
        obtain ⟨g2, hf⟩ := gd_e hf
        refine iald hx hb hE.1 hW (shC_5 hc0) g2 dX0_countSulkers_20 ?_
        refine lv_iconst (v := (-1)) hx hb dX0_countSulkers_21 (by decide) ?_
        refine lv_icmp_eq (tgt := 39) hx hb dX0_countSulkers_22 (by decide) (fun h3 => ?_) (fun h3 => ?_)
        · have hf := ifp h3 hf
          refine lv_iinc (v := (x2 + 1)) (lv' := [(2, .int (x2 + 1)), (0, .ref (b + c0)), (1, .int x1)]) hx hb dX0_countSulkers_39 hl (k := 2) rfl (by rfl) (by decide) rfl (fun ls hl => ?_)
          refine lv_goto (tgt := 7) hx hb dX0_countSulkers_42 (by decide) ?_
          exact ih_7 τ x1 (x2 + 1) _ _ _ hf hW hS (lv_sub hl [1, 2, 0] rfl)
        · have hf := ifn h3 hf
          refine lv_aload_n hx hb dX0_countSulkers_25 rfl (lv_at hl 0 rfl) ?_
          refine getC hx hb hta hown hE.1 hW hc0 3 (by decide) q77 rfl dX0_countSulkers_26 ?_
          refine lv_iload_n hx hb dX0_countSulkers_29 rfl (lv_at hl 2 rfl) ?_
          refine iald hx hb hE.1 hW (shC_2 hc0) g2 dX0_countSulkers_30 ?_
          refine lv_bipush (v := 50) hx hb dX0_countSulkers_31 (by decide) ?_
          refine lv_icmp_ge (tgt := 39) hx hb dX0_countSulkers_33 (by decide) (fun h4 => ?_) (fun h4 => ?_)
          · have hf := ifp h4 hf
            refine lv_iinc (v := (x2 + 1)) (lv' := [(2, .int (x2 + 1)), (0, .ref (b + c0)), (1, .int x1)]) hx hb dX0_countSulkers_39 hl (k := 2) rfl (by rfl) (by decide) rfl (fun ls hl => ?_)
            refine lv_goto (tgt := 7) hx hb dX0_countSulkers_42 (by decide) ?_
            exact ih_7 τ x1 (x2 + 1) _ _ _ hf hW hS (lv_sub hl [1, 2, 0] rfl)
          · have hf := ifn h4 hf
            refine lv_iinc (v := (x1 + 1)) (lv' := [(1, .int (x1 + 1)), (0, .ref (b + c0)), (2, .int x2)]) hx hb dX0_countSulkers_36 hl (k := 1) rfl (by rfl) (by decide) rfl (fun ls hl => ?_)
            refine lv_iinc (v := (x2 + 1)) (lv' := [(2, .int (x2 + 1)), (1, .int (x1 + 1)), (0, .ref (b + c0))]) hx hb dX0_countSulkers_39 hl (k := 2) rfl (by rfl) (by decide) rfl (fun ls hl => ?_)
            refine lv_goto (tgt := 7) hx hb dX0_countSulkers_42 (by decide) ?_
            exact ih_7 τ (x1 + 1) (x2 + 1) _ _ _ hf hW hS (lv_sub hl [2, 1, 0] rfl)
  exact key_7 10000 σ 0 (σ c0 1) _ _ _ hf hW hS (lv_sub hl [2, 1, 0] rfl)

def l_L_rains_2 : Nat → Sg → Int32 → Int32 → Option ((Int32 × Sg) ⊕ (Sg))
  | 0, _, _, _ => none
  | n + 1, τ, x1, x2 => if 10 ≤ x2 then (some (.inr τ)) else (bn2 (f_X4_setRain τ x2 x1) fun y2 σ4 => if y2 = 0 then (l_L_rains_2 n σ4 x1 (x2 + 1)) else (some (.inl (0, σ4))))
set_option maxRecDepth 100000 in
def f_L_rains (σ : Sg) (p1 : Int32) : Option (Int32 × Sg) := bl id (l_L_rains_2 11 σ p1 0) fun q2 => b1 (f_X4_isChildDue q2) fun y6 => if y6 = 0 then (some (1, q2)) else (some (0, q2))
set_option maxHeartbeats 8000000 in
set_option maxRecDepth 100000 in
theorem c_L_rains (l : Launch) (hfl : l.stackTraces = false) (D : va_G) (t : Nat → ClassId) (b : Nat) (σ : Sg) (p1 : Int32) (r : Int32) (σr : Sg) (hf : f_L_rains σ p1 = some (r, σr)) : Met l yL_rains (Cond.code yL_rains cL_rains 3 (some .boolean) :: ALL) ({ frames := 8, cells := 22, slots := 132, locals := 146 }) (PM D t b σ [.ref (b + 0), .int p1]) (QG D t b σr (some (.int r))) 22 132 (geA b) := by
  refine Met.ofW (cc := cL_rains) (maxL := 3) (ret := (some .boolean)) (by decide) rfl ?_
  intro p e s m args below meth c s₁ B hml hv
  obtain ⟨rfl, hW, hE⟩ := hv
  have hE : EVA D t (geA b) s := hE
  have hsub : ∀ q, geA b q → geA b q := fun _ h => h
  have hx := B.exec
  have hb := B.bytes
  have hr := B.returns
  have hts := atoms_spec (ws := Cond.code yL_rains cL_rains 3 (some .boolean) :: ALL) B.pre
  have hta := fun w h => hts w (List.mem_cons_of_mem _ h)
  have hown : s.vm.findClass RL = some m.cls := findClass_of_methodNamed B.named
  have hlocks := B.notSynchronized
  have hS : va_S (geA b) s.heap s.heap [] := va_S.rf
  have hl := lv_entry ([.ref (b + 0), .int p1]) (n := 3) (Nat.le_of_ble_eq_true rfl)
  rw [lg_entry_eq]
  generalize (lg_sl ([.ref (b + 0), .int p1]) ++ List.replicate (3 - (lg_sl ([.ref (b + 0), .int p1])).length) Slot.unset).toArray = ls at hl ⊢
  have hl : lv_has ls 3 [(0, .ref (b + 0)), (1, .int p1)] := hl
  unfold f_L_rains at hf
  refine lv_iconst (v := 0) hx hb dL_rains_0 (by decide) ?_
  refine lv_istore_n (lv' := [(2, .int 0), (0, .ref (b + 0)), (1, .int p1)]) hx hb dL_rains_1 rfl hl (by decide) rfl (fun ls hl => ?_)
  obtain ⟨res, hl0, hA, hB⟩ := bl_e hf
  have key_2 : ∀ (n : Nat) (τ : Sg) (x1 : Int32) (x2 : Int32) (cl sl ce se : Nat) (H : Heap) (locs : List Loc) (ls : Array Slot) (res : (Int32 × Sg) ⊕ (Sg)), l_L_rains_2 n τ x1 x2 = some res → cl + 2 * n = ce → sl + 12 * n = se → ce ≤ 22 → se ≤ 132 → (∀ a, res = .inl a → a = (r, σr)) → (∀ q2, res = .inr q2 → ∀ (H : Heap) (locs : List Loc) (ls : Array Slot), wd D t b q2 H → va_S (geA b) s.heap H locs → lv_has ls 3 [(0, .ref (b + 0))] → W p l e (headSpec (Cond.code yL_rains cL_rains 3 (some .boolean) :: ALL) ({ frames := 8, cells := 22, slots := 132, locals := 146 })).room s m (([.ref (b + 0), .int p1] : List Value).toArray) below meth c H locs ce se (MQ below (QG D t b σr (some (.int r))) (([.ref (b + 0), .int p1] : List Value).toArray) s 22 132 (geA b)) (F0 m 25 ls [])) → wd D t b τ H → va_S (geA b) s.heap H locs → lv_has ls 3 [(0, .ref (b + 0)), (1, .int x1), (2, .int x2)] → W p l e (headSpec (Cond.code yL_rains cL_rains 3 (some .boolean) :: ALL) ({ frames := 8, cells := 22, slots := 132, locals := 146 })).room s m (([.ref (b + 0), .int p1] : List Value).toArray) below meth c H locs cl sl (MQ below (QG D t b σr (some (.int r))) (([.ref (b + 0), .int p1] : List Value).toArray) s 22 132 (geA b)) (F0 m 2 ls []) := by
    intro n
    induction n with
    | zero =>
      intro τ x1 x2 cl sl ce se H locs ls res hf
      rw [l_L_rains_2.eq_1] at hf
      cases hf
    | succ n ih_2 =>
      intro τ x1 x2 cl sl ce se H locs ls res hf hce hse hcm hsm kx kk hW hS hl
      rw [l_L_rains_2.eq_2] at hf
      refine lv_iload_n hx hb dL_rains_2 rfl (lv_at hl 2 rfl) ?_
      refine lv_bipush (v := 10) hx hb dL_rains_3 (by decide) ?_
      refine lv_icmp_ge (tgt := 25) hx hb dL_rains_5 (by decide) (fun h1 => ?_) (fun h1 => ?_)
      · have hf := ifp h1 hf
        cases hf
        refine W.widen (k := ce) (n := se) (by omega) (by omega) ?_
        exact kk _ rfl _ _ _ hW hS (lv_sub hl [0] rfl)
      · have hf := ifn h1 hf
        refine lv_aload_n hx hb dL_rains_8 rfl (lv_at hl 0 rfl) ?_
        refine lv_iload_n hx hb dL_rains_9 rfl (lv_at hl 2 rfl) ?_
        refine lv_iload_n hx hb dL_rains_10 rfl (lv_at hl 1 rfl) ?_
        obtain ⟨y2, σ4, u3, hf⟩ := bn2_e hf
        refine lVXn (n := 2) (As := [.int x2, .int x1]) (rest := []) (c_X4_setRain l hfl D t b τ x2 x1 (.inr (y2, σ4)) u3) hx hb hml hown hts hE hsub hW hS q606 q607 q608 q34 q609 hy_X4_setRain ⟨rfl, rfl⟩ ⟨Nat.le_of_ble_eq_true rfl, Nat.le_of_ble_eq_true rfl⟩ rfl rfl hl.1 (Nat.le_of_ble_eq_true rfl) ⟨show cl + 0 + 2 ≤ 22 by omega, show sl + 0 + 12 ≤ 132 by omega⟩ dL_rains_11 (fun H locs hW hS _ => ?_)
        refine W.widen (k := cl + 2) (n := sl + 12) (by omega) (by omega) ?_
        refine lv_if_eq (tgt := 19) hx hb dL_rains_14 (by decide) (fun h5 => ?_) (fun h5 => ?_)
        · have hf := ifp h5 hf
          refine lv_iinc (v := (x2 + 1)) (lv' := [(2, .int (x2 + 1)), (0, .ref (b + 0)), (1, .int x1)]) hx hb dL_rains_19 hl (k := 2) rfl (by rfl) (by decide) rfl (fun ls hl => ?_)
          refine lv_goto (tgt := 2) hx hb dL_rains_22 (by decide) ?_
          refine W.widen (k := cl + 2) (n := sl + 12) (by omega) (by omega) ?_
          exact ih_2 σ4 x1 (x2 + 1) (cl + 2) (sl + 12) ce se _ _ _ _ hf (by omega) (by omega) hcm hsm kx kk hW hS (lv_sub hl [1, 2, 0] rfl)
        · have hf := ifn h5 hf
          refine lv_iconst (v := 0) hx hb dL_rains_17 (by decide) ?_
          cases hf
          have h9 := kx _ rfl
          cases h9
          refine W.widen (k := 22) (n := 132) (by omega) (by omega) ?_
          exact W.zret (ty := .boolean) hx hb hr (by decide) (fun u hu _ => ⟨⟨rfl, by rw [hu]; exact hW⟩, hS.F hu⟩) hS.2.2 dL_rains_18
  refine key_2 11 σ p1 0 (0) (0) (22) (132) _ _ _ res hl0 (by omega) (by omega) (show 22 ≤ 22 by omega) (show 132 ≤ 132 by omega) (fun a h => hA a h) (fun q2 hq H locs ls hW hS hl => ?_) hW hS (lv_sub hl [1, 2, 0] rfl)
  have hf := hB _ hq
  refine lv_aload_n hx hb dL_rains_25 rfl (lv_at hl 0 rfl) ?_
  obtain ⟨y6, u7, hf⟩ := b1_e hf
  refine lV (n := 0) (As := []) (rest := []) (c_X4_isChildDue l D t b q2 y6 u7) hx hb hml hown hts hE hsub hW hS q1018 q1019 q1020 q34 q1021 hy_X4_isChildDue ⟨rfl, rfl⟩ ⟨Nat.le_of_ble_eq_true rfl, Nat.le_of_ble_eq_true rfl⟩ rfl rfl hl.1 (Nat.le_of_ble_eq_true rfl) ⟨show 22 ≤ 22 by omega, show 132 ≤ 132 by omega⟩ dL_rains_26 (fun H locs hW hS _ => ?_)
  refine lv_if_ne (tgt := 36) hx hb dL_rains_29 (by decide) (fun h8 => ?_) (fun h8 => ?_)
  · have hf := ifn h8 hf
    refine lv_iconst (v := 0) hx hb dL_rains_36 (by decide) ?_
    cases hf
    refine W.widen (k := 22) (n := 132) (by omega) (by omega) ?_
    exact W.zret (ty := .boolean) hx hb hr (by decide) (fun u hu _ => ⟨⟨rfl, by rw [hu]; exact hW⟩, hS.F hu⟩) hS.2.2 dL_rains_37
  · have hf := ifp h8 hf
    refine lv_iconst (v := 1) hx hb dL_rains_32 (by decide) ?_
    refine lv_goto (tgt := 37) hx hb dL_rains_33 (by decide) ?_
    cases hf
    refine W.widen (k := 22) (n := 132) (by omega) (by omega) ?_
    exact W.zret (ty := .boolean) hx hb hr (by decide) (fun u hu _ => ⟨⟨rfl, by rw [hu]; exact hW⟩, hS.F hu⟩) hS.2.2 dL_rains_37
def l_L_last_2 : Nat → Sg → Int32 → Option ((Int32 × Sg) ⊕ (Sg))
  | 0, _, _ => none
  | n + 1, τ, x1 => if 3 ≤ x1 then (some (.inr τ)) else (bn2 (f_X4_pass τ 40) fun y2 σ4 => if y2 = 0 then (l_L_last_2 n σ4 (x1 + 1)) else (some (.inl (0, σ4))))
set_option maxRecDepth 100000 in
def f_L_last (σ : Sg) : Option (Int32 × Sg) := bl id (l_L_last_2 4 σ 0) fun q2 => b1 (f_X4_day q2) fun y6 => if y6 = 8 then (bn2 (f_X4_pass q2 39) fun y9 σ11 => if y9 = 0 then (b1 (f_X4_round σ11) fun y13 => if y13 = 39 then (bn2 (f_X4_pass σ11 40) fun y16 σ18 => if y16 = 0 then (b1 (f_X4_round σ18) fun y20 => if y20 = 39 then (b1 (f_X4_day σ18) fun y23 => if y23 = 9 then (b1 (f_X4_allCoins σ18) fun y26 => b1 (f_X4_coinsByPlaces σ18) fun y28 => if y26 = y28 then (b2 (f_L_refused σ18) fun y31 σ33 => if y31 = 0 then (some (0, σ33)) else (some (1, σ33))) else (some (0, σ18))) else (some (0, σ18))) else (some (0, σ18))) else (some (0, σ18))) else (some (0, σ11))) else (some (0, σ11))) else (some (0, q2))
set_option maxHeartbeats 8000000 in
set_option maxRecDepth 100000 in
theorem c_L_last (l : Launch) (hfl : l.stackTraces = false) (D : va_G) (t : Nat → ClassId) (b : Nat) (σ : Sg) (r : Int32) (σr : Sg) (hf : f_L_last σ = some (r, σr)) : Met l yL_last (Cond.code yL_last cL_last 2 (some .boolean) :: ALL) ({ frames := 13, cells := 15378, slots := 92268, locals := 256 }) (PM D t b σ [.ref (b + 0)]) (QG D t b σr (some (.int r))) 15378 92268 (geA b) := by
  refine Met.ofW (cc := cL_last) (maxL := 2) (ret := (some .boolean)) (by decide) rfl ?_
  intro p e s m args below meth c s₁ B hml hv
  obtain ⟨rfl, hW, hE⟩ := hv
  have hE : EVA D t (geA b) s := hE
  have hsub : ∀ q, geA b q → geA b q := fun _ h => h
  have hx := B.exec
  have hb := B.bytes
  have hr := B.returns
  have hts := atoms_spec (ws := Cond.code yL_last cL_last 2 (some .boolean) :: ALL) B.pre
  have hta := fun w h => hts w (List.mem_cons_of_mem _ h)
  have hown : s.vm.findClass RL = some m.cls := findClass_of_methodNamed B.named
  have hlocks := B.notSynchronized
  have hS : va_S (geA b) s.heap s.heap [] := va_S.rf
  have hl := lv_entry ([.ref (b + 0)]) (n := 2) (Nat.le_of_ble_eq_true rfl)
  rw [lg_entry_eq]
  generalize (lg_sl ([.ref (b + 0)]) ++ List.replicate (2 - (lg_sl ([.ref (b + 0)])).length) Slot.unset).toArray = ls at hl ⊢
  have hl : lv_has ls 2 [(0, .ref (b + 0))] := hl
  unfold f_L_last at hf
  refine lv_iconst (v := 0) hx hb dL_last_0 (by decide) ?_
  refine lv_istore_n (lv' := [(1, .int 0), (0, .ref (b + 0))]) hx hb dL_last_1 rfl hl (by decide) rfl (fun ls hl => ?_)
  obtain ⟨res, hl0, hA, hB⟩ := bl_e hf
  have key_2 : ∀ (n : Nat) (τ : Sg) (x1 : Int32) (cl sl ce se : Nat) (H : Heap) (locs : List Loc) (ls : Array Slot) (res : (Int32 × Sg) ⊕ (Sg)), l_L_last_2 n τ x1 = some res → cl + 1 * n = ce → sl + 6 * n = se → ce ≤ 15378 → se ≤ 92268 → (∀ a, res = .inl a → a = (r, σr)) → (∀ q2, res = .inr q2 → ∀ (H : Heap) (locs : List Loc) (ls : Array Slot), wd D t b q2 H → va_S (geA b) s.heap H locs → lv_has ls 2 [(0, .ref (b + 0))] → W p l e (headSpec (Cond.code yL_last cL_last 2 (some .boolean) :: ALL) ({ frames := 13, cells := 15378, slots := 92268, locals := 256 })).room s m (([.ref (b + 0)] : List Value).toArray) below meth c H locs ce se (MQ below (QG D t b σr (some (.int r))) (([.ref (b + 0)] : List Value).toArray) s 15378 92268 (geA b)) (F0 m 24 ls [])) → wd D t b τ H → va_S (geA b) s.heap H locs → lv_has ls 2 [(0, .ref (b + 0)), (1, .int x1)] → W p l e (headSpec (Cond.code yL_last cL_last 2 (some .boolean) :: ALL) ({ frames := 13, cells := 15378, slots := 92268, locals := 256 })).room s m (([.ref (b + 0)] : List Value).toArray) below meth c H locs cl sl (MQ below (QG D t b σr (some (.int r))) (([.ref (b + 0)] : List Value).toArray) s 15378 92268 (geA b)) (F0 m 2 ls []) := by
    intro n
    induction n with
    | zero =>
      intro τ x1 cl sl ce se H locs ls res hf
      rw [l_L_last_2.eq_1] at hf
      cases hf
    | succ n ih_2 =>
      intro τ x1 cl sl ce se H locs ls res hf hce hse hcm hsm kx kk hW hS hl
      rw [l_L_last_2.eq_2] at hf
      refine lv_iload_n hx hb dL_last_2 rfl (lv_at hl 1 rfl) ?_
      refine lv_iconst (v := 3) hx hb dL_last_3 (by decide) ?_
      refine lv_icmp_ge (tgt := 24) hx hb dL_last_4 (by decide) (fun h1 => ?_) (fun h1 => ?_)
      · have hf := ifp h1 hf
        cases hf
        refine W.widen (k := ce) (n := se) (by omega) (by omega) ?_
        exact kk _ rfl _ _ _ hW hS (lv_sub hl [0] rfl)
      · have hf := ifn h1 hf
        refine lv_aload_n hx hb dL_last_7 rfl (lv_at hl 0 rfl) ?_
        refine lv_bipush (v := 40) hx hb dL_last_8 (by decide) ?_
        obtain ⟨y2, σ4, u3, hf⟩ := bn2_e hf
        refine lVXn (n := 1) (As := [.int 40]) (rest := []) (c_X4_pass l hfl D t b τ 40 (.inr (y2, σ4)) u3) hx hb hml hown hts hE hsub hW hS q616 q617 q618 q34 q619 hy_X4_pass ⟨rfl, rfl⟩ ⟨Nat.le_of_ble_eq_true rfl, Nat.le_of_ble_eq_true rfl⟩ rfl rfl hl.1 (Nat.le_of_ble_eq_true rfl) ⟨show cl + 0 + 1 ≤ 15378 by omega, show sl + 0 + 6 ≤ 92268 by omega⟩ dL_last_10 (fun H locs hW hS _ => ?_)
        refine W.widen (k := cl + 1) (n := sl + 6) (by omega) (by omega) ?_
        refine lv_if_eq (tgt := 18) hx hb dL_last_13 (by decide) (fun h5 => ?_) (fun h5 => ?_)
        · have hf := ifp h5 hf
          refine lv_iinc (v := (x1 + 1)) (lv' := [(1, .int (x1 + 1)), (0, .ref (b + 0))]) hx hb dL_last_18 hl (k := 1) rfl (by rfl) (by decide) rfl (fun ls hl => ?_)
          refine lv_goto (tgt := 2) hx hb dL_last_21 (by decide) ?_
          refine W.widen (k := cl + 1) (n := sl + 6) (by omega) (by omega) ?_
          exact ih_2 σ4 (x1 + 1) (cl + 1) (sl + 6) ce se _ _ _ _ hf (by omega) (by omega) hcm hsm kx kk hW hS (lv_sub hl [1, 0] rfl)
        · have hf := ifn h5 hf
          refine lv_iconst (v := 0) hx hb dL_last_16 (by decide) ?_
          cases hf
          have h9 := kx _ rfl
          cases h9
          refine W.widen (k := 15378) (n := 92268) (by omega) (by omega) ?_
          exact W.zret (ty := .boolean) hx hb hr (by decide) (fun u hu _ => ⟨⟨rfl, by rw [hu]; exact hW⟩, hS.F hu⟩) hS.2.2 dL_last_17
  refine key_2 4 σ 0 (0) (0) (4) (24) _ _ _ res hl0 (by omega) (by omega) (show 4 ≤ 15378 by omega) (show 24 ≤ 92268 by omega) (fun a h => hA a h) (fun q2 hq H locs ls hW hS hl => ?_) hW hS (lv_sub hl [1, 0] rfl)
  have hf := hB _ hq
  refine lv_aload_n hx hb dL_last_24 rfl (lv_at hl 0 rfl) ?_
  obtain ⟨y6, u7, hf⟩ := b1_e hf
  refine lV (n := 0) (As := []) (rest := []) (c_X4_day l D t b q2 y6 u7) hx hb hml hown hts hE hsub hW hS q965 q966 q967 q34 q968 hy_X4_day ⟨rfl, rfl⟩ ⟨Nat.le_of_ble_eq_true rfl, Nat.le_of_ble_eq_true rfl⟩ rfl rfl hl.1 (Nat.le_of_ble_eq_true rfl) ⟨show 4 ≤ 15378 by omega, show 24 ≤ 92268 by omega⟩ dL_last_25 (fun H locs hW hS _ => ?_)
  refine lv_bipush (v := 8) hx hb dL_last_28 (by decide) ?_
  refine lv_icmp_ne (tgt := 100) hx hb dL_last_30 (by decide) (fun h8 => ?_) (fun h8 => ?_)
  · have hf := ifn h8 hf
    refine lv_iconst (v := 0) hx hb dL_last_100 (by decide) ?_
    cases hf
    refine W.widen (k := 15378) (n := 92268) (by omega) (by omega) ?_
    exact W.zret (ty := .boolean) hx hb hr (by decide) (fun u hu _ => ⟨⟨rfl, by rw [hu]; exact hW⟩, hS.F hu⟩) hS.2.2 dL_last_101
  · have hf := ifp h8 hf
    refine lv_aload_n hx hb dL_last_33 rfl (lv_at hl 0 rfl) ?_
    refine lv_bipush (v := 39) hx hb dL_last_34 (by decide) ?_
    obtain ⟨y9, σ11, u10, hf⟩ := bn2_e hf
    refine lVXn (n := 1) (As := [.int 39]) (rest := []) (c_X4_pass l hfl D t b q2 39 (.inr (y9, σ11)) u10) hx hb hml hown hts hE hsub hW hS q616 q617 q618 q34 q619 hy_X4_pass ⟨rfl, rfl⟩ ⟨Nat.le_of_ble_eq_true rfl, Nat.le_of_ble_eq_true rfl⟩ rfl rfl hl.1 (Nat.le_of_ble_eq_true rfl) ⟨show 4 + 1 ≤ 15378 by omega, show 24 + 6 ≤ 92268 by omega⟩ dL_last_36 (fun H locs hW hS _ => ?_)
    refine W.widen (k := 5) (n := 30) (by omega) (by omega) ?_
    refine lv_if_ne (tgt := 100) hx hb dL_last_39 (by decide) (fun h12 => ?_) (fun h12 => ?_)
    · have hf := ifn h12 hf
      refine lv_iconst (v := 0) hx hb dL_last_100 (by decide) ?_
      cases hf
      refine W.widen (k := 15378) (n := 92268) (by omega) (by omega) ?_
      exact W.zret (ty := .boolean) hx hb hr (by decide) (fun u hu _ => ⟨⟨rfl, by rw [hu]; exact hW⟩, hS.F hu⟩) hS.2.2 dL_last_101
    · have hf := ifp h12 hf
      refine lv_aload_n hx hb dL_last_42 rfl (lv_at hl 0 rfl) ?_
      obtain ⟨y13, u14, hf⟩ := b1_e hf
      refine lV (n := 0) (As := []) (rest := []) (c_X4_round l D t b σ11 y13 u14) hx hb hml hown hts hE hsub hW hS q969 q970 q971 q34 q972 hy_X4_round ⟨rfl, rfl⟩ ⟨Nat.le_of_ble_eq_true rfl, Nat.le_of_ble_eq_true rfl⟩ rfl rfl hl.1 (Nat.le_of_ble_eq_true rfl) ⟨show 5 ≤ 15378 by omega, show 30 ≤ 92268 by omega⟩ dL_last_43 (fun H locs hW hS _ => ?_)
      refine lv_bipush (v := 39) hx hb dL_last_46 (by decide) ?_
      refine lv_icmp_ne (tgt := 100) hx hb dL_last_48 (by decide) (fun h15 => ?_) (fun h15 => ?_)
      · have hf := ifn h15 hf
        refine lv_iconst (v := 0) hx hb dL_last_100 (by decide) ?_
        cases hf
        refine W.widen (k := 15378) (n := 92268) (by omega) (by omega) ?_
        exact W.zret (ty := .boolean) hx hb hr (by decide) (fun u hu _ => ⟨⟨rfl, by rw [hu]; exact hW⟩, hS.F hu⟩) hS.2.2 dL_last_101
      · have hf := ifp h15 hf
        refine lv_aload_n hx hb dL_last_51 rfl (lv_at hl 0 rfl) ?_
        refine lv_bipush (v := 40) hx hb dL_last_52 (by decide) ?_
        obtain ⟨y16, σ18, u17, hf⟩ := bn2_e hf
        refine lVXn (n := 1) (As := [.int 40]) (rest := []) (c_X4_pass l hfl D t b σ11 40 (.inr (y16, σ18)) u17) hx hb hml hown hts hE hsub hW hS q616 q617 q618 q34 q619 hy_X4_pass ⟨rfl, rfl⟩ ⟨Nat.le_of_ble_eq_true rfl, Nat.le_of_ble_eq_true rfl⟩ rfl rfl hl.1 (Nat.le_of_ble_eq_true rfl) ⟨show 5 + 1 ≤ 15378 by omega, show 30 + 6 ≤ 92268 by omega⟩ dL_last_54 (fun H locs hW hS _ => ?_)
        refine W.widen (k := 6) (n := 36) (by omega) (by omega) ?_
        refine lv_if_ne (tgt := 100) hx hb dL_last_57 (by decide) (fun h19 => ?_) (fun h19 => ?_)
        · have hf := ifn h19 hf
          refine lv_iconst (v := 0) hx hb dL_last_100 (by decide) ?_
          cases hf
          refine W.widen (k := 15378) (n := 92268) (by omega) (by omega) ?_
          exact W.zret (ty := .boolean) hx hb hr (by decide) (fun u hu _ => ⟨⟨rfl, by rw [hu]; exact hW⟩, hS.F hu⟩) hS.2.2 dL_last_101
        · have hf := ifp h19 hf
          refine lv_aload_n hx hb dL_last_60 rfl (lv_at hl 0 rfl) ?_
          obtain ⟨y20, u21, hf⟩ := b1_e hf
          refine lV (n := 0) (As := []) (rest := []) (c_X4_round l D t b σ18 y20 u21) hx hb hml hown hts hE hsub hW hS q969 q970 q971 q34 q972 hy_X4_round ⟨rfl, rfl⟩ ⟨Nat.le_of_ble_eq_true rfl, Nat.le_of_ble_eq_true rfl⟩ rfl rfl hl.1 (Nat.le_of_ble_eq_true rfl) ⟨show 6 ≤ 15378 by omega, show 36 ≤ 92268 by omega⟩ dL_last_61 (fun H locs hW hS _ => ?_)
          refine lv_bipush (v := 39) hx hb dL_last_64 (by decide) ?_
          refine lv_icmp_ne (tgt := 100) hx hb dL_last_66 (by decide) (fun h22 => ?_) (fun h22 => ?_)
          · have hf := ifn h22 hf
            refine lv_iconst (v := 0) hx hb dL_last_100 (by decide) ?_
            cases hf
            refine W.widen (k := 15378) (n := 92268) (by omega) (by omega) ?_
            exact W.zret (ty := .boolean) hx hb hr (by decide) (fun u hu _ => ⟨⟨rfl, by rw [hu]; exact hW⟩, hS.F hu⟩) hS.2.2 dL_last_101
          · have hf := ifp h22 hf
            refine lv_aload_n hx hb dL_last_69 rfl (lv_at hl 0 rfl) ?_
            obtain ⟨y23, u24, hf⟩ := b1_e hf
            refine lV (n := 0) (As := []) (rest := []) (c_X4_day l D t b σ18 y23 u24) hx hb hml hown hts hE hsub hW hS q965 q966 q967 q34 q968 hy_X4_day ⟨rfl, rfl⟩ ⟨Nat.le_of_ble_eq_true rfl, Nat.le_of_ble_eq_true rfl⟩ rfl rfl hl.1 (Nat.le_of_ble_eq_true rfl) ⟨show 6 ≤ 15378 by omega, show 36 ≤ 92268 by omega⟩ dL_last_70 (fun H locs hW hS _ => ?_)
            refine lv_bipush (v := 9) hx hb dL_last_73 (by decide) ?_
            refine lv_icmp_ne (tgt := 100) hx hb dL_last_75 (by decide) (fun h25 => ?_) (fun h25 => ?_)
            · have hf := ifn h25 hf
              refine lv_iconst (v := 0) hx hb dL_last_100 (by decide) ?_
              cases hf
              refine W.widen (k := 15378) (n := 92268) (by omega) (by omega) ?_
              exact W.zret (ty := .boolean) hx hb hr (by decide) (fun u hu _ => ⟨⟨rfl, by rw [hu]; exact hW⟩, hS.F hu⟩) hS.2.2 dL_last_101
            · have hf := ifp h25 hf
              refine lv_aload_n hx hb dL_last_78 rfl (lv_at hl 0 rfl) ?_
              obtain ⟨y26, u27, hf⟩ := b1_e hf
              refine lV (n := 0) (As := []) (rest := []) (c_X4_allCoins l D t b σ18 y26 u27) hx hb hml hown hts hE hsub hW hS q953 q954 q955 q34 q956 hy_X4_allCoins ⟨rfl, rfl⟩ ⟨Nat.le_of_ble_eq_true rfl, Nat.le_of_ble_eq_true rfl⟩ rfl rfl hl.1 (Nat.le_of_ble_eq_true rfl) ⟨show 6 ≤ 15378 by omega, show 36 ≤ 92268 by omega⟩ dL_last_79 (fun H locs hW hS _ => ?_)
              refine lv_aload_n hx hb dL_last_82 rfl (lv_at hl 0 rfl) ?_
              obtain ⟨y28, u29, hf⟩ := b1_e hf
              refine lV (n := 0) (As := []) (rest := [.int y26]) (c_X4_coinsByPlaces l D t b σ18 y28 u29) hx hb hml hown hts hE hsub hW hS q998 q999 q1000 q34 q1001 hy_X4_coinsByPlaces ⟨rfl, rfl⟩ ⟨Nat.le_of_ble_eq_true rfl, Nat.le_of_ble_eq_true rfl⟩ rfl rfl hl.1 (Nat.le_of_ble_eq_true rfl) ⟨show 6 ≤ 15378 by omega, show 36 ≤ 92268 by omega⟩ dL_last_83 (fun H locs hW hS _ => ?_)
              refine lv_icmp_ne (tgt := 100) hx hb dL_last_86 (by decide) (fun h30 => ?_) (fun h30 => ?_)
              · have hf := ifn h30 hf
                refine lv_iconst (v := 0) hx hb dL_last_100 (by decide) ?_
                cases hf
                refine W.widen (k := 15378) (n := 92268) (by omega) (by omega) ?_
                exact W.zret (ty := .boolean) hx hb hr (by decide) (fun u hu _ => ⟨⟨rfl, by rw [hu]; exact hW⟩, hS.F hu⟩) hS.2.2 dL_last_101
              · have hf := ifp h30 hf
                refine lv_aload_n hx hb dL_last_89 rfl (lv_at hl 0 rfl) ?_
                obtain ⟨y31, σ33, u32, hf⟩ := b2_e hf
                refine lS (n := 1) (As := [.ref (b + 0)]) (rest := []) (c_L_refused l hfl D t b σ18 y31 σ33 u32) hx hb hml hown hts hE hsub hW hS q981 q982 q33  q983 hs_L_refused ⟨rfl, rfl⟩ ⟨Nat.le_of_ble_eq_true rfl, Nat.le_of_ble_eq_true rfl⟩ rfl rfl hl.1 (Nat.le_of_ble_eq_true rfl) ⟨show 6 + 15372 ≤ 15378 by omega, show 36 + 92232 ≤ 92268 by omega⟩ dL_last_90 (fun H locs hW hS _ => ?_)
                refine W.widen (k := 15378) (n := 92268) (by omega) (by omega) ?_
                refine lv_if_eq (tgt := 100) hx hb dL_last_93 (by decide) (fun h34 => ?_) (fun h34 => ?_)
                · have hf := ifp h34 hf
                  refine lv_iconst (v := 0) hx hb dL_last_100 (by decide) ?_
                  cases hf
                  refine W.widen (k := 15378) (n := 92268) (by omega) (by omega) ?_
                  exact W.zret (ty := .boolean) hx hb hr (by decide) (fun u hu _ => ⟨⟨rfl, by rw [hu]; exact hW⟩, hS.F hu⟩) hS.2.2 dL_last_101
                · have hf := ifn h34 hf
                  refine lv_iconst (v := 1) hx hb dL_last_96 (by decide) ?_
                  refine lv_goto (tgt := 101) hx hb dL_last_97 (by decide) ?_
                  cases hf
                  refine W.widen (k := 15378) (n := 92268) (by omega) (by omega) ?_
                  exact W.zret (ty := .boolean) hx hb hr (by decide) (fun u hu _ => ⟨⟨rfl, by rw [hu]; exact hW⟩, hS.F hu⟩) hS.2.2 dL_last_101
def l_L_types_6 : Nat → Sg → Int64 → Int32 → Int32 → Option ((Int32 × Sg) ⊕ (Sg × Int32))
  | 0, _, _, _, _ => none
  | n + 1, τ, x1, x3, x4 => if x4 < 0 then (some (.inr (τ, x3))) else (if x3 = 0 then (l_L_types_6 n τ x1 0 (x4 + (-8))) else (if ((x1 >>> (x4.toInt64 &&& 63)) &&& (255 : Int64)).toInt32 = 0 then (l_L_types_6 n τ x1 1 (x4 + (-8))) else (bn2 (f_X4_type τ (((x1 >>> (x4.toInt64 &&& 63)) &&& (255 : Int64)).toInt32.toUInt32 % 65536).toInt32) fun y4 σ6 => if y4 ≤ 0 then (l_L_types_6 n σ6 x1 0 (x4 + (-8))) else (l_L_types_6 n σ6 x1 1 (x4 + (-8))))))
set_option maxRecDepth 100000 in
def f_L_types (σ : Sg) (p1 : Int64) : Option (Int32 × Sg) := bl id (l_L_types_6 9 σ p1 1 56) fun q6 => gd q6.2 2 (some (q6.2, q6.1))
set_option maxHeartbeats 8000000 in
set_option maxRecDepth 100000 in
theorem c_L_types (l : Launch) (hfl : l.stackTraces = false) (D : va_G) (t : Nat → ClassId) (b : Nat) (σ : Sg) (p1 : Int64) (r : Int32) (σr : Sg) (hf : f_L_types σ p1 = some (r, σr)) : Met l yL_types (Cond.code yL_types cL_types 6 (some .boolean) :: ALL) ({ frames := 7, cells := 9, slots := 54, locals := 103 }) (PM D t b σ [.ref (b + 0), .long p1]) (QG D t b σr (some (.int r))) 9 54 (geA b) := by
  refine Met.ofW (cc := cL_types) (maxL := 6) (ret := (some .boolean)) (by decide) rfl ?_
  intro p e s m args below meth c s₁ B hml hv
  obtain ⟨rfl, hW, hE⟩ := hv
  have hE : EVA D t (geA b) s := hE
  have hsub : ∀ q, geA b q → geA b q := fun _ h => h
  have hx := B.exec
  have hb := B.bytes
  have hr := B.returns
  have hts := atoms_spec (ws := Cond.code yL_types cL_types 6 (some .boolean) :: ALL) B.pre
  have hta := fun w h => hts w (List.mem_cons_of_mem _ h)
  have hown : s.vm.findClass RL = some m.cls := findClass_of_methodNamed B.named
  have hlocks := B.notSynchronized
  have hS : va_S (geA b) s.heap s.heap [] := va_S.rf
  have hl := lv_entry ([.ref (b + 0), .long p1]) (n := 6) (Nat.le_of_ble_eq_true rfl)
  rw [lg_entry_eq]
  generalize (lg_sl ([.ref (b + 0), .long p1]) ++ List.replicate (6 - (lg_sl ([.ref (b + 0), .long p1])).length) Slot.unset).toArray = ls at hl ⊢
  have hl : lv_has ls 6 [(0, .ref (b + 0)), (1, .long p1)] := hl
  unfold f_L_types at hf
  refine lv_iconst (v := 1) hx hb dL_types_0 (by decide) ?_
  refine lv_istore_n (lv' := [(3, .int 1), (0, .ref (b + 0)), (1, .long p1)]) hx hb dL_types_1 rfl hl (by decide) rfl (fun ls hl => ?_)
  refine lv_bipush (v := 56) hx hb dL_types_2 (by decide) ?_
  refine lv_istore (lv' := [(4, .int 56), (3, .int 1), (0, .ref (b + 0)), (1, .long p1)]) hx hb dL_types_4 hl (by decide) rfl (fun ls hl => ?_)
  obtain ⟨res, hl0, hA, hB⟩ := bl_e hf
  have key_6 : ∀ (n : Nat) (τ : Sg) (x1 : Int64) (x3 : Int32) (x4 : Int32) (cl sl ce se : Nat) (H : Heap) (locs : List Loc) (ls : Array Slot) (res : (Int32 × Sg) ⊕ (Sg × Int32)), l_L_types_6 n τ x1 x3 x4 = some res → cl + 1 * n = ce → sl + 6 * n = se → ce ≤ 9 → se ≤ 54 → (∀ a, res = .inl a → a = (r, σr)) → (∀ q6, res = .inr q6 → ∀ (H : Heap) (locs : List Loc) (ls : Array Slot), wd D t b q6.1 H → va_S (geA b) s.heap H locs → lv_has ls 6 [(3, .int q6.2)] → W p l e (headSpec (Cond.code yL_types cL_types 6 (some .boolean) :: ALL) ({ frames := 7, cells := 9, slots := 54, locals := 103 })).room s m (([.ref (b + 0), .long p1] : List Value).toArray) below meth c H locs ce se (MQ below (QG D t b σr (some (.int r))) (([.ref (b + 0), .long p1] : List Value).toArray) s 9 54 (geA b)) (F0 m 53 ls [])) → wd D t b τ H → va_S (geA b) s.heap H locs → lv_has ls 6 [(0, .ref (b + 0)), (1, .long x1), (3, .int x3), (4, .int x4)] → W p l e (headSpec (Cond.code yL_types cL_types 6 (some .boolean) :: ALL) ({ frames := 7, cells := 9, slots := 54, locals := 103 })).room s m (([.ref (b + 0), .long p1] : List Value).toArray) below meth c H locs cl sl (MQ below (QG D t b σr (some (.int r))) (([.ref (b + 0), .long p1] : List Value).toArray) s 9 54 (geA b)) (F0 m 6 ls []) := by
    intro n
    induction n with
    | zero =>
      intro τ x1 x3 x4 cl sl ce se H locs ls res hf
      rw [l_L_types_6.eq_1] at hf
      cases hf
    | succ n ih_6 =>
      intro τ x1 x3 x4 cl sl ce se H locs ls res hf hce hse hcm hsm kx kk hW hS hl
      rw [l_L_types_6.eq_2] at hf
      refine lv_iload hx hb dL_types_6 (lv_at hl 3 rfl) ?_
      refine lv_if_lt (tgt := 53) hx hb dL_types_8 (by decide) (fun h1 => ?_) (fun h1 => ?_)
      · have hf := ifp h1 hf
        cases hf
        refine W.widen (k := ce) (n := se) (by omega) (by omega) ?_
        exact kk _ rfl _ _ _ hW hS (lv_sub hl [2] rfl)
      · have hf := ifn h1 hf
        refine lv_lload_n hx hb dL_types_11 rfl (lv_at hl 1 rfl) ?_
        refine lv_iload hx hb dL_types_12 (lv_at hl 3 rfl) ?_
        refine lv_lshr hx hb dL_types_14 rfl ?_
        refine lv_ldc2 hx hb hown (hta _ q1072) dL_types_15 ?_
        refine lv_land hx hb dL_types_18 ?_
        refine lv_l2i hx hb dL_types_19 rfl ?_
        refine lv_istore (lv' := [(5, .int ((x1 >>> (x4.toInt64 &&& 63)) &&& (255 : Int64)).toInt32), (0, .ref (b + 0)), (1, .long x1), (3, .int x3), (4, .int x4)]) hx hb dL_types_20 hl (by decide) rfl (fun ls hl => ?_)
        refine lv_iload_n hx hb dL_types_22 rfl (lv_at hl 3 rfl) ?_
        refine lv_if_eq (tgt := 45) hx hb dL_types_23 (by decide) (fun h2 => ?_) (fun h2 => ?_)
        · have hf := ifp h2 hf
          refine lv_iconst (v := 0) hx hb dL_types_45 (by decide) ?_
          refine lv_istore_n (lv' := [(3, .int 0), (5, .int ((x1 >>> (x4.toInt64 &&& 63)) &&& (255 : Int64)).toInt32), (0, .ref (b + 0)), (1, .long x1), (4, .int x4)]) hx hb dL_types_46 rfl hl (by decide) rfl (fun ls hl => ?_)
          refine lv_iinc (v := (x4 + (-8))) (lv' := [(4, .int (x4 + (-8))), (3, .int 0), (5, .int ((x1 >>> (x4.toInt64 &&& 63)) &&& (255 : Int64)).toInt32), (0, .ref (b + 0)), (1, .long x1)]) hx hb dL_types_47 hl (k := 4) rfl (by rfl) (by decide) rfl (fun ls hl => ?_)
          refine lv_goto (tgt := 6) hx hb dL_types_50 (by decide) ?_
          refine W.widen (k := cl + 1) (n := sl + 6) (by omega) (by omega) ?_
          exact ih_6 τ x1 0 (x4 + (-8)) (cl + 1) (sl + 6) ce se _ _ _ _ hf (by omega) (by omega) hcm hsm kx kk hW hS (lv_sub hl [3, 4, 1, 0] rfl)
        · have hf := ifn h2 hf
          refine lv_iload hx hb dL_types_26 (lv_at hl 0 rfl) ?_
          refine lv_if_eq (tgt := 41) hx hb dL_types_28 (by decide) (fun h3 => ?_) (fun h3 => ?_)
          · have hf := ifp h3 hf
            refine lv_iconst (v := 1) hx hb dL_types_41 (by decide) ?_
            refine lv_goto (tgt := 46) hx hb dL_types_42 (by decide) ?_
            refine lv_istore_n (lv' := [(3, .int 1), (5, .int ((x1 >>> (x4.toInt64 &&& 63)) &&& (255 : Int64)).toInt32), (0, .ref (b + 0)), (1, .long x1), (4, .int x4)]) hx hb dL_types_46 rfl hl (by decide) rfl (fun ls hl => ?_)
            refine lv_iinc (v := (x4 + (-8))) (lv' := [(4, .int (x4 + (-8))), (3, .int 1), (5, .int ((x1 >>> (x4.toInt64 &&& 63)) &&& (255 : Int64)).toInt32), (0, .ref (b + 0)), (1, .long x1)]) hx hb dL_types_47 hl (k := 4) rfl (by rfl) (by decide) rfl (fun ls hl => ?_)
            refine lv_goto (tgt := 6) hx hb dL_types_50 (by decide) ?_
            refine W.widen (k := cl + 1) (n := sl + 6) (by omega) (by omega) ?_
            exact ih_6 τ x1 1 (x4 + (-8)) (cl + 1) (sl + 6) ce se _ _ _ _ hf (by omega) (by omega) hcm hsm kx kk hW hS (lv_sub hl [3, 4, 1, 0] rfl)
          · have hf := ifn h3 hf
            refine lv_aload_n hx hb dL_types_31 rfl (lv_at hl 1 rfl) ?_
            refine lv_iload hx hb dL_types_32 (lv_at hl 0 rfl) ?_
            refine lv_i2c hx hb dL_types_34 rfl ?_
            obtain ⟨y4, σ6, u5, hf⟩ := bn2_e hf
            refine lVXn (n := 1) (As := [.int (((x1 >>> (x4.toInt64 &&& 63)) &&& (255 : Int64)).toInt32.toUInt32 % 65536).toInt32]) (rest := []) (c_X4_type l hfl D t b τ (((x1 >>> (x4.toInt64 &&& 63)) &&& (255 : Int64)).toInt32.toUInt32 % 65536).toInt32 (.inr (y4, σ6)) u5) hx hb hml hown hts hE hsub hW hS q839 q840 q841 q34 q842 hy_X4_type ⟨rfl, rfl⟩ ⟨Nat.le_of_ble_eq_true rfl, Nat.le_of_ble_eq_true rfl⟩ rfl rfl hl.1 (Nat.le_of_ble_eq_true rfl) ⟨show cl + 0 + 1 ≤ 9 by omega, show sl + 0 + 6 ≤ 54 by omega⟩ dL_types_35 (fun H locs hW hS _ => ?_)
            refine W.widen (k := cl + 1) (n := sl + 6) (by omega) (by omega) ?_
            refine lv_if_le (tgt := 45) hx hb dL_types_38 (by decide) (fun h7 => ?_) (fun h7 => ?_)
            · have hf := ifp h7 hf
              refine lv_iconst (v := 0) hx hb dL_types_45 (by decide) ?_
              refine lv_istore_n (lv' := [(3, .int 0), (5, .int ((x1 >>> (x4.toInt64 &&& 63)) &&& (255 : Int64)).toInt32), (0, .ref (b + 0)), (1, .long x1), (4, .int x4)]) hx hb dL_types_46 rfl hl (by decide) rfl (fun ls hl => ?_)
              refine lv_iinc (v := (x4 + (-8))) (lv' := [(4, .int (x4 + (-8))), (3, .int 0), (5, .int ((x1 >>> (x4.toInt64 &&& 63)) &&& (255 : Int64)).toInt32), (0, .ref (b + 0)), (1, .long x1)]) hx hb dL_types_47 hl (k := 4) rfl (by rfl) (by decide) rfl (fun ls hl => ?_)
              refine lv_goto (tgt := 6) hx hb dL_types_50 (by decide) ?_
              refine W.widen (k := cl + 1) (n := sl + 6) (by omega) (by omega) ?_
              exact ih_6 σ6 x1 0 (x4 + (-8)) (cl + 1) (sl + 6) ce se _ _ _ _ hf (by omega) (by omega) hcm hsm kx kk hW hS (lv_sub hl [3, 4, 1, 0] rfl)
            · have hf := ifn h7 hf
              refine lv_iconst (v := 1) hx hb dL_types_41 (by decide) ?_
              refine lv_goto (tgt := 46) hx hb dL_types_42 (by decide) ?_
              refine lv_istore_n (lv' := [(3, .int 1), (5, .int ((x1 >>> (x4.toInt64 &&& 63)) &&& (255 : Int64)).toInt32), (0, .ref (b + 0)), (1, .long x1), (4, .int x4)]) hx hb dL_types_46 rfl hl (by decide) rfl (fun ls hl => ?_)
              refine lv_iinc (v := (x4 + (-8))) (lv' := [(4, .int (x4 + (-8))), (3, .int 1), (5, .int ((x1 >>> (x4.toInt64 &&& 63)) &&& (255 : Int64)).toInt32), (0, .ref (b + 0)), (1, .long x1)]) hx hb dL_types_47 hl (k := 4) rfl (by rfl) (by decide) rfl (fun ls hl => ?_)
              refine lv_goto (tgt := 6) hx hb dL_types_50 (by decide) ?_
              refine W.widen (k := cl + 1) (n := sl + 6) (by omega) (by omega) ?_
              exact ih_6 σ6 x1 1 (x4 + (-8)) (cl + 1) (sl + 6) ce se _ _ _ _ hf (by omega) (by omega) hcm hsm kx kk hW hS (lv_sub hl [3, 4, 1, 0] rfl)
  refine key_6 9 σ p1 1 56 (0) (0) (9) (54) _ _ _ res hl0 (by omega) (by omega) (show 9 ≤ 9 by omega) (show 54 ≤ 54 by omega) (fun a h => hA a h) (fun q6 hq H locs ls hW hS hl => ?_) hW hS (lv_sub hl [2, 3, 1, 0] rfl)
  have hf := hB _ hq
  refine lv_iload_n hx hb dL_types_53 rfl (lv_at hl 0 rfl) ?_
  obtain ⟨g8, hf⟩ := gd_e hf
  cases hf
  refine W.widen (k := 9) (n := 54) (by omega) (by omega) ?_
  exact W.zret (ty := .boolean) hx hb hr (nar_bool g8).1 (fun u hu _ => ⟨⟨rfl, by rw [hu]; exact hW⟩, hS.F hu⟩) hS.2.2 dL_types_54
set_option maxRecDepth 100000 in
def f_L_isError (σ : Sg) (p1 : Int64) (p3 : Int64) (p5 : Int32) : Option (Int32 × Sg) := b2 (f_X4_clearText σ) fun y1 σ3 => if y1 < 0 then (some (0, σ3)) else (b2 (f_L_types σ3 p1) fun y5 σ7 => if y5 = 0 then (some (0, σ7)) else (b2 (f_L_types σ7 p3) fun y9 σ11 => if y9 = 0 then (some (0, σ11)) else (b2 (f_X4_textError σ11) fun y13 σ15 => if y13 = p5 then (some (1, σ15)) else (some (0, σ15)))))
set_option maxHeartbeats 8000000 in
set_option maxRecDepth 100000 in
theorem c_L_isError (l : Launch) (hfl : l.stackTraces = false) (D : va_G) (t : Nat → ClassId) (b : Nat) (σ : Sg) (p1 : Int64) (p3 : Int64) (p5 : Int32) (r : Int32) (σr : Sg) (hf : f_L_isError σ p1 p3 p5 = some (r, σr)) : Met l yL_isError (Cond.code yL_isError cL_isError 6 (some .boolean) :: ALL) ({ frames := 8, cells := 18, slots := 108, locals := 149 }) (PM D t b σ [.ref (b + 0), .long p1, .long p3, .int p5]) (QG D t b σr (some (.int r))) 18 108 (geA b) := by
  refine Met.ofW (cc := cL_isError) (maxL := 6) (ret := (some .boolean)) (by decide) rfl ?_
  intro p e s m args below meth c s₁ B hml hv
  obtain ⟨rfl, hW, hE⟩ := hv
  have hE : EVA D t (geA b) s := hE
  have hsub : ∀ q, geA b q → geA b q := fun _ h => h
  have hx := B.exec
  have hb := B.bytes
  have hr := B.returns
  have hts := atoms_spec (ws := Cond.code yL_isError cL_isError 6 (some .boolean) :: ALL) B.pre
  have hta := fun w h => hts w (List.mem_cons_of_mem _ h)
  have hown : s.vm.findClass RL = some m.cls := findClass_of_methodNamed B.named
  have hlocks := B.notSynchronized
  have hS : va_S (geA b) s.heap s.heap [] := va_S.rf
  have hl := lv_entry ([.ref (b + 0), .long p1, .long p3, .int p5]) (n := 6) (Nat.le_of_ble_eq_true rfl)
  rw [lg_entry_eq]
  generalize (lg_sl ([.ref (b + 0), .long p1, .long p3, .int p5]) ++ List.replicate (6 - (lg_sl ([.ref (b + 0), .long p1, .long p3, .int p5])).length) Slot.unset).toArray = ls at hl ⊢
  have hl : lv_has ls 6 [(0, .ref (b + 0)), (1, .long p1), (3, .long p3), (5, .int p5)] := hl
  unfold f_L_isError at hf
  refine lv_aload_n hx hb dL_isError_0 rfl (lv_at hl 0 rfl) ?_
  obtain ⟨y1, σ3, u2, hf⟩ := b2_e hf
  refine lV (n := 0) (As := []) (rest := []) (c_X4_clearText l D t b σ y1 σ3 u2) hx hb hml hown hts hE hsub hW hS q991 q992 q993 q34 q994 hy_X4_clearText ⟨rfl, rfl⟩ ⟨Nat.le_of_ble_eq_true rfl, Nat.le_of_ble_eq_true rfl⟩ rfl rfl hl.1 (Nat.le_of_ble_eq_true rfl) ⟨show 0 ≤ 18 by omega, show 0 ≤ 108 by omega⟩ dL_isError_1 (fun H locs hW hS _ => ?_)
  refine lv_if_lt (tgt := 36) hx hb dL_isError_4 (by decide) (fun h4 => ?_) (fun h4 => ?_)
  · have hf := ifp h4 hf
    refine lv_iconst (v := 0) hx hb dL_isError_36 (by decide) ?_
    cases hf
    refine W.widen (k := 18) (n := 108) (by omega) (by omega) ?_
    exact W.zret (ty := .boolean) hx hb hr (by decide) (fun u hu _ => ⟨⟨rfl, by rw [hu]; exact hW⟩, hS.F hu⟩) hS.2.2 dL_isError_37
  · have hf := ifn h4 hf
    refine lv_aload_n hx hb dL_isError_7 rfl (lv_at hl 0 rfl) ?_
    refine lv_lload_n hx hb dL_isError_8 rfl (lv_at hl 1 rfl) ?_
    obtain ⟨y5, σ7, u6, hf⟩ := b2_e hf
    refine lS (n := 2) (As := [.ref (b + 0), .long p1]) (rest := []) (c_L_types l hfl D t b σ3 p1 y5 σ7 u6) hx hb hml hown hts hE hsub hW hS q1069 q1070 q33  q1071 hs_L_types ⟨rfl, rfl⟩ ⟨Nat.le_of_ble_eq_true rfl, Nat.le_of_ble_eq_true rfl⟩ rfl rfl hl.1 (Nat.le_of_ble_eq_true rfl) ⟨show 0 + 9 ≤ 18 by omega, show 0 + 54 ≤ 108 by omega⟩ dL_isError_9 (fun H locs hW hS _ => ?_)
    refine W.widen (k := 9) (n := 54) (by omega) (by omega) ?_
    refine lv_if_eq (tgt := 36) hx hb dL_isError_12 (by decide) (fun h8 => ?_) (fun h8 => ?_)
    · have hf := ifp h8 hf
      refine lv_iconst (v := 0) hx hb dL_isError_36 (by decide) ?_
      cases hf
      refine W.widen (k := 18) (n := 108) (by omega) (by omega) ?_
      exact W.zret (ty := .boolean) hx hb hr (by decide) (fun u hu _ => ⟨⟨rfl, by rw [hu]; exact hW⟩, hS.F hu⟩) hS.2.2 dL_isError_37
    · have hf := ifn h8 hf
      refine lv_aload_n hx hb dL_isError_15 rfl (lv_at hl 0 rfl) ?_
      refine lv_lload_n hx hb dL_isError_16 rfl (lv_at hl 2 rfl) ?_
      obtain ⟨y9, σ11, u10, hf⟩ := b2_e hf
      refine lS (n := 2) (As := [.ref (b + 0), .long p3]) (rest := []) (c_L_types l hfl D t b σ7 p3 y9 σ11 u10) hx hb hml hown hts hE hsub hW hS q1069 q1070 q33  q1071 hs_L_types ⟨rfl, rfl⟩ ⟨Nat.le_of_ble_eq_true rfl, Nat.le_of_ble_eq_true rfl⟩ rfl rfl hl.1 (Nat.le_of_ble_eq_true rfl) ⟨show 9 + 9 ≤ 18 by omega, show 54 + 54 ≤ 108 by omega⟩ dL_isError_17 (fun H locs hW hS _ => ?_)
      refine W.widen (k := 18) (n := 108) (by omega) (by omega) ?_
      refine lv_if_eq (tgt := 36) hx hb dL_isError_20 (by decide) (fun h12 => ?_) (fun h12 => ?_)
      · have hf := ifp h12 hf
        refine lv_iconst (v := 0) hx hb dL_isError_36 (by decide) ?_
        cases hf
        refine W.widen (k := 18) (n := 108) (by omega) (by omega) ?_
        exact W.zret (ty := .boolean) hx hb hr (by decide) (fun u hu _ => ⟨⟨rfl, by rw [hu]; exact hW⟩, hS.F hu⟩) hS.2.2 dL_isError_37
      · have hf := ifn h12 hf
        refine lv_aload_n hx hb dL_isError_23 rfl (lv_at hl 0 rfl) ?_
        obtain ⟨y13, σ15, u14, hf⟩ := b2_e hf
        refine lV (n := 0) (As := []) (rest := []) (c_X4_textError l D t b σ11 y13 σ15 u14) hx hb hml hown hts hE hsub hW hS q936 q937 q938 q34 q939 hy_X4_textError ⟨rfl, rfl⟩ ⟨Nat.le_of_ble_eq_true rfl, Nat.le_of_ble_eq_true rfl⟩ rfl rfl hl.1 (Nat.le_of_ble_eq_true rfl) ⟨show 18 ≤ 18 by omega, show 108 ≤ 108 by omega⟩ dL_isError_24 (fun H locs hW hS _ => ?_)
        refine lv_iload hx hb dL_isError_27 (lv_at hl 3 rfl) ?_
        refine lv_icmp_ne (tgt := 36) hx hb dL_isError_29 (by decide) (fun h16 => ?_) (fun h16 => ?_)
        · have hf := ifn h16 hf
          refine lv_iconst (v := 0) hx hb dL_isError_36 (by decide) ?_
          cases hf
          refine W.widen (k := 18) (n := 108) (by omega) (by omega) ?_
          exact W.zret (ty := .boolean) hx hb hr (by decide) (fun u hu _ => ⟨⟨rfl, by rw [hu]; exact hW⟩, hS.F hu⟩) hS.2.2 dL_isError_37
        · have hf := ifp h16 hf
          refine lv_iconst (v := 1) hx hb dL_isError_32 (by decide) ?_
          refine lv_goto (tgt := 37) hx hb dL_isError_33 (by decide) ?_
          cases hf
          refine W.widen (k := 18) (n := 108) (by omega) (by omega) ?_
          exact W.zret (ty := .boolean) hx hb hr (by decide) (fun u hu _ => ⟨⟨rfl, by rw [hu]; exact hW⟩, hS.F hu⟩) hS.2.2 dL_isError_37
def l_L_games_113 : Nat → Sg → Int32 → Option (Int32 ⊕ (Sg))
  | 0, _, _ => none
  | n + 1, τ, x1 => if 5 ≤ x1 then (some (.inr τ)) else (if x1 = 4 then (if (x1 - x1 / 2 * 2) = 0 then (bn2 (f_X4_come τ 0 0 2) fun y38 σ40 => if y38 = x1 then (l_L_games_113 n σ40 (x1 + 1)) else (some (.inl 0))) else (bn2 (f_X4_come τ 0 1 2) fun y42 σ44 => if y42 = x1 then (l_L_games_113 n σ44 (x1 + 1)) else (some (.inl 0)))) else (if (x1 - x1 / 2 * 2) = 0 then (bn2 (f_X4_come τ 9 0 2) fun y47 σ49 => if y47 = x1 then (l_L_games_113 n σ49 (x1 + 1)) else (some (.inl 0))) else (bn2 (f_X4_come τ 9 1 2) fun y51 σ53 => if y51 = x1 then (l_L_games_113 n σ53 (x1 + 1)) else (some (.inl 0)))))
set_option maxRecDepth 100000 in
def f_L_games : Option Int32 := b2 (f_L_rains s0 5) fun y1 σ3 => if y1 = 0 then (some 0) else (bn2 (f_X4_build σ3 0 0 1 1) fun y5 σ7 => if y5 = 0 then (bn2 (f_X4_fund σ7 0 99) fun y9 σ11 => if y9 = 99 then (bn2 (f_X4_restock σ11 0 3 0 2) fun y13 σ15 => if y13 = 79 then (bn2 (f_X4_restock σ15 0 2 1 1) fun y17 σ19 => if y17 = 73 then (bn2 (f_X4_restock σ19 0 1 2 1) fun y21 σ23 => if y21 = 70 then (bn2 (f_X4_restock σ23 0 1 0 1) fun y25 σ27 => if y25 = 67 then (bn1 (f_X4_levelToWin σ27 0) fun y29 => if y29 = 2 then (bn1 (f_X4_playsToWin σ27 0) fun y32 => if y32 = 4 then (bl id (l_L_games_113 6 σ27 0) fun q113 => bn1 (f_X4_crowdOn q113 0) fun y55 => if y55 = 5 then (bn1 (f_X4_whyNoPlay q113 4) fun y58 => if y58 = 3 then (bn2 (f_X4_pass q113 1) fun y61 σ63 => if y61 = 1 then (b2 (f_L_is σ63 0 8 52 0 0 0) fun y65 σ67 => if y65 = 0 then (some 0) else (bn1 (f_X4_placeOf σ67 1) fun y69 => if y69 = 1 then (bn1 (f_X4_placeOf σ67 4) fun y72 => if y72 = 1 then (bn1 (f_X4_crowdOn σ67 1) fun y75 => if y75 = 4 then (bn2 (f_X4_pass σ67 1) fun y78 σ80 => if y78 = 1 then (b2 (f_L_is σ80 0 7 44 0 0 4) fun y82 σ84 => if y82 = 0 then (some 0) else (b1 (f_X4_sulkers σ84) fun y86 => if y86 = 1 then (b1 (f_X4_happiest σ84) fun y89 => if y89 = 1 then (bn1 (f_X4_playsToWin σ84 0) fun y92 => if y92 = 2 then (bn2 (f_X4_come σ84 9 4 2) fun y95 σ97 => if y95 = 5 then (bn2 (f_X4_pass σ97 1) fun y99 σ101 => if y99 = 1 then (bn1 (f_X4_placeOf σ101 0) fun y103 => if y103 = 1 then (b2 (f_L_is σ101 5 8 52 0 0 0) fun y106 σ108 => if y106 = 0 then (some 0) else (bn1 (f_X4_playsToWin σ108 0) fun y110 => if y110 = 1 then (bn2 (f_X4_pass σ108 1) fun y113 σ115 => if y113 = 1 then (b2 (f_L_is σ115 5 7 72 0 1 4) fun y117 σ119 => if y117 = 0 then (some 0) else (bn1 (f_X4_wonOf σ119 2) fun y121 => if y121 = 1 then (bn1 (f_X4_prizesOn σ119 0 2 1) fun y124 => if y124 = 0 then (bn1 (f_X4_levelToWin σ119 0) fun y127 => if y127 = 1 then (bn1 (f_X4_prizesOn σ119 0 3 0) fun y130 => if y130 = 2 then (bn1 (f_X4_playsOf σ119 0) fun y133 => if y133 = 4 then (bn2 (f_X4_setPrice σ119 0 9) fun y136 σ138 => if y136 = 1 then (bn2 (f_X4_come σ138 9 2 2) fun y140 σ142 => if y140 = 6 then (bn2 (f_X4_come σ142 99 2 0) fun y144 σ146 => if y144 = 7 then (bn2 (f_X4_pass σ146 1) fun y148 σ150 => if y148 = 1 then (b2 (f_L_is σ150 6 0 52 0 0 3) fun y152 σ154 => if y152 = 0 then (some 0) else (bn1 (f_X4_placeOf σ154 7) fun y156 => if y156 = 1 then (bn2 (f_X4_turnStall σ154 0) fun y159 σ161 => if y159 = 0 then (bn2 (f_X4_come σ161 50 0 0) fun y163 σ165 => if y163 = 8 then (bn1 (f_X4_whyNoPlay σ165 8) fun y167 => if y167 = 2 then (bn1 (f_X4_whyNoPlay σ165 6) fun y170 => if y170 = 2 then (bn1 (f_X4_levelToWin σ165 0) fun y173 => if y173 = 1 then (bn2 (f_X4_build σ165 3 1 1 0) fun y176 σ178 => if y176 = 1 then (bn1 (f_X4_playsToWin σ178 1) fun y180 => if y180 = 3 then (bn1 (f_X4_levelToWin σ178 1) fun y183 => if y183 = (-1) then (bn2 (f_X4_fund σ178 1 60) fun y186 σ188 => if y186 = 60 then (bn2 (f_X4_restock σ188 1 2 0 3) fun y190 σ192 => if y190 = 42 then (bn1 (f_X4_levelToWin σ192 1) fun y194 => if y194 = (-1) then (bn2 (f_X4_restock σ192 1 1 3 1) fun y197 σ199 => if y197 = 39 then (bn1 (f_X4_levelToWin σ199 1) fun y201 => if y201 = 1 then (bn2 (f_X4_build σ199 4 2 1 0) fun y204 σ206 => if y204 = 2 then (bn1 (f_X4_playsToWin σ206 2) fun y208 => if y208 = 5 then (bn2 (f_X4_fund σ206 2 31) fun y211 σ213 => if y211 = 31 then (bn2 (f_X4_restock σ213 2 3 3 3) fun y215 σ217 => if y215 = 1 then (bn1 (f_X4_levelToWin σ217 2) fun y219 => if y219 = 3 then (b2 (f_L_call σ217 4 2 3 3 1) fun y222 σ224 => if y222 = (-2013) then (b1 (f_X4_allCoins σ224) fun y226 => b1 (f_X4_coinsByPlaces σ224) fun y228 => if y226 = y228 then (some 1) else (some 0)) else (some 0)) else (some 0)) else (some 0)) else (some 0)) else (some 0)) else (some 0)) else (some 0)) else (some 0)) else (some 0)) else (some 0)) else (some 0)) else (some 0)) else (some 0)) else (some 0)) else (some 0)) else (some 0)) else (some 0)) else (some 0)) else (some 0)) else (some 0))) else (some 0)) else (some 0)) else (some 0)) else (some 0)) else (some 0)) else (some 0)) else (some 0)) else (some 0)) else (some 0))) else (some 0)) else (some 0))) else (some 0)) else (some 0)) else (some 0)) else (some 0)) else (some 0)) else (some 0))) else (some 0)) else (some 0)) else (some 0)) else (some 0))) else (some 0)) else (some 0)) else (some 0)) else (some 0)) else (some 0)) else (some 0)) else (some 0)) else (some 0)) else (some 0)) else (some 0)) else (some 0))
set_option maxHeartbeats 8000000 in
set_option maxRecDepth 100000 in
theorem c_L_games (l : Launch) (hfl : l.stackTraces = false) (D : va_G) (t : Nat → ClassId) (b : Nat) (r : Int32) (hf : f_L_games = some r) : Met l yL_games (Cond.code yL_games cL_games 2 (some .boolean) :: ALL) ({ frames := 11, cells := 362, slots := 13948, locals := 208 }) (PN D t b) (QN b (some (.int r))) 362 13948 (geC b) := by
  refine Met.ofW (cc := cL_games) (maxL := 2) (ret := (some .boolean)) (by decide) rfl ?_
  intro p e s m args below meth c s₁ B hml hv
  obtain ⟨rfl, hz, hE, hEC⟩ := hv
  have hz0 := hz
  have hsub : ∀ q, geA b q → geC b q := fun q h => h.1
  have hx := B.exec
  have hb := B.bytes
  have hr := B.returns
  have hts := atoms_spec (ws := Cond.code yL_games cL_games 2 (some .boolean) :: ALL) B.pre
  have hta := fun w h => hts w (List.mem_cons_of_mem _ h)
  have hown : s.vm.findClass RL = some m.cls := findClass_of_methodNamed B.named
  have hlocks := B.notSynchronized
  have hS : va_S (geC b) s.heap s.heap [] := va_S.rf
  have hl := lv_entry ([]) (n := 2) (Nat.le_of_ble_eq_true rfl)
  rw [lg_entry_eq]
  generalize (lg_sl ([]) ++ List.replicate (2 - (lg_sl ([])).length) Slot.unset).toArray = ls at hl ⊢
  have hl : lv_has ls 2 [] := hl
  unfold f_L_games at hf
  refine lNew (b := b) (b0 := b) (l := l) hx hb hml hown hts hEC hz (Nat.le_refl _) hS q47 q49 q50 q34 q51 hl ⟨Nat.le_of_ble_eq_true rfl, Nat.le_of_ble_eq_true rfl⟩ ⟨show 0 + 193 ≤ 362 by omega, show 0 + 12934 ≤ 13948 by omega⟩ dL_games_0 dL_games_3 dL_games_4 (fun H locs hW hz hS _ => ?_)
  refine W.widen (k := 193) (n := 12934) (by omega) (by omega) ?_
  refine lv_astore_n (lv' := [(0, .ref (b + 0))]) hx hb dL_games_7 rfl hl (by decide) rfl (fun ls hl => ?_)
  refine lv_aload_n hx hb dL_games_8 rfl (lv_at hl 0 rfl) ?_
  refine lv_iconst (v := 5) hx hb dL_games_9 (by decide) ?_
  obtain ⟨y1, σ3, u2, hf⟩ := b2_e hf
  refine lS (n := 2) (As := [.ref (b + 0), .int 5]) (rest := []) (c_L_rains l hfl D t b s0 5 y1 σ3 u2) hx hb hml hown hts hE hsub hW hS q1023 q1024 q33  q1025 hs_L_rains ⟨rfl, rfl⟩ ⟨Nat.le_of_ble_eq_true rfl, Nat.le_of_ble_eq_true rfl⟩ rfl rfl hl.1 (Nat.le_of_ble_eq_true rfl) ⟨show 193 + 22 ≤ 362 by omega, show 12934 + 132 ≤ 13948 by omega⟩ dL_games_10 (fun H locs hW hS _ => ?_)
  refine W.widen (k := 215) (n := 13066) (by omega) (by omega) ?_
  refine lv_if_eq (tgt := 109) hx hb dL_games_13 (by decide) (fun h4 => ?_) (fun h4 => ?_)
  · have hf := ifp h4 hf
    refine lv_iconst (v := 0) hx hb dL_games_109 (by decide) ?_
    cases hf
    refine W.widen (k := 362) (n := 13948) (by omega) (by omega) ?_
    exact W.zret (ty := .boolean) hx hb hr (by decide) (fun u hu _ => ⟨rfl, by rw [hu]; exact hS.1, fun q hq => by rw [hu]; exact hS.2.1 q (by omega) (Nat.not_le.mpr hq)⟩) hS.2.2 dL_games_110
  · have hf := ifn h4 hf
    refine lv_aload_n hx hb dL_games_16 rfl (lv_at hl 0 rfl) ?_
    refine lv_iconst (v := 0) hx hb dL_games_17 (by decide) ?_
    refine lv_iconst (v := 0) hx hb dL_games_18 (by decide) ?_
    refine lv_iconst (v := 1) hx hb dL_games_19 (by decide) ?_
    refine lv_iconst (v := 1) hx hb dL_games_20 (by decide) ?_
    obtain ⟨y5, σ7, u6, hf⟩ := bn2_e hf
    refine lVXn (n := 4) (As := [.int 0, .int 0, .int 1, .int 1]) (rest := []) (c_X4_build l hfl D t b σ3 0 0 1 1 (.inr (y5, σ7)) u6) hx hb hml hown hts hE hsub hW hS q299 q300 q301 q34 q302 hy_X4_build ⟨rfl, rfl⟩ ⟨Nat.le_of_ble_eq_true rfl, Nat.le_of_ble_eq_true rfl⟩ rfl rfl hl.1 (Nat.le_of_ble_eq_true rfl) ⟨show 215 + 4 ≤ 362 by omega, show 13066 + 24 ≤ 13948 by omega⟩ dL_games_21 (fun H locs hW hS _ => ?_)
    refine W.widen (k := 219) (n := 13090) (by omega) (by omega) ?_
    refine lv_if_ne (tgt := 109) hx hb dL_games_24 (by decide) (fun h8 => ?_) (fun h8 => ?_)
    · have hf := ifn h8 hf
      refine lv_iconst (v := 0) hx hb dL_games_109 (by decide) ?_
      cases hf
      refine W.widen (k := 362) (n := 13948) (by omega) (by omega) ?_
      exact W.zret (ty := .boolean) hx hb hr (by decide) (fun u hu _ => ⟨rfl, by rw [hu]; exact hS.1, fun q hq => by rw [hu]; exact hS.2.1 q (by omega) (Nat.not_le.mpr hq)⟩) hS.2.2 dL_games_110
    · have hf := ifp h8 hf
      refine lv_aload_n hx hb dL_games_27 rfl (lv_at hl 0 rfl) ?_
      refine lv_iconst (v := 0) hx hb dL_games_28 (by decide) ?_
      refine lv_bipush (v := 99) hx hb dL_games_29 (by decide) ?_
      obtain ⟨y9, σ11, u10, hf⟩ := bn2_e hf
      refine lVXn (n := 2) (As := [.int 0, .int 99]) (rest := []) (c_X4_fund l hfl D t b σ7 0 99 (.inr (y9, σ11)) u10) hx hb hml hown hts hE hsub hW hS q511 q512 q513 q34 q514 hy_X4_fund ⟨rfl, rfl⟩ ⟨Nat.le_of_ble_eq_true rfl, Nat.le_of_ble_eq_true rfl⟩ rfl rfl hl.1 (Nat.le_of_ble_eq_true rfl) ⟨show 219 + 2 ≤ 362 by omega, show 13090 + 12 ≤ 13948 by omega⟩ dL_games_31 (fun H locs hW hS _ => ?_)
      refine W.widen (k := 221) (n := 13102) (by omega) (by omega) ?_
      refine lv_bipush (v := 99) hx hb dL_games_34 (by decide) ?_
      refine lv_icmp_ne (tgt := 109) hx hb dL_games_36 (by decide) (fun h12 => ?_) (fun h12 => ?_)
      · have hf := ifn h12 hf
        refine lv_iconst (v := 0) hx hb dL_games_109 (by decide) ?_
        cases hf
        refine W.widen (k := 362) (n := 13948) (by omega) (by omega) ?_
        exact W.zret (ty := .boolean) hx hb hr (by decide) (fun u hu _ => ⟨rfl, by rw [hu]; exact hS.1, fun q hq => by rw [hu]; exact hS.2.1 q (by omega) (Nat.not_le.mpr hq)⟩) hS.2.2 dL_games_110
      · have hf := ifp h12 hf
        refine lv_aload_n hx hb dL_games_39 rfl (lv_at hl 0 rfl) ?_
        refine lv_iconst (v := 0) hx hb dL_games_40 (by decide) ?_
        refine lv_iconst (v := 3) hx hb dL_games_41 (by decide) ?_
        refine lv_iconst (v := 0) hx hb dL_games_42 (by decide) ?_
        refine lv_iconst (v := 2) hx hb dL_games_43 (by decide) ?_
        obtain ⟨y13, σ15, u14, hf⟩ := bn2_e hf
        refine lVXn (n := 4) (As := [.int 0, .int 3, .int 0, .int 2]) (rest := []) (c_X4_restock l hfl D t b σ11 0 3 0 2 (.inr (y13, σ15)) u14) hx hb hml hown hts hE hsub hW hS q466 q467 q468 q34 q469 hy_X4_restock ⟨rfl, rfl⟩ ⟨Nat.le_of_ble_eq_true rfl, Nat.le_of_ble_eq_true rfl⟩ rfl rfl hl.1 (Nat.le_of_ble_eq_true rfl) ⟨show 221 + 4 ≤ 362 by omega, show 13102 + 24 ≤ 13948 by omega⟩ dL_games_44 (fun H locs hW hS _ => ?_)
        refine W.widen (k := 225) (n := 13126) (by omega) (by omega) ?_
        refine lv_bipush (v := 79) hx hb dL_games_47 (by decide) ?_
        refine lv_icmp_ne (tgt := 109) hx hb dL_games_49 (by decide) (fun h16 => ?_) (fun h16 => ?_)
        · have hf := ifn h16 hf
          refine lv_iconst (v := 0) hx hb dL_games_109 (by decide) ?_
          cases hf
          refine W.widen (k := 362) (n := 13948) (by omega) (by omega) ?_
          exact W.zret (ty := .boolean) hx hb hr (by decide) (fun u hu _ => ⟨rfl, by rw [hu]; exact hS.1, fun q hq => by rw [hu]; exact hS.2.1 q (by omega) (Nat.not_le.mpr hq)⟩) hS.2.2 dL_games_110
        · have hf := ifp h16 hf
          refine lv_aload_n hx hb dL_games_52 rfl (lv_at hl 0 rfl) ?_
          refine lv_iconst (v := 0) hx hb dL_games_53 (by decide) ?_
          refine lv_iconst (v := 2) hx hb dL_games_54 (by decide) ?_
          refine lv_iconst (v := 1) hx hb dL_games_55 (by decide) ?_
          refine lv_iconst (v := 1) hx hb dL_games_56 (by decide) ?_
          obtain ⟨y17, σ19, u18, hf⟩ := bn2_e hf
          refine lVXn (n := 4) (As := [.int 0, .int 2, .int 1, .int 1]) (rest := []) (c_X4_restock l hfl D t b σ15 0 2 1 1 (.inr (y17, σ19)) u18) hx hb hml hown hts hE hsub hW hS q466 q467 q468 q34 q469 hy_X4_restock ⟨rfl, rfl⟩ ⟨Nat.le_of_ble_eq_true rfl, Nat.le_of_ble_eq_true rfl⟩ rfl rfl hl.1 (Nat.le_of_ble_eq_true rfl) ⟨show 225 + 4 ≤ 362 by omega, show 13126 + 24 ≤ 13948 by omega⟩ dL_games_57 (fun H locs hW hS _ => ?_)
          refine W.widen (k := 229) (n := 13150) (by omega) (by omega) ?_
          refine lv_bipush (v := 73) hx hb dL_games_60 (by decide) ?_
          refine lv_icmp_ne (tgt := 109) hx hb dL_games_62 (by decide) (fun h20 => ?_) (fun h20 => ?_)
          · have hf := ifn h20 hf
            refine lv_iconst (v := 0) hx hb dL_games_109 (by decide) ?_
            cases hf
            refine W.widen (k := 362) (n := 13948) (by omega) (by omega) ?_
            exact W.zret (ty := .boolean) hx hb hr (by decide) (fun u hu _ => ⟨rfl, by rw [hu]; exact hS.1, fun q hq => by rw [hu]; exact hS.2.1 q (by omega) (Nat.not_le.mpr hq)⟩) hS.2.2 dL_games_110
          · have hf := ifp h20 hf
            refine lv_aload_n hx hb dL_games_65 rfl (lv_at hl 0 rfl) ?_
            refine lv_iconst (v := 0) hx hb dL_games_66 (by decide) ?_
            refine lv_iconst (v := 1) hx hb dL_games_67 (by decide) ?_
            refine lv_iconst (v := 2) hx hb dL_games_68 (by decide) ?_
            refine lv_iconst (v := 1) hx hb dL_games_69 (by decide) ?_
            obtain ⟨y21, σ23, u22, hf⟩ := bn2_e hf
            refine lVXn (n := 4) (As := [.int 0, .int 1, .int 2, .int 1]) (rest := []) (c_X4_restock l hfl D t b σ19 0 1 2 1 (.inr (y21, σ23)) u22) hx hb hml hown hts hE hsub hW hS q466 q467 q468 q34 q469 hy_X4_restock ⟨rfl, rfl⟩ ⟨Nat.le_of_ble_eq_true rfl, Nat.le_of_ble_eq_true rfl⟩ rfl rfl hl.1 (Nat.le_of_ble_eq_true rfl) ⟨show 229 + 4 ≤ 362 by omega, show 13150 + 24 ≤ 13948 by omega⟩ dL_games_70 (fun H locs hW hS _ => ?_)
            refine W.widen (k := 233) (n := 13174) (by omega) (by omega) ?_
            refine lv_bipush (v := 70) hx hb dL_games_73 (by decide) ?_
            refine lv_icmp_ne (tgt := 109) hx hb dL_games_75 (by decide) (fun h24 => ?_) (fun h24 => ?_)
            · have hf := ifn h24 hf
              refine lv_iconst (v := 0) hx hb dL_games_109 (by decide) ?_
              cases hf
              refine W.widen (k := 362) (n := 13948) (by omega) (by omega) ?_
              exact W.zret (ty := .boolean) hx hb hr (by decide) (fun u hu _ => ⟨rfl, by rw [hu]; exact hS.1, fun q hq => by rw [hu]; exact hS.2.1 q (by omega) (Nat.not_le.mpr hq)⟩) hS.2.2 dL_games_110
            · have hf := ifp h24 hf
              refine lv_aload_n hx hb dL_games_78 rfl (lv_at hl 0 rfl) ?_
              refine lv_iconst (v := 0) hx hb dL_games_79 (by decide) ?_
              refine lv_iconst (v := 1) hx hb dL_games_80 (by decide) ?_
              refine lv_iconst (v := 0) hx hb dL_games_81 (by decide) ?_
              refine lv_iconst (v := 1) hx hb dL_games_82 (by decide) ?_
              obtain ⟨y25, σ27, u26, hf⟩ := bn2_e hf
              refine lVXn (n := 4) (As := [.int 0, .int 1, .int 0, .int 1]) (rest := []) (c_X4_restock l hfl D t b σ23 0 1 0 1 (.inr (y25, σ27)) u26) hx hb hml hown hts hE hsub hW hS q466 q467 q468 q34 q469 hy_X4_restock ⟨rfl, rfl⟩ ⟨Nat.le_of_ble_eq_true rfl, Nat.le_of_ble_eq_true rfl⟩ rfl rfl hl.1 (Nat.le_of_ble_eq_true rfl) ⟨show 233 + 4 ≤ 362 by omega, show 13174 + 24 ≤ 13948 by omega⟩ dL_games_83 (fun H locs hW hS _ => ?_)
              refine W.widen (k := 237) (n := 13198) (by omega) (by omega) ?_
              refine lv_bipush (v := 67) hx hb dL_games_86 (by decide) ?_
              refine lv_icmp_ne (tgt := 109) hx hb dL_games_88 (by decide) (fun h28 => ?_) (fun h28 => ?_)
              · have hf := ifn h28 hf
                refine lv_iconst (v := 0) hx hb dL_games_109 (by decide) ?_
                cases hf
                refine W.widen (k := 362) (n := 13948) (by omega) (by omega) ?_
                exact W.zret (ty := .boolean) hx hb hr (by decide) (fun u hu _ => ⟨rfl, by rw [hu]; exact hS.1, fun q hq => by rw [hu]; exact hS.2.1 q (by omega) (Nat.not_le.mpr hq)⟩) hS.2.2 dL_games_110
              · have hf := ifp h28 hf
                refine lv_aload_n hx hb dL_games_91 rfl (lv_at hl 0 rfl) ?_
                refine lv_iconst (v := 0) hx hb dL_games_92 (by decide) ?_
                obtain ⟨y29, u30, hf⟩ := bn1_e hf
                refine lVXn (n := 1) (As := [.int 0]) (rest := []) (c_X4_levelToWin l hfl D t b σ27 0 (.inr y29) u30) hx hb hml hown hts hE hsub hW hS q754 q755 q756 q34 q757 hy_X4_levelToWin ⟨rfl, rfl⟩ ⟨Nat.le_of_ble_eq_true rfl, Nat.le_of_ble_eq_true rfl⟩ rfl rfl hl.1 (Nat.le_of_ble_eq_true rfl) ⟨show 237 + 1 ≤ 362 by omega, show 13198 + 6 ≤ 13948 by omega⟩ dL_games_93 (fun H locs hW hS _ => ?_)
                refine W.widen (k := 238) (n := 13204) (by omega) (by omega) ?_
                refine lv_iconst (v := 2) hx hb dL_games_96 (by decide) ?_
                refine lv_icmp_ne (tgt := 109) hx hb dL_games_97 (by decide) (fun h31 => ?_) (fun h31 => ?_)
                · have hf := ifn h31 hf
                  refine lv_iconst (v := 0) hx hb dL_games_109 (by decide) ?_
                  cases hf
                  refine W.widen (k := 362) (n := 13948) (by omega) (by omega) ?_
                  exact W.zret (ty := .boolean) hx hb hr (by decide) (fun u hu _ => ⟨rfl, by rw [hu]; exact hS.1, fun q hq => by rw [hu]; exact hS.2.1 q (by omega) (Nat.not_le.mpr hq)⟩) hS.2.2 dL_games_110
                · have hf := ifp h31 hf
                  refine lv_aload_n hx hb dL_games_100 rfl (lv_at hl 0 rfl) ?_
                  refine lv_iconst (v := 0) hx hb dL_games_101 (by decide) ?_
                  obtain ⟨y32, u33, hf⟩ := bn1_e hf
                  refine lVXn (n := 1) (As := [.int 0]) (rest := []) (c_X4_playsToWin l hfl D t b σ27 0 (.inr y32) u33) hx hb hml hown hts hE hsub hW hS q744 q745 q746 q34 q747 hy_X4_playsToWin ⟨rfl, rfl⟩ ⟨Nat.le_of_ble_eq_true rfl, Nat.le_of_ble_eq_true rfl⟩ rfl rfl hl.1 (Nat.le_of_ble_eq_true rfl) ⟨show 238 + 1 ≤ 362 by omega, show 13204 + 6 ≤ 13948 by omega⟩ dL_games_102 (fun H locs hW hS _ => ?_)
                  refine W.widen (k := 239) (n := 13210) (by omega) (by omega) ?_
                  refine lv_iconst (v := 4) hx hb dL_games_105 (by decide) ?_
                  refine lv_icmp_eq (tgt := 111) hx hb dL_games_106 (by decide) (fun h34 => ?_) (fun h34 => ?_)
                  · have hf := ifp h34 hf
                    refine lv_iconst (v := 0) hx hb dL_games_111 (by decide) ?_
                    refine lv_istore_n (lv' := [(1, .int 0), (0, .ref (b + 0))]) hx hb dL_games_112 rfl hl (by decide) rfl (fun ls hl => ?_)
                    obtain ⟨res, hl0, hA, hB⟩ := bl_e hf
                    have key_113 : ∀ (n : Nat) (τ : Sg) (x1 : Int32) (cl sl ce se : Nat) (H : Heap) (locs : List Loc) (ls : Array Slot) (res : Int32 ⊕ (Sg)), l_L_games_113 n τ x1 = some res → cl + 3 * n = ce → sl + 18 * n = se → ce ≤ 362 → se ≤ 13948 → (∀ a, res = .inl a → a = r) → (∀ q113, res = .inr q113 → ∀ (H : Heap) (locs : List Loc) (ls : Array Slot), wd D t b q113 H → va_S (geC b) s.heap H locs → lv_has ls 2 [(0, .ref (b + 0))] → W p l e (headSpec (Cond.code yL_games cL_games 2 (some .boolean) :: ALL) ({ frames := 11, cells := 362, slots := 13948, locals := 208 })).room s m (([] : List Value).toArray) below meth c H locs ce se (MQ below (QN b (some (.int r))) (([] : List Value).toArray) s 362 13948 (geC b)) (F0 m 157 ls [])) → wd D t b τ H → va_S (geC b) s.heap H locs → lv_has ls 2 [(0, .ref (b + 0)), (1, .int x1)] → W p l e (headSpec (Cond.code yL_games cL_games 2 (some .boolean) :: ALL) ({ frames := 11, cells := 362, slots := 13948, locals := 208 })).room s m (([] : List Value).toArray) below meth c H locs cl sl (MQ below (QN b (some (.int r))) (([] : List Value).toArray) s 362 13948 (geC b)) (F0 m 113 ls []) := by
                      intro n
                      induction n with
                      | zero =>
                        intro τ x1 cl sl ce se H locs ls res hf
                        rw [l_L_games_113.eq_1] at hf
                        cases hf
                      | succ n ih_113 =>
                        intro τ x1 cl sl ce se H locs ls res hf hce hse hcm hsm kx kk hW hS hl
                        rw [l_L_games_113.eq_2] at hf
                        refine lv_iload_n hx hb dL_games_113 rfl (lv_at hl 1 rfl) ?_
                        refine lv_iconst (v := 5) hx hb dL_games_114 (by decide) ?_
                        refine lv_icmp_ge (tgt := 157) hx hb dL_games_115 (by decide) (fun h35 => ?_) (fun h35 => ?_)
                        · have hf := ifp h35 hf
                          cases hf
                          refine W.widen (k := ce) (n := se) (by omega) (by omega) ?_
                          exact kk _ rfl _ _ _ hW hS (lv_sub hl [0] rfl)
                        · have hf := ifn h35 hf
                          refine lv_aload_n hx hb dL_games_118 rfl (lv_at hl 0 rfl) ?_
                          refine lv_iload_n hx hb dL_games_119 rfl (lv_at hl 1 rfl) ?_
                          refine lv_iconst (v := 4) hx hb dL_games_120 (by decide) ?_
                          refine lv_icmp_ne (tgt := 128) hx hb dL_games_121 (by decide) (fun h36 => ?_) (fun h36 => ?_)
                          · have hf := ifn h36 hf
                            refine lv_bipush (v := 9) hx hb dL_games_128 (by decide) ?_
                            refine lv_iload_n hx hb dL_games_130 rfl (lv_at hl 1 rfl) ?_
                            refine lv_iconst (v := 2) hx hb dL_games_131 (by decide) ?_
                            refine lv_irem hx hb dL_games_132 (by decide) ?_
                            refine lv_if_ne (tgt := 140) hx hb dL_games_133 (by decide) (fun h46 => ?_) (fun h46 => ?_)
                            · have hf := ifn h46 hf
                              refine lv_iconst (v := 1) hx hb dL_games_140 (by decide) ?_
                              refine lv_iconst (v := 2) hx hb dL_games_141 (by decide) ?_
                              obtain ⟨y51, σ53, u52, hf⟩ := bn2_e hf
                              refine lVXn (n := 3) (As := [.int 9, .int 1, .int 2]) (rest := []) (c_X4_come l hfl D t b τ 9 1 2 (.inr (y51, σ53)) u52) hx hb hml hown hts hE hsub hW hS q525 q526 q527 q34 q528 hy_X4_come ⟨rfl, rfl⟩ ⟨Nat.le_of_ble_eq_true rfl, Nat.le_of_ble_eq_true rfl⟩ rfl rfl hl.1 (Nat.le_of_ble_eq_true rfl) ⟨show cl + 0 + 3 ≤ 362 by omega, show sl + 0 + 18 ≤ 13948 by omega⟩ dL_games_142 (fun H locs hW hS _ => ?_)
                              refine W.widen (k := cl + 3) (n := sl + 18) (by omega) (by omega) ?_
                              refine lv_iload_n hx hb dL_games_145 rfl (lv_at hl 1 rfl) ?_
                              refine lv_icmp_eq (tgt := 151) hx hb dL_games_146 (by decide) (fun h54 => ?_) (fun h54 => ?_)
                              · have hf := ifp h54 hf
                                refine lv_iinc (v := (x1 + 1)) (lv' := [(1, .int (x1 + 1)), (0, .ref (b + 0))]) hx hb dL_games_151 hl (k := 1) rfl (by rfl) (by decide) rfl (fun ls hl => ?_)
                                refine lv_goto (tgt := 113) hx hb dL_games_154 (by decide) ?_
                                refine W.widen (k := cl + 3) (n := sl + 18) (by omega) (by omega) ?_
                                exact ih_113 σ53 (x1 + 1) (cl + 3) (sl + 18) ce se _ _ _ _ hf (by omega) (by omega) hcm hsm kx kk hW hS (lv_sub hl [1, 0] rfl)
                              · have hf := ifn h54 hf
                                refine lv_iconst (v := 0) hx hb dL_games_149 (by decide) ?_
                                cases hf
                                have h9 := kx _ rfl
                                cases h9
                                refine W.widen (k := 362) (n := 13948) (by omega) (by omega) ?_
                                exact W.zret (ty := .boolean) hx hb hr (by decide) (fun u hu _ => ⟨rfl, by rw [hu]; exact hS.1, fun q hq => by rw [hu]; exact hS.2.1 q (by omega) (Nat.not_le.mpr hq)⟩) hS.2.2 dL_games_150
                            · have hf := ifp h46 hf
                              refine lv_iconst (v := 0) hx hb dL_games_136 (by decide) ?_
                              refine lv_goto (tgt := 141) hx hb dL_games_137 (by decide) ?_
                              refine lv_iconst (v := 2) hx hb dL_games_141 (by decide) ?_
                              obtain ⟨y47, σ49, u48, hf⟩ := bn2_e hf
                              refine lVXn (n := 3) (As := [.int 9, .int 0, .int 2]) (rest := []) (c_X4_come l hfl D t b τ 9 0 2 (.inr (y47, σ49)) u48) hx hb hml hown hts hE hsub hW hS q525 q526 q527 q34 q528 hy_X4_come ⟨rfl, rfl⟩ ⟨Nat.le_of_ble_eq_true rfl, Nat.le_of_ble_eq_true rfl⟩ rfl rfl hl.1 (Nat.le_of_ble_eq_true rfl) ⟨show cl + 0 + 3 ≤ 362 by omega, show sl + 0 + 18 ≤ 13948 by omega⟩ dL_games_142 (fun H locs hW hS _ => ?_)
                              refine W.widen (k := cl + 3) (n := sl + 18) (by omega) (by omega) ?_
                              refine lv_iload_n hx hb dL_games_145 rfl (lv_at hl 1 rfl) ?_
                              refine lv_icmp_eq (tgt := 151) hx hb dL_games_146 (by decide) (fun h50 => ?_) (fun h50 => ?_)
                              · have hf := ifp h50 hf
                                refine lv_iinc (v := (x1 + 1)) (lv' := [(1, .int (x1 + 1)), (0, .ref (b + 0))]) hx hb dL_games_151 hl (k := 1) rfl (by rfl) (by decide) rfl (fun ls hl => ?_)
                                refine lv_goto (tgt := 113) hx hb dL_games_154 (by decide) ?_
                                refine W.widen (k := cl + 3) (n := sl + 18) (by omega) (by omega) ?_
                                exact ih_113 σ49 (x1 + 1) (cl + 3) (sl + 18) ce se _ _ _ _ hf (by omega) (by omega) hcm hsm kx kk hW hS (lv_sub hl [1, 0] rfl)
                              · have hf := ifn h50 hf
                                refine lv_iconst (v := 0) hx hb dL_games_149 (by decide) ?_
                                cases hf
                                have h9 := kx _ rfl
                                cases h9
                                refine W.widen (k := 362) (n := 13948) (by omega) (by omega) ?_
                                exact W.zret (ty := .boolean) hx hb hr (by decide) (fun u hu _ => ⟨rfl, by rw [hu]; exact hS.1, fun q hq => by rw [hu]; exact hS.2.1 q (by omega) (Nat.not_le.mpr hq)⟩) hS.2.2 dL_games_150
                          · have hf := ifp h36 hf
                            refine lv_iconst (v := 0) hx hb dL_games_124 (by decide) ?_
                            refine lv_goto (tgt := 130) hx hb dL_games_125 (by decide) ?_
                            refine lv_iload_n hx hb dL_games_130 rfl (lv_at hl 1 rfl) ?_
                            refine lv_iconst (v := 2) hx hb dL_games_131 (by decide) ?_
                            refine lv_irem hx hb dL_games_132 (by decide) ?_
                            refine lv_if_ne (tgt := 140) hx hb dL_games_133 (by decide) (fun h37 => ?_) (fun h37 => ?_)
                            · have hf := ifn h37 hf
                              refine lv_iconst (v := 1) hx hb dL_games_140 (by decide) ?_
                              refine lv_iconst (v := 2) hx hb dL_games_141 (by decide) ?_
                              obtain ⟨y42, σ44, u43, hf⟩ := bn2_e hf
                              refine lVXn (n := 3) (As := [.int 0, .int 1, .int 2]) (rest := []) (c_X4_come l hfl D t b τ 0 1 2 (.inr (y42, σ44)) u43) hx hb hml hown hts hE hsub hW hS q525 q526 q527 q34 q528 hy_X4_come ⟨rfl, rfl⟩ ⟨Nat.le_of_ble_eq_true rfl, Nat.le_of_ble_eq_true rfl⟩ rfl rfl hl.1 (Nat.le_of_ble_eq_true rfl) ⟨show cl + 0 + 3 ≤ 362 by omega, show sl + 0 + 18 ≤ 13948 by omega⟩ dL_games_142 (fun H locs hW hS _ => ?_)
                              refine W.widen (k := cl + 3) (n := sl + 18) (by omega) (by omega) ?_
                              refine lv_iload_n hx hb dL_games_145 rfl (lv_at hl 1 rfl) ?_
                              refine lv_icmp_eq (tgt := 151) hx hb dL_games_146 (by decide) (fun h45 => ?_) (fun h45 => ?_)
                              · have hf := ifp h45 hf
                                refine lv_iinc (v := (x1 + 1)) (lv' := [(1, .int (x1 + 1)), (0, .ref (b + 0))]) hx hb dL_games_151 hl (k := 1) rfl (by rfl) (by decide) rfl (fun ls hl => ?_)
                                refine lv_goto (tgt := 113) hx hb dL_games_154 (by decide) ?_
                                refine W.widen (k := cl + 3) (n := sl + 18) (by omega) (by omega) ?_
                                exact ih_113 σ44 (x1 + 1) (cl + 3) (sl + 18) ce se _ _ _ _ hf (by omega) (by omega) hcm hsm kx kk hW hS (lv_sub hl [1, 0] rfl)
                              · have hf := ifn h45 hf
                                refine lv_iconst (v := 0) hx hb dL_games_149 (by decide) ?_
                                cases hf
                                have h9 := kx _ rfl
                                cases h9
                                refine W.widen (k := 362) (n := 13948) (by omega) (by omega) ?_
                                exact W.zret (ty := .boolean) hx hb hr (by decide) (fun u hu _ => ⟨rfl, by rw [hu]; exact hS.1, fun q hq => by rw [hu]; exact hS.2.1 q (by omega) (Nat.not_le.mpr hq)⟩) hS.2.2 dL_games_150
                            · have hf := ifp h37 hf
                              refine lv_iconst (v := 0) hx hb dL_games_136 (by decide) ?_
                              refine lv_goto (tgt := 141) hx hb dL_games_137 (by decide) ?_
                              refine lv_iconst (v := 2) hx hb dL_games_141 (by decide) ?_
                              obtain ⟨y38, σ40, u39, hf⟩ := bn2_e hf
                              refine lVXn (n := 3) (As := [.int 0, .int 0, .int 2]) (rest := []) (c_X4_come l hfl D t b τ 0 0 2 (.inr (y38, σ40)) u39) hx hb hml hown hts hE hsub hW hS q525 q526 q527 q34 q528 hy_X4_come ⟨rfl, rfl⟩ ⟨Nat.le_of_ble_eq_true rfl, Nat.le_of_ble_eq_true rfl⟩ rfl rfl hl.1 (Nat.le_of_ble_eq_true rfl) ⟨show cl + 0 + 3 ≤ 362 by omega, show sl + 0 + 18 ≤ 13948 by omega⟩ dL_games_142 (fun H locs hW hS _ => ?_)
                              refine W.widen (k := cl + 3) (n := sl + 18) (by omega) (by omega) ?_
                              refine lv_iload_n hx hb dL_games_145 rfl (lv_at hl 1 rfl) ?_
                              refine lv_icmp_eq (tgt := 151) hx hb dL_games_146 (by decide) (fun h41 => ?_) (fun h41 => ?_)
                              · have hf := ifp h41 hf
                                refine lv_iinc (v := (x1 + 1)) (lv' := [(1, .int (x1 + 1)), (0, .ref (b + 0))]) hx hb dL_games_151 hl (k := 1) rfl (by rfl) (by decide) rfl (fun ls hl => ?_)
                                refine lv_goto (tgt := 113) hx hb dL_games_154 (by decide) ?_
                                refine W.widen (k := cl + 3) (n := sl + 18) (by omega) (by omega) ?_
                                exact ih_113 σ40 (x1 + 1) (cl + 3) (sl + 18) ce se _ _ _ _ hf (by omega) (by omega) hcm hsm kx kk hW hS (lv_sub hl [1, 0] rfl)
                              · have hf := ifn h41 hf
                                refine lv_iconst (v := 0) hx hb dL_games_149 (by decide) ?_
                                cases hf
                                have h9 := kx _ rfl
                                cases h9
                                refine W.widen (k := 362) (n := 13948) (by omega) (by omega) ?_
                                exact W.zret (ty := .boolean) hx hb hr (by decide) (fun u hu _ => ⟨rfl, by rw [hu]; exact hS.1, fun q hq => by rw [hu]; exact hS.2.1 q (by omega) (Nat.not_le.mpr hq)⟩) hS.2.2 dL_games_150
                    refine key_113 6 σ27 0 (239) (13210) (257) (13318) _ _ _ res hl0 (by omega) (by omega) (show 257 ≤ 362 by omega) (show 13318 ≤ 13948 by omega) (fun a h => hA a h) (fun q113 hq H locs ls hW hS hl => ?_) hW hS (lv_sub hl [1, 0] rfl)
                    have hf := hB _ hq
                    refine lv_aload_n hx hb dL_games_157 rfl (lv_at hl 0 rfl) ?_
                    refine lv_iconst (v := 0) hx hb dL_games_158 (by decide) ?_
                    obtain ⟨y55, u56, hf⟩ := bn1_e hf
                    refine lVXn (n := 1) (As := [.int 0]) (rest := []) (c_X4_crowdOn l hfl D t b q113 0 (.inr y55) u56) hx hb hml hown hts hE hsub hW hS q810 q811 q812 q34 q813 hy_X4_crowdOn ⟨rfl, rfl⟩ ⟨Nat.le_of_ble_eq_true rfl, Nat.le_of_ble_eq_true rfl⟩ rfl rfl hl.1 (Nat.le_of_ble_eq_true rfl) ⟨show 257 + 1 ≤ 362 by omega, show 13318 + 6 ≤ 13948 by omega⟩ dL_games_159 (fun H locs hW hS _ => ?_)
                    refine W.widen (k := 258) (n := 13324) (by omega) (by omega) ?_
                    refine lv_iconst (v := 5) hx hb dL_games_162 (by decide) ?_
                    refine lv_icmp_ne (tgt := 401) hx hb dL_games_163 (by decide) (fun h57 => ?_) (fun h57 => ?_)
                    · have hf := ifn h57 hf
                      refine lv_iconst (v := 0) hx hb dL_games_401 (by decide) ?_
                      cases hf
                      refine W.widen (k := 362) (n := 13948) (by omega) (by omega) ?_
                      exact W.zret (ty := .boolean) hx hb hr (by decide) (fun u hu _ => ⟨rfl, by rw [hu]; exact hS.1, fun q hq => by rw [hu]; exact hS.2.1 q (by omega) (Nat.not_le.mpr hq)⟩) hS.2.2 dL_games_402
                    · have hf := ifp h57 hf
                      refine lv_aload_n hx hb dL_games_166 rfl (lv_at hl 0 rfl) ?_
                      refine lv_iconst (v := 4) hx hb dL_games_167 (by decide) ?_
                      obtain ⟨y58, u59, hf⟩ := bn1_e hf
                      refine lVXn (n := 1) (As := [.int 4]) (rest := []) (c_X4_whyNoPlay l hfl D t b q113 4 (.inr y58) u59) hx hb hml hown hts hE hsub hW hS q795 q796 q797 q34 q798 hy_X4_whyNoPlay ⟨rfl, rfl⟩ ⟨Nat.le_of_ble_eq_true rfl, Nat.le_of_ble_eq_true rfl⟩ rfl rfl hl.1 (Nat.le_of_ble_eq_true rfl) ⟨show 258 + 1 ≤ 362 by omega, show 13324 + 6 ≤ 13948 by omega⟩ dL_games_168 (fun H locs hW hS _ => ?_)
                      refine W.widen (k := 259) (n := 13330) (by omega) (by omega) ?_
                      refine lv_iconst (v := 3) hx hb dL_games_171 (by decide) ?_
                      refine lv_icmp_ne (tgt := 401) hx hb dL_games_172 (by decide) (fun h60 => ?_) (fun h60 => ?_)
                      · have hf := ifn h60 hf
                        refine lv_iconst (v := 0) hx hb dL_games_401 (by decide) ?_
                        cases hf
                        refine W.widen (k := 362) (n := 13948) (by omega) (by omega) ?_
                        exact W.zret (ty := .boolean) hx hb hr (by decide) (fun u hu _ => ⟨rfl, by rw [hu]; exact hS.1, fun q hq => by rw [hu]; exact hS.2.1 q (by omega) (Nat.not_le.mpr hq)⟩) hS.2.2 dL_games_402
                      · have hf := ifp h60 hf
                        refine lv_aload_n hx hb dL_games_175 rfl (lv_at hl 0 rfl) ?_
                        refine lv_iconst (v := 1) hx hb dL_games_176 (by decide) ?_
                        obtain ⟨y61, σ63, u62, hf⟩ := bn2_e hf
                        refine lVXn (n := 1) (As := [.int 1]) (rest := []) (c_X4_pass l hfl D t b q113 1 (.inr (y61, σ63)) u62) hx hb hml hown hts hE hsub hW hS q616 q617 q618 q34 q619 hy_X4_pass ⟨rfl, rfl⟩ ⟨Nat.le_of_ble_eq_true rfl, Nat.le_of_ble_eq_true rfl⟩ rfl rfl hl.1 (Nat.le_of_ble_eq_true rfl) ⟨show 259 + 1 ≤ 362 by omega, show 13330 + 6 ≤ 13948 by omega⟩ dL_games_177 (fun H locs hW hS _ => ?_)
                        refine W.widen (k := 260) (n := 13336) (by omega) (by omega) ?_
                        refine lv_iconst (v := 1) hx hb dL_games_180 (by decide) ?_
                        refine lv_icmp_ne (tgt := 401) hx hb dL_games_181 (by decide) (fun h64 => ?_) (fun h64 => ?_)
                        · have hf := ifn h64 hf
                          refine lv_iconst (v := 0) hx hb dL_games_401 (by decide) ?_
                          cases hf
                          refine W.widen (k := 362) (n := 13948) (by omega) (by omega) ?_
                          exact W.zret (ty := .boolean) hx hb hr (by decide) (fun u hu _ => ⟨rfl, by rw [hu]; exact hS.1, fun q hq => by rw [hu]; exact hS.2.1 q (by omega) (Nat.not_le.mpr hq)⟩) hS.2.2 dL_games_402
                        · have hf := ifp h64 hf
                          refine lv_aload_n hx hb dL_games_184 rfl (lv_at hl 0 rfl) ?_
                          refine lv_iconst (v := 0) hx hb dL_games_185 (by decide) ?_
                          refine lv_bipush (v := 8) hx hb dL_games_186 (by decide) ?_
                          refine lv_bipush (v := 52) hx hb dL_games_188 (by decide) ?_
                          refine lv_iconst (v := 0) hx hb dL_games_190 (by decide) ?_
                          refine lv_iconst (v := 0) hx hb dL_games_191 (by decide) ?_
                          refine lv_iconst (v := 0) hx hb dL_games_192 (by decide) ?_
                          obtain ⟨y65, σ67, u66, hf⟩ := b2_e hf
                          refine lS (n := 7) (As := [.ref (b + 0), .int 0, .int 8, .int 52, .int 0, .int 0, .int 0]) (rest := []) (c_L_is l hfl D t b σ63 0 8 52 0 0 0 y65 σ67 u66) hx hb hml hown hts hE hsub hW hS q1030 q1031 q33  q1032 hs_L_is ⟨rfl, rfl⟩ ⟨Nat.le_of_ble_eq_true rfl, Nat.le_of_ble_eq_true rfl⟩ rfl rfl hl.1 (Nat.le_of_ble_eq_true rfl) ⟨show 260 + 6 ≤ 362 by omega, show 13336 + 36 ≤ 13948 by omega⟩ dL_games_193 (fun H locs hW hS _ => ?_)
                          refine W.widen (k := 266) (n := 13372) (by omega) (by omega) ?_
                          refine lv_if_eq (tgt := 401) hx hb dL_games_196 (by decide) (fun h68 => ?_) (fun h68 => ?_)
                          · have hf := ifp h68 hf
                            refine lv_iconst (v := 0) hx hb dL_games_401 (by decide) ?_
                            cases hf
                            refine W.widen (k := 362) (n := 13948) (by omega) (by omega) ?_
                            exact W.zret (ty := .boolean) hx hb hr (by decide) (fun u hu _ => ⟨rfl, by rw [hu]; exact hS.1, fun q hq => by rw [hu]; exact hS.2.1 q (by omega) (Nat.not_le.mpr hq)⟩) hS.2.2 dL_games_402
                          · have hf := ifn h68 hf
                            refine lv_aload_n hx hb dL_games_199 rfl (lv_at hl 0 rfl) ?_
                            refine lv_iconst (v := 1) hx hb dL_games_200 (by decide) ?_
                            obtain ⟨y69, u70, hf⟩ := bn1_e hf
                            refine lVXn (n := 1) (As := [.int 1]) (rest := []) (c_X4_placeOf l hfl D t b σ67 1 (.inr y69) u70) hx hb hml hown hts hE hsub hW hS q783 q784 q785 q34 q786 hy_X4_placeOf ⟨rfl, rfl⟩ ⟨Nat.le_of_ble_eq_true rfl, Nat.le_of_ble_eq_true rfl⟩ rfl rfl hl.1 (Nat.le_of_ble_eq_true rfl) ⟨show 266 + 1 ≤ 362 by omega, show 13372 + 6 ≤ 13948 by omega⟩ dL_games_201 (fun H locs hW hS _ => ?_)
                            refine W.widen (k := 267) (n := 13378) (by omega) (by omega) ?_
                            refine lv_iconst (v := 1) hx hb dL_games_204 (by decide) ?_
                            refine lv_icmp_ne (tgt := 401) hx hb dL_games_205 (by decide) (fun h71 => ?_) (fun h71 => ?_)
                            · have hf := ifn h71 hf
                              refine lv_iconst (v := 0) hx hb dL_games_401 (by decide) ?_
                              cases hf
                              refine W.widen (k := 362) (n := 13948) (by omega) (by omega) ?_
                              exact W.zret (ty := .boolean) hx hb hr (by decide) (fun u hu _ => ⟨rfl, by rw [hu]; exact hS.1, fun q hq => by rw [hu]; exact hS.2.1 q (by omega) (Nat.not_le.mpr hq)⟩) hS.2.2 dL_games_402
                            · have hf := ifp h71 hf
                              refine lv_aload_n hx hb dL_games_208 rfl (lv_at hl 0 rfl) ?_
                              refine lv_iconst (v := 4) hx hb dL_games_209 (by decide) ?_
                              obtain ⟨y72, u73, hf⟩ := bn1_e hf
                              refine lVXn (n := 1) (As := [.int 4]) (rest := []) (c_X4_placeOf l hfl D t b σ67 4 (.inr y72) u73) hx hb hml hown hts hE hsub hW hS q783 q784 q785 q34 q786 hy_X4_placeOf ⟨rfl, rfl⟩ ⟨Nat.le_of_ble_eq_true rfl, Nat.le_of_ble_eq_true rfl⟩ rfl rfl hl.1 (Nat.le_of_ble_eq_true rfl) ⟨show 267 + 1 ≤ 362 by omega, show 13378 + 6 ≤ 13948 by omega⟩ dL_games_210 (fun H locs hW hS _ => ?_)
                              refine W.widen (k := 268) (n := 13384) (by omega) (by omega) ?_
                              refine lv_iconst (v := 1) hx hb dL_games_213 (by decide) ?_
                              refine lv_icmp_ne (tgt := 401) hx hb dL_games_214 (by decide) (fun h74 => ?_) (fun h74 => ?_)
                              · have hf := ifn h74 hf
                                refine lv_iconst (v := 0) hx hb dL_games_401 (by decide) ?_
                                cases hf
                                refine W.widen (k := 362) (n := 13948) (by omega) (by omega) ?_
                                exact W.zret (ty := .boolean) hx hb hr (by decide) (fun u hu _ => ⟨rfl, by rw [hu]; exact hS.1, fun q hq => by rw [hu]; exact hS.2.1 q (by omega) (Nat.not_le.mpr hq)⟩) hS.2.2 dL_games_402
                              · have hf := ifp h74 hf
                                refine lv_aload_n hx hb dL_games_217 rfl (lv_at hl 0 rfl) ?_
                                refine lv_iconst (v := 1) hx hb dL_games_218 (by decide) ?_
                                obtain ⟨y75, u76, hf⟩ := bn1_e hf
                                refine lVXn (n := 1) (As := [.int 1]) (rest := []) (c_X4_crowdOn l hfl D t b σ67 1 (.inr y75) u76) hx hb hml hown hts hE hsub hW hS q810 q811 q812 q34 q813 hy_X4_crowdOn ⟨rfl, rfl⟩ ⟨Nat.le_of_ble_eq_true rfl, Nat.le_of_ble_eq_true rfl⟩ rfl rfl hl.1 (Nat.le_of_ble_eq_true rfl) ⟨show 268 + 1 ≤ 362 by omega, show 13384 + 6 ≤ 13948 by omega⟩ dL_games_219 (fun H locs hW hS _ => ?_)
                                refine W.widen (k := 269) (n := 13390) (by omega) (by omega) ?_
                                refine lv_iconst (v := 4) hx hb dL_games_222 (by decide) ?_
                                refine lv_icmp_ne (tgt := 401) hx hb dL_games_223 (by decide) (fun h77 => ?_) (fun h77 => ?_)
                                · have hf := ifn h77 hf
                                  refine lv_iconst (v := 0) hx hb dL_games_401 (by decide) ?_
                                  cases hf
                                  refine W.widen (k := 362) (n := 13948) (by omega) (by omega) ?_
                                  exact W.zret (ty := .boolean) hx hb hr (by decide) (fun u hu _ => ⟨rfl, by rw [hu]; exact hS.1, fun q hq => by rw [hu]; exact hS.2.1 q (by omega) (Nat.not_le.mpr hq)⟩) hS.2.2 dL_games_402
                                · have hf := ifp h77 hf
                                  refine lv_aload_n hx hb dL_games_226 rfl (lv_at hl 0 rfl) ?_
                                  refine lv_iconst (v := 1) hx hb dL_games_227 (by decide) ?_
                                  obtain ⟨y78, σ80, u79, hf⟩ := bn2_e hf
                                  refine lVXn (n := 1) (As := [.int 1]) (rest := []) (c_X4_pass l hfl D t b σ67 1 (.inr (y78, σ80)) u79) hx hb hml hown hts hE hsub hW hS q616 q617 q618 q34 q619 hy_X4_pass ⟨rfl, rfl⟩ ⟨Nat.le_of_ble_eq_true rfl, Nat.le_of_ble_eq_true rfl⟩ rfl rfl hl.1 (Nat.le_of_ble_eq_true rfl) ⟨show 269 + 1 ≤ 362 by omega, show 13390 + 6 ≤ 13948 by omega⟩ dL_games_228 (fun H locs hW hS _ => ?_)
                                  refine W.widen (k := 270) (n := 13396) (by omega) (by omega) ?_
                                  refine lv_iconst (v := 1) hx hb dL_games_231 (by decide) ?_
                                  refine lv_icmp_ne (tgt := 401) hx hb dL_games_232 (by decide) (fun h81 => ?_) (fun h81 => ?_)
                                  · have hf := ifn h81 hf
                                    refine lv_iconst (v := 0) hx hb dL_games_401 (by decide) ?_
                                    cases hf
                                    refine W.widen (k := 362) (n := 13948) (by omega) (by omega) ?_
                                    exact W.zret (ty := .boolean) hx hb hr (by decide) (fun u hu _ => ⟨rfl, by rw [hu]; exact hS.1, fun q hq => by rw [hu]; exact hS.2.1 q (by omega) (Nat.not_le.mpr hq)⟩) hS.2.2 dL_games_402
                                  · have hf := ifp h81 hf
                                    refine lv_aload_n hx hb dL_games_235 rfl (lv_at hl 0 rfl) ?_
                                    refine lv_iconst (v := 0) hx hb dL_games_236 (by decide) ?_
                                    refine lv_bipush (v := 7) hx hb dL_games_237 (by decide) ?_
                                    refine lv_bipush (v := 44) hx hb dL_games_239 (by decide) ?_
                                    refine lv_iconst (v := 0) hx hb dL_games_241 (by decide) ?_
                                    refine lv_iconst (v := 0) hx hb dL_games_242 (by decide) ?_
                                    refine lv_iconst (v := 4) hx hb dL_games_243 (by decide) ?_
                                    obtain ⟨y82, σ84, u83, hf⟩ := b2_e hf
                                    refine lS (n := 7) (As := [.ref (b + 0), .int 0, .int 7, .int 44, .int 0, .int 0, .int 4]) (rest := []) (c_L_is l hfl D t b σ80 0 7 44 0 0 4 y82 σ84 u83) hx hb hml hown hts hE hsub hW hS q1030 q1031 q33  q1032 hs_L_is ⟨rfl, rfl⟩ ⟨Nat.le_of_ble_eq_true rfl, Nat.le_of_ble_eq_true rfl⟩ rfl rfl hl.1 (Nat.le_of_ble_eq_true rfl) ⟨show 270 + 6 ≤ 362 by omega, show 13396 + 36 ≤ 13948 by omega⟩ dL_games_244 (fun H locs hW hS _ => ?_)
                                    refine W.widen (k := 276) (n := 13432) (by omega) (by omega) ?_
                                    refine lv_if_eq (tgt := 401) hx hb dL_games_247 (by decide) (fun h85 => ?_) (fun h85 => ?_)
                                    · have hf := ifp h85 hf
                                      refine lv_iconst (v := 0) hx hb dL_games_401 (by decide) ?_
                                      cases hf
                                      refine W.widen (k := 362) (n := 13948) (by omega) (by omega) ?_
                                      exact W.zret (ty := .boolean) hx hb hr (by decide) (fun u hu _ => ⟨rfl, by rw [hu]; exact hS.1, fun q hq => by rw [hu]; exact hS.2.1 q (by omega) (Nat.not_le.mpr hq)⟩) hS.2.2 dL_games_402
                                    · have hf := ifn h85 hf
                                      refine lv_aload_n hx hb dL_games_250 rfl (lv_at hl 0 rfl) ?_
                                      obtain ⟨y86, u87, hf⟩ := b1_e hf
                                      refine lV (n := 0) (As := []) (rest := []) (c_X4_sulkers l D t b σ84 y86 u87) hx hb hml hown hts hE hsub hW hS q1040 q1041 q1042 q34 q1043 hy_X4_sulkers ⟨rfl, rfl⟩ ⟨Nat.le_of_ble_eq_true rfl, Nat.le_of_ble_eq_true rfl⟩ rfl rfl hl.1 (Nat.le_of_ble_eq_true rfl) ⟨show 276 ≤ 362 by omega, show 13432 ≤ 13948 by omega⟩ dL_games_251 (fun H locs hW hS _ => ?_)
                                      refine lv_iconst (v := 1) hx hb dL_games_254 (by decide) ?_
                                      refine lv_icmp_ne (tgt := 401) hx hb dL_games_255 (by decide) (fun h88 => ?_) (fun h88 => ?_)
                                      · have hf := ifn h88 hf
                                        refine lv_iconst (v := 0) hx hb dL_games_401 (by decide) ?_
                                        cases hf
                                        refine W.widen (k := 362) (n := 13948) (by omega) (by omega) ?_
                                        exact W.zret (ty := .boolean) hx hb hr (by decide) (fun u hu _ => ⟨rfl, by rw [hu]; exact hS.1, fun q hq => by rw [hu]; exact hS.2.1 q (by omega) (Nat.not_le.mpr hq)⟩) hS.2.2 dL_games_402
                                      · have hf := ifp h88 hf
                                        refine lv_aload_n hx hb dL_games_258 rfl (lv_at hl 0 rfl) ?_
                                        obtain ⟨y89, u90, hf⟩ := b1_e hf
                                        refine lV (n := 0) (As := []) (rest := []) (c_X4_happiest l D t b σ84 y89 u90) hx hb hml hown hts hE hsub hW hS q1010 q1011 q1012 q34 q1013 hy_X4_happiest ⟨rfl, rfl⟩ ⟨Nat.le_of_ble_eq_true rfl, Nat.le_of_ble_eq_true rfl⟩ rfl rfl hl.1 (Nat.le_of_ble_eq_true rfl) ⟨show 276 ≤ 362 by omega, show 13432 ≤ 13948 by omega⟩ dL_games_259 (fun H locs hW hS _ => ?_)
                                        refine lv_iconst (v := 1) hx hb dL_games_262 (by decide) ?_
                                        refine lv_icmp_ne (tgt := 401) hx hb dL_games_263 (by decide) (fun h91 => ?_) (fun h91 => ?_)
                                        · have hf := ifn h91 hf
                                          refine lv_iconst (v := 0) hx hb dL_games_401 (by decide) ?_
                                          cases hf
                                          refine W.widen (k := 362) (n := 13948) (by omega) (by omega) ?_
                                          exact W.zret (ty := .boolean) hx hb hr (by decide) (fun u hu _ => ⟨rfl, by rw [hu]; exact hS.1, fun q hq => by rw [hu]; exact hS.2.1 q (by omega) (Nat.not_le.mpr hq)⟩) hS.2.2 dL_games_402
                                        · have hf := ifp h91 hf
                                          refine lv_aload_n hx hb dL_games_266 rfl (lv_at hl 0 rfl) ?_
                                          refine lv_iconst (v := 0) hx hb dL_games_267 (by decide) ?_
                                          obtain ⟨y92, u93, hf⟩ := bn1_e hf
                                          refine lVXn (n := 1) (As := [.int 0]) (rest := []) (c_X4_playsToWin l hfl D t b σ84 0 (.inr y92) u93) hx hb hml hown hts hE hsub hW hS q744 q745 q746 q34 q747 hy_X4_playsToWin ⟨rfl, rfl⟩ ⟨Nat.le_of_ble_eq_true rfl, Nat.le_of_ble_eq_true rfl⟩ rfl rfl hl.1 (Nat.le_of_ble_eq_true rfl) ⟨show 276 + 1 ≤ 362 by omega, show 13432 + 6 ≤ 13948 by omega⟩ dL_games_268 (fun H locs hW hS _ => ?_)
                                          refine W.widen (k := 277) (n := 13438) (by omega) (by omega) ?_
                                          refine lv_iconst (v := 2) hx hb dL_games_271 (by decide) ?_
                                          refine lv_icmp_ne (tgt := 401) hx hb dL_games_272 (by decide) (fun h94 => ?_) (fun h94 => ?_)
                                          · have hf := ifn h94 hf
                                            refine lv_iconst (v := 0) hx hb dL_games_401 (by decide) ?_
                                            cases hf
                                            refine W.widen (k := 362) (n := 13948) (by omega) (by omega) ?_
                                            exact W.zret (ty := .boolean) hx hb hr (by decide) (fun u hu _ => ⟨rfl, by rw [hu]; exact hS.1, fun q hq => by rw [hu]; exact hS.2.1 q (by omega) (Nat.not_le.mpr hq)⟩) hS.2.2 dL_games_402
                                          · have hf := ifp h94 hf
                                            refine lv_aload_n hx hb dL_games_275 rfl (lv_at hl 0 rfl) ?_
                                            refine lv_bipush (v := 9) hx hb dL_games_276 (by decide) ?_
                                            refine lv_iconst (v := 4) hx hb dL_games_278 (by decide) ?_
                                            refine lv_iconst (v := 2) hx hb dL_games_279 (by decide) ?_
                                            obtain ⟨y95, σ97, u96, hf⟩ := bn2_e hf
                                            refine lVXn (n := 3) (As := [.int 9, .int 4, .int 2]) (rest := []) (c_X4_come l hfl D t b σ84 9 4 2 (.inr (y95, σ97)) u96) hx hb hml hown hts hE hsub hW hS q525 q526 q527 q34 q528 hy_X4_come ⟨rfl, rfl⟩ ⟨Nat.le_of_ble_eq_true rfl, Nat.le_of_ble_eq_true rfl⟩ rfl rfl hl.1 (Nat.le_of_ble_eq_true rfl) ⟨show 277 + 3 ≤ 362 by omega, show 13438 + 18 ≤ 13948 by omega⟩ dL_games_280 (fun H locs hW hS _ => ?_)
                                            refine W.widen (k := 280) (n := 13456) (by omega) (by omega) ?_
                                            refine lv_iconst (v := 5) hx hb dL_games_283 (by decide) ?_
                                            refine lv_icmp_ne (tgt := 401) hx hb dL_games_284 (by decide) (fun h98 => ?_) (fun h98 => ?_)
                                            · have hf := ifn h98 hf
                                              refine lv_iconst (v := 0) hx hb dL_games_401 (by decide) ?_
                                              cases hf
                                              refine W.widen (k := 362) (n := 13948) (by omega) (by omega) ?_
                                              exact W.zret (ty := .boolean) hx hb hr (by decide) (fun u hu _ => ⟨rfl, by rw [hu]; exact hS.1, fun q hq => by rw [hu]; exact hS.2.1 q (by omega) (Nat.not_le.mpr hq)⟩) hS.2.2 dL_games_402
                                            · have hf := ifp h98 hf
                                              refine lv_aload_n hx hb dL_games_287 rfl (lv_at hl 0 rfl) ?_
                                              refine lv_iconst (v := 1) hx hb dL_games_288 (by decide) ?_
                                              obtain ⟨y99, σ101, u100, hf⟩ := bn2_e hf
                                              refine lVXn (n := 1) (As := [.int 1]) (rest := []) (c_X4_pass l hfl D t b σ97 1 (.inr (y99, σ101)) u100) hx hb hml hown hts hE hsub hW hS q616 q617 q618 q34 q619 hy_X4_pass ⟨rfl, rfl⟩ ⟨Nat.le_of_ble_eq_true rfl, Nat.le_of_ble_eq_true rfl⟩ rfl rfl hl.1 (Nat.le_of_ble_eq_true rfl) ⟨show 280 + 1 ≤ 362 by omega, show 13456 + 6 ≤ 13948 by omega⟩ dL_games_289 (fun H locs hW hS _ => ?_)
                                              refine W.widen (k := 281) (n := 13462) (by omega) (by omega) ?_
                                              refine lv_iconst (v := 1) hx hb dL_games_292 (by decide) ?_
                                              refine lv_icmp_ne (tgt := 401) hx hb dL_games_293 (by decide) (fun h102 => ?_) (fun h102 => ?_)
                                              · have hf := ifn h102 hf
                                                refine lv_iconst (v := 0) hx hb dL_games_401 (by decide) ?_
                                                cases hf
                                                refine W.widen (k := 362) (n := 13948) (by omega) (by omega) ?_
                                                exact W.zret (ty := .boolean) hx hb hr (by decide) (fun u hu _ => ⟨rfl, by rw [hu]; exact hS.1, fun q hq => by rw [hu]; exact hS.2.1 q (by omega) (Nat.not_le.mpr hq)⟩) hS.2.2 dL_games_402
                                              · have hf := ifp h102 hf
                                                refine lv_aload_n hx hb dL_games_296 rfl (lv_at hl 0 rfl) ?_
                                                refine lv_iconst (v := 0) hx hb dL_games_297 (by decide) ?_
                                                obtain ⟨y103, u104, hf⟩ := bn1_e hf
                                                refine lVXn (n := 1) (As := [.int 0]) (rest := []) (c_X4_placeOf l hfl D t b σ101 0 (.inr y103) u104) hx hb hml hown hts hE hsub hW hS q783 q784 q785 q34 q786 hy_X4_placeOf ⟨rfl, rfl⟩ ⟨Nat.le_of_ble_eq_true rfl, Nat.le_of_ble_eq_true rfl⟩ rfl rfl hl.1 (Nat.le_of_ble_eq_true rfl) ⟨show 281 + 1 ≤ 362 by omega, show 13462 + 6 ≤ 13948 by omega⟩ dL_games_298 (fun H locs hW hS _ => ?_)
                                                refine W.widen (k := 282) (n := 13468) (by omega) (by omega) ?_
                                                refine lv_iconst (v := 1) hx hb dL_games_301 (by decide) ?_
                                                refine lv_icmp_ne (tgt := 401) hx hb dL_games_302 (by decide) (fun h105 => ?_) (fun h105 => ?_)
                                                · have hf := ifn h105 hf
                                                  refine lv_iconst (v := 0) hx hb dL_games_401 (by decide) ?_
                                                  cases hf
                                                  refine W.widen (k := 362) (n := 13948) (by omega) (by omega) ?_
                                                  exact W.zret (ty := .boolean) hx hb hr (by decide) (fun u hu _ => ⟨rfl, by rw [hu]; exact hS.1, fun q hq => by rw [hu]; exact hS.2.1 q (by omega) (Nat.not_le.mpr hq)⟩) hS.2.2 dL_games_402
                                                · have hf := ifp h105 hf
                                                  refine lv_aload_n hx hb dL_games_305 rfl (lv_at hl 0 rfl) ?_
                                                  refine lv_iconst (v := 5) hx hb dL_games_306 (by decide) ?_
                                                  refine lv_bipush (v := 8) hx hb dL_games_307 (by decide) ?_
                                                  refine lv_bipush (v := 52) hx hb dL_games_309 (by decide) ?_
                                                  refine lv_iconst (v := 0) hx hb dL_games_311 (by decide) ?_
                                                  refine lv_iconst (v := 0) hx hb dL_games_312 (by decide) ?_
                                                  refine lv_iconst (v := 0) hx hb dL_games_313 (by decide) ?_
                                                  obtain ⟨y106, σ108, u107, hf⟩ := b2_e hf
                                                  refine lS (n := 7) (As := [.ref (b + 0), .int 5, .int 8, .int 52, .int 0, .int 0, .int 0]) (rest := []) (c_L_is l hfl D t b σ101 5 8 52 0 0 0 y106 σ108 u107) hx hb hml hown hts hE hsub hW hS q1030 q1031 q33  q1032 hs_L_is ⟨rfl, rfl⟩ ⟨Nat.le_of_ble_eq_true rfl, Nat.le_of_ble_eq_true rfl⟩ rfl rfl hl.1 (Nat.le_of_ble_eq_true rfl) ⟨show 282 + 6 ≤ 362 by omega, show 13468 + 36 ≤ 13948 by omega⟩ dL_games_314 (fun H locs hW hS _ => ?_)
                                                  refine W.widen (k := 288) (n := 13504) (by omega) (by omega) ?_
                                                  refine lv_if_eq (tgt := 401) hx hb dL_games_317 (by decide) (fun h109 => ?_) (fun h109 => ?_)
                                                  · have hf := ifp h109 hf
                                                    refine lv_iconst (v := 0) hx hb dL_games_401 (by decide) ?_
                                                    cases hf
                                                    refine W.widen (k := 362) (n := 13948) (by omega) (by omega) ?_
                                                    exact W.zret (ty := .boolean) hx hb hr (by decide) (fun u hu _ => ⟨rfl, by rw [hu]; exact hS.1, fun q hq => by rw [hu]; exact hS.2.1 q (by omega) (Nat.not_le.mpr hq)⟩) hS.2.2 dL_games_402
                                                  · have hf := ifn h109 hf
                                                    refine lv_aload_n hx hb dL_games_320 rfl (lv_at hl 0 rfl) ?_
                                                    refine lv_iconst (v := 0) hx hb dL_games_321 (by decide) ?_
                                                    obtain ⟨y110, u111, hf⟩ := bn1_e hf
                                                    refine lVXn (n := 1) (As := [.int 0]) (rest := []) (c_X4_playsToWin l hfl D t b σ108 0 (.inr y110) u111) hx hb hml hown hts hE hsub hW hS q744 q745 q746 q34 q747 hy_X4_playsToWin ⟨rfl, rfl⟩ ⟨Nat.le_of_ble_eq_true rfl, Nat.le_of_ble_eq_true rfl⟩ rfl rfl hl.1 (Nat.le_of_ble_eq_true rfl) ⟨show 288 + 1 ≤ 362 by omega, show 13504 + 6 ≤ 13948 by omega⟩ dL_games_322 (fun H locs hW hS _ => ?_)
                                                    refine W.widen (k := 289) (n := 13510) (by omega) (by omega) ?_
                                                    refine lv_iconst (v := 1) hx hb dL_games_325 (by decide) ?_
                                                    refine lv_icmp_ne (tgt := 401) hx hb dL_games_326 (by decide) (fun h112 => ?_) (fun h112 => ?_)
                                                    · have hf := ifn h112 hf
                                                      refine lv_iconst (v := 0) hx hb dL_games_401 (by decide) ?_
                                                      cases hf
                                                      refine W.widen (k := 362) (n := 13948) (by omega) (by omega) ?_
                                                      exact W.zret (ty := .boolean) hx hb hr (by decide) (fun u hu _ => ⟨rfl, by rw [hu]; exact hS.1, fun q hq => by rw [hu]; exact hS.2.1 q (by omega) (Nat.not_le.mpr hq)⟩) hS.2.2 dL_games_402
                                                    · have hf := ifp h112 hf
                                                      refine lv_aload_n hx hb dL_games_329 rfl (lv_at hl 0 rfl) ?_
                                                      refine lv_iconst (v := 1) hx hb dL_games_330 (by decide) ?_
                                                      obtain ⟨y113, σ115, u114, hf⟩ := bn2_e hf
                                                      refine lVXn (n := 1) (As := [.int 1]) (rest := []) (c_X4_pass l hfl D t b σ108 1 (.inr (y113, σ115)) u114) hx hb hml hown hts hE hsub hW hS q616 q617 q618 q34 q619 hy_X4_pass ⟨rfl, rfl⟩ ⟨Nat.le_of_ble_eq_true rfl, Nat.le_of_ble_eq_true rfl⟩ rfl rfl hl.1 (Nat.le_of_ble_eq_true rfl) ⟨show 289 + 1 ≤ 362 by omega, show 13510 + 6 ≤ 13948 by omega⟩ dL_games_331 (fun H locs hW hS _ => ?_)
                                                      refine W.widen (k := 290) (n := 13516) (by omega) (by omega) ?_
                                                      refine lv_iconst (v := 1) hx hb dL_games_334 (by decide) ?_
                                                      refine lv_icmp_ne (tgt := 401) hx hb dL_games_335 (by decide) (fun h116 => ?_) (fun h116 => ?_)
                                                      · have hf := ifn h116 hf
                                                        refine lv_iconst (v := 0) hx hb dL_games_401 (by decide) ?_
                                                        cases hf
                                                        refine W.widen (k := 362) (n := 13948) (by omega) (by omega) ?_
                                                        exact W.zret (ty := .boolean) hx hb hr (by decide) (fun u hu _ => ⟨rfl, by rw [hu]; exact hS.1, fun q hq => by rw [hu]; exact hS.2.1 q (by omega) (Nat.not_le.mpr hq)⟩) hS.2.2 dL_games_402
                                                      · have hf := ifp h116 hf
                                                        refine lv_aload_n hx hb dL_games_338 rfl (lv_at hl 0 rfl) ?_
                                                        refine lv_iconst (v := 5) hx hb dL_games_339 (by decide) ?_
                                                        refine lv_bipush (v := 7) hx hb dL_games_340 (by decide) ?_
                                                        refine lv_bipush (v := 72) hx hb dL_games_342 (by decide) ?_
                                                        refine lv_iconst (v := 0) hx hb dL_games_344 (by decide) ?_
                                                        refine lv_iconst (v := 1) hx hb dL_games_345 (by decide) ?_
                                                        refine lv_iconst (v := 4) hx hb dL_games_346 (by decide) ?_
                                                        obtain ⟨y117, σ119, u118, hf⟩ := b2_e hf
                                                        refine lS (n := 7) (As := [.ref (b + 0), .int 5, .int 7, .int 72, .int 0, .int 1, .int 4]) (rest := []) (c_L_is l hfl D t b σ115 5 7 72 0 1 4 y117 σ119 u118) hx hb hml hown hts hE hsub hW hS q1030 q1031 q33  q1032 hs_L_is ⟨rfl, rfl⟩ ⟨Nat.le_of_ble_eq_true rfl, Nat.le_of_ble_eq_true rfl⟩ rfl rfl hl.1 (Nat.le_of_ble_eq_true rfl) ⟨show 290 + 6 ≤ 362 by omega, show 13516 + 36 ≤ 13948 by omega⟩ dL_games_347 (fun H locs hW hS _ => ?_)
                                                        refine W.widen (k := 296) (n := 13552) (by omega) (by omega) ?_
                                                        refine lv_if_eq (tgt := 401) hx hb dL_games_350 (by decide) (fun h120 => ?_) (fun h120 => ?_)
                                                        · have hf := ifp h120 hf
                                                          refine lv_iconst (v := 0) hx hb dL_games_401 (by decide) ?_
                                                          cases hf
                                                          refine W.widen (k := 362) (n := 13948) (by omega) (by omega) ?_
                                                          exact W.zret (ty := .boolean) hx hb hr (by decide) (fun u hu _ => ⟨rfl, by rw [hu]; exact hS.1, fun q hq => by rw [hu]; exact hS.2.1 q (by omega) (Nat.not_le.mpr hq)⟩) hS.2.2 dL_games_402
                                                        · have hf := ifn h120 hf
                                                          refine lv_aload_n hx hb dL_games_353 rfl (lv_at hl 0 rfl) ?_
                                                          refine lv_iconst (v := 2) hx hb dL_games_354 (by decide) ?_
                                                          obtain ⟨y121, u122, hf⟩ := bn1_e hf
                                                          refine lVXn (n := 1) (As := [.int 2]) (rest := []) (c_X4_wonOf l hfl D t b σ119 2 (.inr y121) u122) hx hb hml hown hts hE hsub hW hS q821 q822 q823 q34 q824 hy_X4_wonOf ⟨rfl, rfl⟩ ⟨Nat.le_of_ble_eq_true rfl, Nat.le_of_ble_eq_true rfl⟩ rfl rfl hl.1 (Nat.le_of_ble_eq_true rfl) ⟨show 296 + 1 ≤ 362 by omega, show 13552 + 6 ≤ 13948 by omega⟩ dL_games_355 (fun H locs hW hS _ => ?_)
                                                          refine W.widen (k := 297) (n := 13558) (by omega) (by omega) ?_
                                                          refine lv_iconst (v := 1) hx hb dL_games_358 (by decide) ?_
                                                          refine lv_icmp_ne (tgt := 401) hx hb dL_games_359 (by decide) (fun h123 => ?_) (fun h123 => ?_)
                                                          · have hf := ifn h123 hf
                                                            refine lv_iconst (v := 0) hx hb dL_games_401 (by decide) ?_
                                                            cases hf
                                                            refine W.widen (k := 362) (n := 13948) (by omega) (by omega) ?_
                                                            exact W.zret (ty := .boolean) hx hb hr (by decide) (fun u hu _ => ⟨rfl, by rw [hu]; exact hS.1, fun q hq => by rw [hu]; exact hS.2.1 q (by omega) (Nat.not_le.mpr hq)⟩) hS.2.2 dL_games_402
                                                          · have hf := ifp h123 hf
                                                            refine lv_aload_n hx hb dL_games_362 rfl (lv_at hl 0 rfl) ?_
                                                            refine lv_iconst (v := 0) hx hb dL_games_363 (by decide) ?_
                                                            refine lv_iconst (v := 2) hx hb dL_games_364 (by decide) ?_
                                                            refine lv_iconst (v := 1) hx hb dL_games_365 (by decide) ?_
                                                            obtain ⟨y124, u125, hf⟩ := bn1_e hf
                                                            refine lVXn (n := 3) (As := [.int 0, .int 2, .int 1]) (rest := []) (c_X4_prizesOn l hfl D t b σ119 0 2 1 (.inr y124) u125) hx hb hml hown hts hE hsub hW hS q759 q760 q761 q34 q762 hy_X4_prizesOn ⟨rfl, rfl⟩ ⟨Nat.le_of_ble_eq_true rfl, Nat.le_of_ble_eq_true rfl⟩ rfl rfl hl.1 (Nat.le_of_ble_eq_true rfl) ⟨show 297 + 3 ≤ 362 by omega, show 13558 + 18 ≤ 13948 by omega⟩ dL_games_366 (fun H locs hW hS _ => ?_)
                                                            refine W.widen (k := 300) (n := 13576) (by omega) (by omega) ?_
                                                            refine lv_if_ne (tgt := 401) hx hb dL_games_369 (by decide) (fun h126 => ?_) (fun h126 => ?_)
                                                            · have hf := ifn h126 hf
                                                              refine lv_iconst (v := 0) hx hb dL_games_401 (by decide) ?_
                                                              cases hf
                                                              refine W.widen (k := 362) (n := 13948) (by omega) (by omega) ?_
                                                              exact W.zret (ty := .boolean) hx hb hr (by decide) (fun u hu _ => ⟨rfl, by rw [hu]; exact hS.1, fun q hq => by rw [hu]; exact hS.2.1 q (by omega) (Nat.not_le.mpr hq)⟩) hS.2.2 dL_games_402
                                                            · have hf := ifp h126 hf
                                                              refine lv_aload_n hx hb dL_games_372 rfl (lv_at hl 0 rfl) ?_
                                                              refine lv_iconst (v := 0) hx hb dL_games_373 (by decide) ?_
                                                              obtain ⟨y127, u128, hf⟩ := bn1_e hf
                                                              refine lVXn (n := 1) (As := [.int 0]) (rest := []) (c_X4_levelToWin l hfl D t b σ119 0 (.inr y127) u128) hx hb hml hown hts hE hsub hW hS q754 q755 q756 q34 q757 hy_X4_levelToWin ⟨rfl, rfl⟩ ⟨Nat.le_of_ble_eq_true rfl, Nat.le_of_ble_eq_true rfl⟩ rfl rfl hl.1 (Nat.le_of_ble_eq_true rfl) ⟨show 300 + 1 ≤ 362 by omega, show 13576 + 6 ≤ 13948 by omega⟩ dL_games_374 (fun H locs hW hS _ => ?_)
                                                              refine W.widen (k := 301) (n := 13582) (by omega) (by omega) ?_
                                                              refine lv_iconst (v := 1) hx hb dL_games_377 (by decide) ?_
                                                              refine lv_icmp_ne (tgt := 401) hx hb dL_games_378 (by decide) (fun h129 => ?_) (fun h129 => ?_)
                                                              · have hf := ifn h129 hf
                                                                refine lv_iconst (v := 0) hx hb dL_games_401 (by decide) ?_
                                                                cases hf
                                                                refine W.widen (k := 362) (n := 13948) (by omega) (by omega) ?_
                                                                exact W.zret (ty := .boolean) hx hb hr (by decide) (fun u hu _ => ⟨rfl, by rw [hu]; exact hS.1, fun q hq => by rw [hu]; exact hS.2.1 q (by omega) (Nat.not_le.mpr hq)⟩) hS.2.2 dL_games_402
                                                              · have hf := ifp h129 hf
                                                                refine lv_aload_n hx hb dL_games_381 rfl (lv_at hl 0 rfl) ?_
                                                                refine lv_iconst (v := 0) hx hb dL_games_382 (by decide) ?_
                                                                refine lv_iconst (v := 3) hx hb dL_games_383 (by decide) ?_
                                                                refine lv_iconst (v := 0) hx hb dL_games_384 (by decide) ?_
                                                                obtain ⟨y130, u131, hf⟩ := bn1_e hf
                                                                refine lVXn (n := 3) (As := [.int 0, .int 3, .int 0]) (rest := []) (c_X4_prizesOn l hfl D t b σ119 0 3 0 (.inr y130) u131) hx hb hml hown hts hE hsub hW hS q759 q760 q761 q34 q762 hy_X4_prizesOn ⟨rfl, rfl⟩ ⟨Nat.le_of_ble_eq_true rfl, Nat.le_of_ble_eq_true rfl⟩ rfl rfl hl.1 (Nat.le_of_ble_eq_true rfl) ⟨show 301 + 3 ≤ 362 by omega, show 13582 + 18 ≤ 13948 by omega⟩ dL_games_385 (fun H locs hW hS _ => ?_)
                                                                refine W.widen (k := 304) (n := 13600) (by omega) (by omega) ?_
                                                                refine lv_iconst (v := 2) hx hb dL_games_388 (by decide) ?_
                                                                refine lv_icmp_ne (tgt := 401) hx hb dL_games_389 (by decide) (fun h132 => ?_) (fun h132 => ?_)
                                                                · have hf := ifn h132 hf
                                                                  refine lv_iconst (v := 0) hx hb dL_games_401 (by decide) ?_
                                                                  cases hf
                                                                  refine W.widen (k := 362) (n := 13948) (by omega) (by omega) ?_
                                                                  exact W.zret (ty := .boolean) hx hb hr (by decide) (fun u hu _ => ⟨rfl, by rw [hu]; exact hS.1, fun q hq => by rw [hu]; exact hS.2.1 q (by omega) (Nat.not_le.mpr hq)⟩) hS.2.2 dL_games_402
                                                                · have hf := ifp h132 hf
                                                                  refine lv_aload_n hx hb dL_games_392 rfl (lv_at hl 0 rfl) ?_
                                                                  refine lv_iconst (v := 0) hx hb dL_games_393 (by decide) ?_
                                                                  obtain ⟨y133, u134, hf⟩ := bn1_e hf
                                                                  refine lVXn (n := 1) (As := [.int 0]) (rest := []) (c_X4_playsOf l hfl D t b σ119 0 (.inr y133) u134) hx hb hml hown hts hE hsub hW hS q735 q736 q737 q34 q738 hy_X4_playsOf ⟨rfl, rfl⟩ ⟨Nat.le_of_ble_eq_true rfl, Nat.le_of_ble_eq_true rfl⟩ rfl rfl hl.1 (Nat.le_of_ble_eq_true rfl) ⟨show 304 + 1 ≤ 362 by omega, show 13600 + 6 ≤ 13948 by omega⟩ dL_games_394 (fun H locs hW hS _ => ?_)
                                                                  refine W.widen (k := 305) (n := 13606) (by omega) (by omega) ?_
                                                                  refine lv_iconst (v := 4) hx hb dL_games_397 (by decide) ?_
                                                                  refine lv_icmp_eq (tgt := 403) hx hb dL_games_398 (by decide) (fun h135 => ?_) (fun h135 => ?_)
                                                                  · have hf := ifp h135 hf
                                                                    refine lv_aload_n hx hb dL_games_403 rfl (lv_at hl 0 rfl) ?_
                                                                    refine lv_iconst (v := 0) hx hb dL_games_404 (by decide) ?_
                                                                    refine lv_bipush (v := 9) hx hb dL_games_405 (by decide) ?_
                                                                    obtain ⟨y136, σ138, u137, hf⟩ := bn2_e hf
                                                                    refine lVXn (n := 2) (As := [.int 0, .int 9]) (rest := []) (c_X4_setPrice l hfl D t b σ119 0 9 (.inr (y136, σ138)) u137) hx hb hml hown hts hE hsub hW hS q594 q595 q596 q34 q597 hy_X4_setPrice ⟨rfl, rfl⟩ ⟨Nat.le_of_ble_eq_true rfl, Nat.le_of_ble_eq_true rfl⟩ rfl rfl hl.1 (Nat.le_of_ble_eq_true rfl) ⟨show 305 + 2 ≤ 362 by omega, show 13606 + 12 ≤ 13948 by omega⟩ dL_games_407 (fun H locs hW hS _ => ?_)
                                                                    refine W.widen (k := 307) (n := 13618) (by omega) (by omega) ?_
                                                                    refine lv_iconst (v := 1) hx hb dL_games_410 (by decide) ?_
                                                                    refine lv_icmp_ne (tgt := 524) hx hb dL_games_411 (by decide) (fun h139 => ?_) (fun h139 => ?_)
                                                                    · have hf := ifn h139 hf
                                                                      refine lv_iconst (v := 0) hx hb dL_games_524 (by decide) ?_
                                                                      cases hf
                                                                      refine W.widen (k := 362) (n := 13948) (by omega) (by omega) ?_
                                                                      exact W.zret (ty := .boolean) hx hb hr (by decide) (fun u hu _ => ⟨rfl, by rw [hu]; exact hS.1, fun q hq => by rw [hu]; exact hS.2.1 q (by omega) (Nat.not_le.mpr hq)⟩) hS.2.2 dL_games_525
                                                                    · have hf := ifp h139 hf
                                                                      refine lv_aload_n hx hb dL_games_414 rfl (lv_at hl 0 rfl) ?_
                                                                      refine lv_bipush (v := 9) hx hb dL_games_415 (by decide) ?_
                                                                      refine lv_iconst (v := 2) hx hb dL_games_417 (by decide) ?_
                                                                      refine lv_iconst (v := 2) hx hb dL_games_418 (by decide) ?_
                                                                      obtain ⟨y140, σ142, u141, hf⟩ := bn2_e hf
                                                                      refine lVXn (n := 3) (As := [.int 9, .int 2, .int 2]) (rest := []) (c_X4_come l hfl D t b σ138 9 2 2 (.inr (y140, σ142)) u141) hx hb hml hown hts hE hsub hW hS q525 q526 q527 q34 q528 hy_X4_come ⟨rfl, rfl⟩ ⟨Nat.le_of_ble_eq_true rfl, Nat.le_of_ble_eq_true rfl⟩ rfl rfl hl.1 (Nat.le_of_ble_eq_true rfl) ⟨show 307 + 3 ≤ 362 by omega, show 13618 + 18 ≤ 13948 by omega⟩ dL_games_419 (fun H locs hW hS _ => ?_)
                                                                      refine W.widen (k := 310) (n := 13636) (by omega) (by omega) ?_
                                                                      refine lv_bipush (v := 6) hx hb dL_games_422 (by decide) ?_
                                                                      refine lv_icmp_ne (tgt := 524) hx hb dL_games_424 (by decide) (fun h143 => ?_) (fun h143 => ?_)
                                                                      · have hf := ifn h143 hf
                                                                        refine lv_iconst (v := 0) hx hb dL_games_524 (by decide) ?_
                                                                        cases hf
                                                                        refine W.widen (k := 362) (n := 13948) (by omega) (by omega) ?_
                                                                        exact W.zret (ty := .boolean) hx hb hr (by decide) (fun u hu _ => ⟨rfl, by rw [hu]; exact hS.1, fun q hq => by rw [hu]; exact hS.2.1 q (by omega) (Nat.not_le.mpr hq)⟩) hS.2.2 dL_games_525
                                                                      · have hf := ifp h143 hf
                                                                        refine lv_aload_n hx hb dL_games_427 rfl (lv_at hl 0 rfl) ?_
                                                                        refine lv_bipush (v := 99) hx hb dL_games_428 (by decide) ?_
                                                                        refine lv_iconst (v := 2) hx hb dL_games_430 (by decide) ?_
                                                                        refine lv_iconst (v := 0) hx hb dL_games_431 (by decide) ?_
                                                                        obtain ⟨y144, σ146, u145, hf⟩ := bn2_e hf
                                                                        refine lVXn (n := 3) (As := [.int 99, .int 2, .int 0]) (rest := []) (c_X4_come l hfl D t b σ142 99 2 0 (.inr (y144, σ146)) u145) hx hb hml hown hts hE hsub hW hS q525 q526 q527 q34 q528 hy_X4_come ⟨rfl, rfl⟩ ⟨Nat.le_of_ble_eq_true rfl, Nat.le_of_ble_eq_true rfl⟩ rfl rfl hl.1 (Nat.le_of_ble_eq_true rfl) ⟨show 310 + 3 ≤ 362 by omega, show 13636 + 18 ≤ 13948 by omega⟩ dL_games_432 (fun H locs hW hS _ => ?_)
                                                                        refine W.widen (k := 313) (n := 13654) (by omega) (by omega) ?_
                                                                        refine lv_bipush (v := 7) hx hb dL_games_435 (by decide) ?_
                                                                        refine lv_icmp_ne (tgt := 524) hx hb dL_games_437 (by decide) (fun h147 => ?_) (fun h147 => ?_)
                                                                        · have hf := ifn h147 hf
                                                                          refine lv_iconst (v := 0) hx hb dL_games_524 (by decide) ?_
                                                                          cases hf
                                                                          refine W.widen (k := 362) (n := 13948) (by omega) (by omega) ?_
                                                                          exact W.zret (ty := .boolean) hx hb hr (by decide) (fun u hu _ => ⟨rfl, by rw [hu]; exact hS.1, fun q hq => by rw [hu]; exact hS.2.1 q (by omega) (Nat.not_le.mpr hq)⟩) hS.2.2 dL_games_525
                                                                        · have hf := ifp h147 hf
                                                                          refine lv_aload_n hx hb dL_games_440 rfl (lv_at hl 0 rfl) ?_
                                                                          refine lv_iconst (v := 1) hx hb dL_games_441 (by decide) ?_
                                                                          obtain ⟨y148, σ150, u149, hf⟩ := bn2_e hf
                                                                          refine lVXn (n := 1) (As := [.int 1]) (rest := []) (c_X4_pass l hfl D t b σ146 1 (.inr (y148, σ150)) u149) hx hb hml hown hts hE hsub hW hS q616 q617 q618 q34 q619 hy_X4_pass ⟨rfl, rfl⟩ ⟨Nat.le_of_ble_eq_true rfl, Nat.le_of_ble_eq_true rfl⟩ rfl rfl hl.1 (Nat.le_of_ble_eq_true rfl) ⟨show 313 + 1 ≤ 362 by omega, show 13654 + 6 ≤ 13948 by omega⟩ dL_games_442 (fun H locs hW hS _ => ?_)
                                                                          refine W.widen (k := 314) (n := 13660) (by omega) (by omega) ?_
                                                                          refine lv_iconst (v := 1) hx hb dL_games_445 (by decide) ?_
                                                                          refine lv_icmp_ne (tgt := 524) hx hb dL_games_446 (by decide) (fun h151 => ?_) (fun h151 => ?_)
                                                                          · have hf := ifn h151 hf
                                                                            refine lv_iconst (v := 0) hx hb dL_games_524 (by decide) ?_
                                                                            cases hf
                                                                            refine W.widen (k := 362) (n := 13948) (by omega) (by omega) ?_
                                                                            exact W.zret (ty := .boolean) hx hb hr (by decide) (fun u hu _ => ⟨rfl, by rw [hu]; exact hS.1, fun q hq => by rw [hu]; exact hS.2.1 q (by omega) (Nat.not_le.mpr hq)⟩) hS.2.2 dL_games_525
                                                                          · have hf := ifp h151 hf
                                                                            refine lv_aload_n hx hb dL_games_449 rfl (lv_at hl 0 rfl) ?_
                                                                            refine lv_bipush (v := 6) hx hb dL_games_450 (by decide) ?_
                                                                            refine lv_iconst (v := 0) hx hb dL_games_452 (by decide) ?_
                                                                            refine lv_bipush (v := 52) hx hb dL_games_453 (by decide) ?_
                                                                            refine lv_iconst (v := 0) hx hb dL_games_455 (by decide) ?_
                                                                            refine lv_iconst (v := 0) hx hb dL_games_456 (by decide) ?_
                                                                            refine lv_iconst (v := 3) hx hb dL_games_457 (by decide) ?_
                                                                            obtain ⟨y152, σ154, u153, hf⟩ := b2_e hf
                                                                            refine lS (n := 7) (As := [.ref (b + 0), .int 6, .int 0, .int 52, .int 0, .int 0, .int 3]) (rest := []) (c_L_is l hfl D t b σ150 6 0 52 0 0 3 y152 σ154 u153) hx hb hml hown hts hE hsub hW hS q1030 q1031 q33  q1032 hs_L_is ⟨rfl, rfl⟩ ⟨Nat.le_of_ble_eq_true rfl, Nat.le_of_ble_eq_true rfl⟩ rfl rfl hl.1 (Nat.le_of_ble_eq_true rfl) ⟨show 314 + 6 ≤ 362 by omega, show 13660 + 36 ≤ 13948 by omega⟩ dL_games_458 (fun H locs hW hS _ => ?_)
                                                                            refine W.widen (k := 320) (n := 13696) (by omega) (by omega) ?_
                                                                            refine lv_if_eq (tgt := 524) hx hb dL_games_461 (by decide) (fun h155 => ?_) (fun h155 => ?_)
                                                                            · have hf := ifp h155 hf
                                                                              refine lv_iconst (v := 0) hx hb dL_games_524 (by decide) ?_
                                                                              cases hf
                                                                              refine W.widen (k := 362) (n := 13948) (by omega) (by omega) ?_
                                                                              exact W.zret (ty := .boolean) hx hb hr (by decide) (fun u hu _ => ⟨rfl, by rw [hu]; exact hS.1, fun q hq => by rw [hu]; exact hS.2.1 q (by omega) (Nat.not_le.mpr hq)⟩) hS.2.2 dL_games_525
                                                                            · have hf := ifn h155 hf
                                                                              refine lv_aload_n hx hb dL_games_464 rfl (lv_at hl 0 rfl) ?_
                                                                              refine lv_bipush (v := 7) hx hb dL_games_465 (by decide) ?_
                                                                              obtain ⟨y156, u157, hf⟩ := bn1_e hf
                                                                              refine lVXn (n := 1) (As := [.int 7]) (rest := []) (c_X4_placeOf l hfl D t b σ154 7 (.inr y156) u157) hx hb hml hown hts hE hsub hW hS q783 q784 q785 q34 q786 hy_X4_placeOf ⟨rfl, rfl⟩ ⟨Nat.le_of_ble_eq_true rfl, Nat.le_of_ble_eq_true rfl⟩ rfl rfl hl.1 (Nat.le_of_ble_eq_true rfl) ⟨show 320 + 1 ≤ 362 by omega, show 13696 + 6 ≤ 13948 by omega⟩ dL_games_467 (fun H locs hW hS _ => ?_)
                                                                              refine W.widen (k := 321) (n := 13702) (by omega) (by omega) ?_
                                                                              refine lv_iconst (v := 1) hx hb dL_games_470 (by decide) ?_
                                                                              refine lv_icmp_ne (tgt := 524) hx hb dL_games_471 (by decide) (fun h158 => ?_) (fun h158 => ?_)
                                                                              · have hf := ifn h158 hf
                                                                                refine lv_iconst (v := 0) hx hb dL_games_524 (by decide) ?_
                                                                                cases hf
                                                                                refine W.widen (k := 362) (n := 13948) (by omega) (by omega) ?_
                                                                                exact W.zret (ty := .boolean) hx hb hr (by decide) (fun u hu _ => ⟨rfl, by rw [hu]; exact hS.1, fun q hq => by rw [hu]; exact hS.2.1 q (by omega) (Nat.not_le.mpr hq)⟩) hS.2.2 dL_games_525
                                                                              · have hf := ifp h158 hf
                                                                                refine lv_aload_n hx hb dL_games_474 rfl (lv_at hl 0 rfl) ?_
                                                                                refine lv_iconst (v := 0) hx hb dL_games_475 (by decide) ?_
                                                                                obtain ⟨y159, σ161, u160, hf⟩ := bn2_e hf
                                                                                refine lVXn (n := 1) (As := [.int 0]) (rest := []) (c_X4_turnStall l hfl D t b σ154 0 (.inr (y159, σ161)) u160) hx hb hml hown hts hE hsub hW hS q598 q599 q600 q34 q601 hy_X4_turnStall ⟨rfl, rfl⟩ ⟨Nat.le_of_ble_eq_true rfl, Nat.le_of_ble_eq_true rfl⟩ rfl rfl hl.1 (Nat.le_of_ble_eq_true rfl) ⟨show 321 + 1 ≤ 362 by omega, show 13702 + 6 ≤ 13948 by omega⟩ dL_games_476 (fun H locs hW hS _ => ?_)
                                                                                refine W.widen (k := 322) (n := 13708) (by omega) (by omega) ?_
                                                                                refine lv_if_ne (tgt := 524) hx hb dL_games_479 (by decide) (fun h162 => ?_) (fun h162 => ?_)
                                                                                · have hf := ifn h162 hf
                                                                                  refine lv_iconst (v := 0) hx hb dL_games_524 (by decide) ?_
                                                                                  cases hf
                                                                                  refine W.widen (k := 362) (n := 13948) (by omega) (by omega) ?_
                                                                                  exact W.zret (ty := .boolean) hx hb hr (by decide) (fun u hu _ => ⟨rfl, by rw [hu]; exact hS.1, fun q hq => by rw [hu]; exact hS.2.1 q (by omega) (Nat.not_le.mpr hq)⟩) hS.2.2 dL_games_525
                                                                                · have hf := ifp h162 hf
                                                                                  refine lv_aload_n hx hb dL_games_482 rfl (lv_at hl 0 rfl) ?_
                                                                                  refine lv_bipush (v := 50) hx hb dL_games_483 (by decide) ?_
                                                                                  refine lv_iconst (v := 0) hx hb dL_games_485 (by decide) ?_
                                                                                  refine lv_iconst (v := 0) hx hb dL_games_486 (by decide) ?_
                                                                                  obtain ⟨y163, σ165, u164, hf⟩ := bn2_e hf
                                                                                  refine lVXn (n := 3) (As := [.int 50, .int 0, .int 0]) (rest := []) (c_X4_come l hfl D t b σ161 50 0 0 (.inr (y163, σ165)) u164) hx hb hml hown hts hE hsub hW hS q525 q526 q527 q34 q528 hy_X4_come ⟨rfl, rfl⟩ ⟨Nat.le_of_ble_eq_true rfl, Nat.le_of_ble_eq_true rfl⟩ rfl rfl hl.1 (Nat.le_of_ble_eq_true rfl) ⟨show 322 + 3 ≤ 362 by omega, show 13708 + 18 ≤ 13948 by omega⟩ dL_games_487 (fun H locs hW hS _ => ?_)
                                                                                  refine W.widen (k := 325) (n := 13726) (by omega) (by omega) ?_
                                                                                  refine lv_bipush (v := 8) hx hb dL_games_490 (by decide) ?_
                                                                                  refine lv_icmp_ne (tgt := 524) hx hb dL_games_492 (by decide) (fun h166 => ?_) (fun h166 => ?_)
                                                                                  · have hf := ifn h166 hf
                                                                                    refine lv_iconst (v := 0) hx hb dL_games_524 (by decide) ?_
                                                                                    cases hf
                                                                                    refine W.widen (k := 362) (n := 13948) (by omega) (by omega) ?_
                                                                                    exact W.zret (ty := .boolean) hx hb hr (by decide) (fun u hu _ => ⟨rfl, by rw [hu]; exact hS.1, fun q hq => by rw [hu]; exact hS.2.1 q (by omega) (Nat.not_le.mpr hq)⟩) hS.2.2 dL_games_525
                                                                                  · have hf := ifp h166 hf
                                                                                    refine lv_aload_n hx hb dL_games_495 rfl (lv_at hl 0 rfl) ?_
                                                                                    refine lv_bipush (v := 8) hx hb dL_games_496 (by decide) ?_
                                                                                    obtain ⟨y167, u168, hf⟩ := bn1_e hf
                                                                                    refine lVXn (n := 1) (As := [.int 8]) (rest := []) (c_X4_whyNoPlay l hfl D t b σ165 8 (.inr y167) u168) hx hb hml hown hts hE hsub hW hS q795 q796 q797 q34 q798 hy_X4_whyNoPlay ⟨rfl, rfl⟩ ⟨Nat.le_of_ble_eq_true rfl, Nat.le_of_ble_eq_true rfl⟩ rfl rfl hl.1 (Nat.le_of_ble_eq_true rfl) ⟨show 325 + 1 ≤ 362 by omega, show 13726 + 6 ≤ 13948 by omega⟩ dL_games_498 (fun H locs hW hS _ => ?_)
                                                                                    refine W.widen (k := 326) (n := 13732) (by omega) (by omega) ?_
                                                                                    refine lv_iconst (v := 2) hx hb dL_games_501 (by decide) ?_
                                                                                    refine lv_icmp_ne (tgt := 524) hx hb dL_games_502 (by decide) (fun h169 => ?_) (fun h169 => ?_)
                                                                                    · have hf := ifn h169 hf
                                                                                      refine lv_iconst (v := 0) hx hb dL_games_524 (by decide) ?_
                                                                                      cases hf
                                                                                      refine W.widen (k := 362) (n := 13948) (by omega) (by omega) ?_
                                                                                      exact W.zret (ty := .boolean) hx hb hr (by decide) (fun u hu _ => ⟨rfl, by rw [hu]; exact hS.1, fun q hq => by rw [hu]; exact hS.2.1 q (by omega) (Nat.not_le.mpr hq)⟩) hS.2.2 dL_games_525
                                                                                    · have hf := ifp h169 hf
                                                                                      refine lv_aload_n hx hb dL_games_505 rfl (lv_at hl 0 rfl) ?_
                                                                                      refine lv_bipush (v := 6) hx hb dL_games_506 (by decide) ?_
                                                                                      obtain ⟨y170, u171, hf⟩ := bn1_e hf
                                                                                      refine lVXn (n := 1) (As := [.int 6]) (rest := []) (c_X4_whyNoPlay l hfl D t b σ165 6 (.inr y170) u171) hx hb hml hown hts hE hsub hW hS q795 q796 q797 q34 q798 hy_X4_whyNoPlay ⟨rfl, rfl⟩ ⟨Nat.le_of_ble_eq_true rfl, Nat.le_of_ble_eq_true rfl⟩ rfl rfl hl.1 (Nat.le_of_ble_eq_true rfl) ⟨show 326 + 1 ≤ 362 by omega, show 13732 + 6 ≤ 13948 by omega⟩ dL_games_508 (fun H locs hW hS _ => ?_)
                                                                                      refine W.widen (k := 327) (n := 13738) (by omega) (by omega) ?_
                                                                                      refine lv_iconst (v := 2) hx hb dL_games_511 (by decide) ?_
                                                                                      refine lv_icmp_ne (tgt := 524) hx hb dL_games_512 (by decide) (fun h172 => ?_) (fun h172 => ?_)
                                                                                      · have hf := ifn h172 hf
                                                                                        refine lv_iconst (v := 0) hx hb dL_games_524 (by decide) ?_
                                                                                        cases hf
                                                                                        refine W.widen (k := 362) (n := 13948) (by omega) (by omega) ?_
                                                                                        exact W.zret (ty := .boolean) hx hb hr (by decide) (fun u hu _ => ⟨rfl, by rw [hu]; exact hS.1, fun q hq => by rw [hu]; exact hS.2.1 q (by omega) (Nat.not_le.mpr hq)⟩) hS.2.2 dL_games_525
                                                                                      · have hf := ifp h172 hf
                                                                                        refine lv_aload_n hx hb dL_games_515 rfl (lv_at hl 0 rfl) ?_
                                                                                        refine lv_iconst (v := 0) hx hb dL_games_516 (by decide) ?_
                                                                                        obtain ⟨y173, u174, hf⟩ := bn1_e hf
                                                                                        refine lVXn (n := 1) (As := [.int 0]) (rest := []) (c_X4_levelToWin l hfl D t b σ165 0 (.inr y173) u174) hx hb hml hown hts hE hsub hW hS q754 q755 q756 q34 q757 hy_X4_levelToWin ⟨rfl, rfl⟩ ⟨Nat.le_of_ble_eq_true rfl, Nat.le_of_ble_eq_true rfl⟩ rfl rfl hl.1 (Nat.le_of_ble_eq_true rfl) ⟨show 327 + 1 ≤ 362 by omega, show 13738 + 6 ≤ 13948 by omega⟩ dL_games_517 (fun H locs hW hS _ => ?_)
                                                                                        refine W.widen (k := 328) (n := 13744) (by omega) (by omega) ?_
                                                                                        refine lv_iconst (v := 1) hx hb dL_games_520 (by decide) ?_
                                                                                        refine lv_icmp_eq (tgt := 526) hx hb dL_games_521 (by decide) (fun h175 => ?_) (fun h175 => ?_)
                                                                                        · have hf := ifp h175 hf
                                                                                          refine lv_aload_n hx hb dL_games_526 rfl (lv_at hl 0 rfl) ?_
                                                                                          refine lv_iconst (v := 3) hx hb dL_games_527 (by decide) ?_
                                                                                          refine lv_iconst (v := 1) hx hb dL_games_528 (by decide) ?_
                                                                                          refine lv_iconst (v := 1) hx hb dL_games_529 (by decide) ?_
                                                                                          refine lv_iconst (v := 0) hx hb dL_games_530 (by decide) ?_
                                                                                          obtain ⟨y176, σ178, u177, hf⟩ := bn2_e hf
                                                                                          refine lVXn (n := 4) (As := [.int 3, .int 1, .int 1, .int 0]) (rest := []) (c_X4_build l hfl D t b σ165 3 1 1 0 (.inr (y176, σ178)) u177) hx hb hml hown hts hE hsub hW hS q299 q300 q301 q34 q302 hy_X4_build ⟨rfl, rfl⟩ ⟨Nat.le_of_ble_eq_true rfl, Nat.le_of_ble_eq_true rfl⟩ rfl rfl hl.1 (Nat.le_of_ble_eq_true rfl) ⟨show 328 + 4 ≤ 362 by omega, show 13744 + 24 ≤ 13948 by omega⟩ dL_games_531 (fun H locs hW hS _ => ?_)
                                                                                          refine W.widen (k := 332) (n := 13768) (by omega) (by omega) ?_
                                                                                          refine lv_iconst (v := 1) hx hb dL_games_534 (by decide) ?_
                                                                                          refine lv_icmp_ne (tgt := 696) hx hb dL_games_535 (by decide) (fun h179 => ?_) (fun h179 => ?_)
                                                                                          · have hf := ifn h179 hf
                                                                                            refine lv_iconst (v := 0) hx hb dL_games_696 (by decide) ?_
                                                                                            cases hf
                                                                                            refine W.widen (k := 362) (n := 13948) (by omega) (by omega) ?_
                                                                                            exact W.zret (ty := .boolean) hx hb hr (by decide) (fun u hu _ => ⟨rfl, by rw [hu]; exact hS.1, fun q hq => by rw [hu]; exact hS.2.1 q (by omega) (Nat.not_le.mpr hq)⟩) hS.2.2 dL_games_697
                                                                                          · have hf := ifp h179 hf
                                                                                            refine lv_aload_n hx hb dL_games_538 rfl (lv_at hl 0 rfl) ?_
                                                                                            refine lv_iconst (v := 1) hx hb dL_games_539 (by decide) ?_
                                                                                            obtain ⟨y180, u181, hf⟩ := bn1_e hf
                                                                                            refine lVXn (n := 1) (As := [.int 1]) (rest := []) (c_X4_playsToWin l hfl D t b σ178 1 (.inr y180) u181) hx hb hml hown hts hE hsub hW hS q744 q745 q746 q34 q747 hy_X4_playsToWin ⟨rfl, rfl⟩ ⟨Nat.le_of_ble_eq_true rfl, Nat.le_of_ble_eq_true rfl⟩ rfl rfl hl.1 (Nat.le_of_ble_eq_true rfl) ⟨show 332 + 1 ≤ 362 by omega, show 13768 + 6 ≤ 13948 by omega⟩ dL_games_540 (fun H locs hW hS _ => ?_)
                                                                                            refine W.widen (k := 333) (n := 13774) (by omega) (by omega) ?_
                                                                                            refine lv_iconst (v := 3) hx hb dL_games_543 (by decide) ?_
                                                                                            refine lv_icmp_ne (tgt := 696) hx hb dL_games_544 (by decide) (fun h182 => ?_) (fun h182 => ?_)
                                                                                            · have hf := ifn h182 hf
                                                                                              refine lv_iconst (v := 0) hx hb dL_games_696 (by decide) ?_
                                                                                              cases hf
                                                                                              refine W.widen (k := 362) (n := 13948) (by omega) (by omega) ?_
                                                                                              exact W.zret (ty := .boolean) hx hb hr (by decide) (fun u hu _ => ⟨rfl, by rw [hu]; exact hS.1, fun q hq => by rw [hu]; exact hS.2.1 q (by omega) (Nat.not_le.mpr hq)⟩) hS.2.2 dL_games_697
                                                                                            · have hf := ifp h182 hf
                                                                                              refine lv_aload_n hx hb dL_games_547 rfl (lv_at hl 0 rfl) ?_
                                                                                              refine lv_iconst (v := 1) hx hb dL_games_548 (by decide) ?_
                                                                                              obtain ⟨y183, u184, hf⟩ := bn1_e hf
                                                                                              refine lVXn (n := 1) (As := [.int 1]) (rest := []) (c_X4_levelToWin l hfl D t b σ178 1 (.inr y183) u184) hx hb hml hown hts hE hsub hW hS q754 q755 q756 q34 q757 hy_X4_levelToWin ⟨rfl, rfl⟩ ⟨Nat.le_of_ble_eq_true rfl, Nat.le_of_ble_eq_true rfl⟩ rfl rfl hl.1 (Nat.le_of_ble_eq_true rfl) ⟨show 333 + 1 ≤ 362 by omega, show 13774 + 6 ≤ 13948 by omega⟩ dL_games_549 (fun H locs hW hS _ => ?_)
                                                                                              refine W.widen (k := 334) (n := 13780) (by omega) (by omega) ?_
                                                                                              refine lv_iconst (v := (-1)) hx hb dL_games_552 (by decide) ?_
                                                                                              refine lv_icmp_ne (tgt := 696) hx hb dL_games_553 (by decide) (fun h185 => ?_) (fun h185 => ?_)
                                                                                              · have hf := ifn h185 hf
                                                                                                refine lv_iconst (v := 0) hx hb dL_games_696 (by decide) ?_
                                                                                                cases hf
                                                                                                refine W.widen (k := 362) (n := 13948) (by omega) (by omega) ?_
                                                                                                exact W.zret (ty := .boolean) hx hb hr (by decide) (fun u hu _ => ⟨rfl, by rw [hu]; exact hS.1, fun q hq => by rw [hu]; exact hS.2.1 q (by omega) (Nat.not_le.mpr hq)⟩) hS.2.2 dL_games_697
                                                                                              · have hf := ifp h185 hf
                                                                                                refine lv_aload_n hx hb dL_games_556 rfl (lv_at hl 0 rfl) ?_
                                                                                                refine lv_iconst (v := 1) hx hb dL_games_557 (by decide) ?_
                                                                                                refine lv_bipush (v := 60) hx hb dL_games_558 (by decide) ?_
                                                                                                obtain ⟨y186, σ188, u187, hf⟩ := bn2_e hf
                                                                                                refine lVXn (n := 2) (As := [.int 1, .int 60]) (rest := []) (c_X4_fund l hfl D t b σ178 1 60 (.inr (y186, σ188)) u187) hx hb hml hown hts hE hsub hW hS q511 q512 q513 q34 q514 hy_X4_fund ⟨rfl, rfl⟩ ⟨Nat.le_of_ble_eq_true rfl, Nat.le_of_ble_eq_true rfl⟩ rfl rfl hl.1 (Nat.le_of_ble_eq_true rfl) ⟨show 334 + 2 ≤ 362 by omega, show 13780 + 12 ≤ 13948 by omega⟩ dL_games_560 (fun H locs hW hS _ => ?_)
                                                                                                refine W.widen (k := 336) (n := 13792) (by omega) (by omega) ?_
                                                                                                refine lv_bipush (v := 60) hx hb dL_games_563 (by decide) ?_
                                                                                                refine lv_icmp_ne (tgt := 696) hx hb dL_games_565 (by decide) (fun h189 => ?_) (fun h189 => ?_)
                                                                                                · have hf := ifn h189 hf
                                                                                                  refine lv_iconst (v := 0) hx hb dL_games_696 (by decide) ?_
                                                                                                  cases hf
                                                                                                  refine W.widen (k := 362) (n := 13948) (by omega) (by omega) ?_
                                                                                                  exact W.zret (ty := .boolean) hx hb hr (by decide) (fun u hu _ => ⟨rfl, by rw [hu]; exact hS.1, fun q hq => by rw [hu]; exact hS.2.1 q (by omega) (Nat.not_le.mpr hq)⟩) hS.2.2 dL_games_697
                                                                                                · have hf := ifp h189 hf
                                                                                                  refine lv_aload_n hx hb dL_games_568 rfl (lv_at hl 0 rfl) ?_
                                                                                                  refine lv_iconst (v := 1) hx hb dL_games_569 (by decide) ?_
                                                                                                  refine lv_iconst (v := 2) hx hb dL_games_570 (by decide) ?_
                                                                                                  refine lv_iconst (v := 0) hx hb dL_games_571 (by decide) ?_
                                                                                                  refine lv_iconst (v := 3) hx hb dL_games_572 (by decide) ?_
                                                                                                  obtain ⟨y190, σ192, u191, hf⟩ := bn2_e hf
                                                                                                  refine lVXn (n := 4) (As := [.int 1, .int 2, .int 0, .int 3]) (rest := []) (c_X4_restock l hfl D t b σ188 1 2 0 3 (.inr (y190, σ192)) u191) hx hb hml hown hts hE hsub hW hS q466 q467 q468 q34 q469 hy_X4_restock ⟨rfl, rfl⟩ ⟨Nat.le_of_ble_eq_true rfl, Nat.le_of_ble_eq_true rfl⟩ rfl rfl hl.1 (Nat.le_of_ble_eq_true rfl) ⟨show 336 + 4 ≤ 362 by omega, show 13792 + 24 ≤ 13948 by omega⟩ dL_games_573 (fun H locs hW hS _ => ?_)
                                                                                                  refine W.widen (k := 340) (n := 13816) (by omega) (by omega) ?_
                                                                                                  refine lv_bipush (v := 42) hx hb dL_games_576 (by decide) ?_
                                                                                                  refine lv_icmp_ne (tgt := 696) hx hb dL_games_578 (by decide) (fun h193 => ?_) (fun h193 => ?_)
                                                                                                  · have hf := ifn h193 hf
                                                                                                    refine lv_iconst (v := 0) hx hb dL_games_696 (by decide) ?_
                                                                                                    cases hf
                                                                                                    refine W.widen (k := 362) (n := 13948) (by omega) (by omega) ?_
                                                                                                    exact W.zret (ty := .boolean) hx hb hr (by decide) (fun u hu _ => ⟨rfl, by rw [hu]; exact hS.1, fun q hq => by rw [hu]; exact hS.2.1 q (by omega) (Nat.not_le.mpr hq)⟩) hS.2.2 dL_games_697
                                                                                                  · have hf := ifp h193 hf
                                                                                                    refine lv_aload_n hx hb dL_games_581 rfl (lv_at hl 0 rfl) ?_
                                                                                                    refine lv_iconst (v := 1) hx hb dL_games_582 (by decide) ?_
                                                                                                    obtain ⟨y194, u195, hf⟩ := bn1_e hf
                                                                                                    refine lVXn (n := 1) (As := [.int 1]) (rest := []) (c_X4_levelToWin l hfl D t b σ192 1 (.inr y194) u195) hx hb hml hown hts hE hsub hW hS q754 q755 q756 q34 q757 hy_X4_levelToWin ⟨rfl, rfl⟩ ⟨Nat.le_of_ble_eq_true rfl, Nat.le_of_ble_eq_true rfl⟩ rfl rfl hl.1 (Nat.le_of_ble_eq_true rfl) ⟨show 340 + 1 ≤ 362 by omega, show 13816 + 6 ≤ 13948 by omega⟩ dL_games_583 (fun H locs hW hS _ => ?_)
                                                                                                    refine W.widen (k := 341) (n := 13822) (by omega) (by omega) ?_
                                                                                                    refine lv_iconst (v := (-1)) hx hb dL_games_586 (by decide) ?_
                                                                                                    refine lv_icmp_ne (tgt := 696) hx hb dL_games_587 (by decide) (fun h196 => ?_) (fun h196 => ?_)
                                                                                                    · have hf := ifn h196 hf
                                                                                                      refine lv_iconst (v := 0) hx hb dL_games_696 (by decide) ?_
                                                                                                      cases hf
                                                                                                      refine W.widen (k := 362) (n := 13948) (by omega) (by omega) ?_
                                                                                                      exact W.zret (ty := .boolean) hx hb hr (by decide) (fun u hu _ => ⟨rfl, by rw [hu]; exact hS.1, fun q hq => by rw [hu]; exact hS.2.1 q (by omega) (Nat.not_le.mpr hq)⟩) hS.2.2 dL_games_697
                                                                                                    · have hf := ifp h196 hf
                                                                                                      refine lv_aload_n hx hb dL_games_590 rfl (lv_at hl 0 rfl) ?_
                                                                                                      refine lv_iconst (v := 1) hx hb dL_games_591 (by decide) ?_
                                                                                                      refine lv_iconst (v := 1) hx hb dL_games_592 (by decide) ?_
                                                                                                      refine lv_iconst (v := 3) hx hb dL_games_593 (by decide) ?_
                                                                                                      refine lv_iconst (v := 1) hx hb dL_games_594 (by decide) ?_
                                                                                                      obtain ⟨y197, σ199, u198, hf⟩ := bn2_e hf
                                                                                                      refine lVXn (n := 4) (As := [.int 1, .int 1, .int 3, .int 1]) (rest := []) (c_X4_restock l hfl D t b σ192 1 1 3 1 (.inr (y197, σ199)) u198) hx hb hml hown hts hE hsub hW hS q466 q467 q468 q34 q469 hy_X4_restock ⟨rfl, rfl⟩ ⟨Nat.le_of_ble_eq_true rfl, Nat.le_of_ble_eq_true rfl⟩ rfl rfl hl.1 (Nat.le_of_ble_eq_true rfl) ⟨show 341 + 4 ≤ 362 by omega, show 13822 + 24 ≤ 13948 by omega⟩ dL_games_595 (fun H locs hW hS _ => ?_)
                                                                                                      refine W.widen (k := 345) (n := 13846) (by omega) (by omega) ?_
                                                                                                      refine lv_bipush (v := 39) hx hb dL_games_598 (by decide) ?_
                                                                                                      refine lv_icmp_ne (tgt := 696) hx hb dL_games_600 (by decide) (fun h200 => ?_) (fun h200 => ?_)
                                                                                                      · have hf := ifn h200 hf
                                                                                                        refine lv_iconst (v := 0) hx hb dL_games_696 (by decide) ?_
                                                                                                        cases hf
                                                                                                        refine W.widen (k := 362) (n := 13948) (by omega) (by omega) ?_
                                                                                                        exact W.zret (ty := .boolean) hx hb hr (by decide) (fun u hu _ => ⟨rfl, by rw [hu]; exact hS.1, fun q hq => by rw [hu]; exact hS.2.1 q (by omega) (Nat.not_le.mpr hq)⟩) hS.2.2 dL_games_697
                                                                                                      · have hf := ifp h200 hf
                                                                                                        refine lv_aload_n hx hb dL_games_603 rfl (lv_at hl 0 rfl) ?_
                                                                                                        refine lv_iconst (v := 1) hx hb dL_games_604 (by decide) ?_
                                                                                                        obtain ⟨y201, u202, hf⟩ := bn1_e hf
                                                                                                        refine lVXn (n := 1) (As := [.int 1]) (rest := []) (c_X4_levelToWin l hfl D t b σ199 1 (.inr y201) u202) hx hb hml hown hts hE hsub hW hS q754 q755 q756 q34 q757 hy_X4_levelToWin ⟨rfl, rfl⟩ ⟨Nat.le_of_ble_eq_true rfl, Nat.le_of_ble_eq_true rfl⟩ rfl rfl hl.1 (Nat.le_of_ble_eq_true rfl) ⟨show 345 + 1 ≤ 362 by omega, show 13846 + 6 ≤ 13948 by omega⟩ dL_games_605 (fun H locs hW hS _ => ?_)
                                                                                                        refine W.widen (k := 346) (n := 13852) (by omega) (by omega) ?_
                                                                                                        refine lv_iconst (v := 1) hx hb dL_games_608 (by decide) ?_
                                                                                                        refine lv_icmp_ne (tgt := 696) hx hb dL_games_609 (by decide) (fun h203 => ?_) (fun h203 => ?_)
                                                                                                        · have hf := ifn h203 hf
                                                                                                          refine lv_iconst (v := 0) hx hb dL_games_696 (by decide) ?_
                                                                                                          cases hf
                                                                                                          refine W.widen (k := 362) (n := 13948) (by omega) (by omega) ?_
                                                                                                          exact W.zret (ty := .boolean) hx hb hr (by decide) (fun u hu _ => ⟨rfl, by rw [hu]; exact hS.1, fun q hq => by rw [hu]; exact hS.2.1 q (by omega) (Nat.not_le.mpr hq)⟩) hS.2.2 dL_games_697
                                                                                                        · have hf := ifp h203 hf
                                                                                                          refine lv_aload_n hx hb dL_games_612 rfl (lv_at hl 0 rfl) ?_
                                                                                                          refine lv_iconst (v := 4) hx hb dL_games_613 (by decide) ?_
                                                                                                          refine lv_iconst (v := 2) hx hb dL_games_614 (by decide) ?_
                                                                                                          refine lv_iconst (v := 1) hx hb dL_games_615 (by decide) ?_
                                                                                                          refine lv_iconst (v := 0) hx hb dL_games_616 (by decide) ?_
                                                                                                          obtain ⟨y204, σ206, u205, hf⟩ := bn2_e hf
                                                                                                          refine lVXn (n := 4) (As := [.int 4, .int 2, .int 1, .int 0]) (rest := []) (c_X4_build l hfl D t b σ199 4 2 1 0 (.inr (y204, σ206)) u205) hx hb hml hown hts hE hsub hW hS q299 q300 q301 q34 q302 hy_X4_build ⟨rfl, rfl⟩ ⟨Nat.le_of_ble_eq_true rfl, Nat.le_of_ble_eq_true rfl⟩ rfl rfl hl.1 (Nat.le_of_ble_eq_true rfl) ⟨show 346 + 4 ≤ 362 by omega, show 13852 + 24 ≤ 13948 by omega⟩ dL_games_617 (fun H locs hW hS _ => ?_)
                                                                                                          refine W.widen (k := 350) (n := 13876) (by omega) (by omega) ?_
                                                                                                          refine lv_iconst (v := 2) hx hb dL_games_620 (by decide) ?_
                                                                                                          refine lv_icmp_ne (tgt := 696) hx hb dL_games_621 (by decide) (fun h207 => ?_) (fun h207 => ?_)
                                                                                                          · have hf := ifn h207 hf
                                                                                                            refine lv_iconst (v := 0) hx hb dL_games_696 (by decide) ?_
                                                                                                            cases hf
                                                                                                            refine W.widen (k := 362) (n := 13948) (by omega) (by omega) ?_
                                                                                                            exact W.zret (ty := .boolean) hx hb hr (by decide) (fun u hu _ => ⟨rfl, by rw [hu]; exact hS.1, fun q hq => by rw [hu]; exact hS.2.1 q (by omega) (Nat.not_le.mpr hq)⟩) hS.2.2 dL_games_697
                                                                                                          · have hf := ifp h207 hf
                                                                                                            refine lv_aload_n hx hb dL_games_624 rfl (lv_at hl 0 rfl) ?_
                                                                                                            refine lv_iconst (v := 2) hx hb dL_games_625 (by decide) ?_
                                                                                                            obtain ⟨y208, u209, hf⟩ := bn1_e hf
                                                                                                            refine lVXn (n := 1) (As := [.int 2]) (rest := []) (c_X4_playsToWin l hfl D t b σ206 2 (.inr y208) u209) hx hb hml hown hts hE hsub hW hS q744 q745 q746 q34 q747 hy_X4_playsToWin ⟨rfl, rfl⟩ ⟨Nat.le_of_ble_eq_true rfl, Nat.le_of_ble_eq_true rfl⟩ rfl rfl hl.1 (Nat.le_of_ble_eq_true rfl) ⟨show 350 + 1 ≤ 362 by omega, show 13876 + 6 ≤ 13948 by omega⟩ dL_games_626 (fun H locs hW hS _ => ?_)
                                                                                                            refine W.widen (k := 351) (n := 13882) (by omega) (by omega) ?_
                                                                                                            refine lv_iconst (v := 5) hx hb dL_games_629 (by decide) ?_
                                                                                                            refine lv_icmp_ne (tgt := 696) hx hb dL_games_630 (by decide) (fun h210 => ?_) (fun h210 => ?_)
                                                                                                            · have hf := ifn h210 hf
                                                                                                              refine lv_iconst (v := 0) hx hb dL_games_696 (by decide) ?_
                                                                                                              cases hf
                                                                                                              refine W.widen (k := 362) (n := 13948) (by omega) (by omega) ?_
                                                                                                              exact W.zret (ty := .boolean) hx hb hr (by decide) (fun u hu _ => ⟨rfl, by rw [hu]; exact hS.1, fun q hq => by rw [hu]; exact hS.2.1 q (by omega) (Nat.not_le.mpr hq)⟩) hS.2.2 dL_games_697
                                                                                                            · have hf := ifp h210 hf
                                                                                                              refine lv_aload_n hx hb dL_games_633 rfl (lv_at hl 0 rfl) ?_
                                                                                                              refine lv_iconst (v := 2) hx hb dL_games_634 (by decide) ?_
                                                                                                              refine lv_bipush (v := 31) hx hb dL_games_635 (by decide) ?_
                                                                                                              obtain ⟨y211, σ213, u212, hf⟩ := bn2_e hf
                                                                                                              refine lVXn (n := 2) (As := [.int 2, .int 31]) (rest := []) (c_X4_fund l hfl D t b σ206 2 31 (.inr (y211, σ213)) u212) hx hb hml hown hts hE hsub hW hS q511 q512 q513 q34 q514 hy_X4_fund ⟨rfl, rfl⟩ ⟨Nat.le_of_ble_eq_true rfl, Nat.le_of_ble_eq_true rfl⟩ rfl rfl hl.1 (Nat.le_of_ble_eq_true rfl) ⟨show 351 + 2 ≤ 362 by omega, show 13882 + 12 ≤ 13948 by omega⟩ dL_games_637 (fun H locs hW hS _ => ?_)
                                                                                                              refine W.widen (k := 353) (n := 13894) (by omega) (by omega) ?_
                                                                                                              refine lv_bipush (v := 31) hx hb dL_games_640 (by decide) ?_
                                                                                                              refine lv_icmp_ne (tgt := 696) hx hb dL_games_642 (by decide) (fun h214 => ?_) (fun h214 => ?_)
                                                                                                              · have hf := ifn h214 hf
                                                                                                                refine lv_iconst (v := 0) hx hb dL_games_696 (by decide) ?_
                                                                                                                cases hf
                                                                                                                refine W.widen (k := 362) (n := 13948) (by omega) (by omega) ?_
                                                                                                                exact W.zret (ty := .boolean) hx hb hr (by decide) (fun u hu _ => ⟨rfl, by rw [hu]; exact hS.1, fun q hq => by rw [hu]; exact hS.2.1 q (by omega) (Nat.not_le.mpr hq)⟩) hS.2.2 dL_games_697
                                                                                                              · have hf := ifp h214 hf
                                                                                                                refine lv_aload_n hx hb dL_games_645 rfl (lv_at hl 0 rfl) ?_
                                                                                                                refine lv_iconst (v := 2) hx hb dL_games_646 (by decide) ?_
                                                                                                                refine lv_iconst (v := 3) hx hb dL_games_647 (by decide) ?_
                                                                                                                refine lv_iconst (v := 3) hx hb dL_games_648 (by decide) ?_
                                                                                                                refine lv_iconst (v := 3) hx hb dL_games_649 (by decide) ?_
                                                                                                                obtain ⟨y215, σ217, u216, hf⟩ := bn2_e hf
                                                                                                                refine lVXn (n := 4) (As := [.int 2, .int 3, .int 3, .int 3]) (rest := []) (c_X4_restock l hfl D t b σ213 2 3 3 3 (.inr (y215, σ217)) u216) hx hb hml hown hts hE hsub hW hS q466 q467 q468 q34 q469 hy_X4_restock ⟨rfl, rfl⟩ ⟨Nat.le_of_ble_eq_true rfl, Nat.le_of_ble_eq_true rfl⟩ rfl rfl hl.1 (Nat.le_of_ble_eq_true rfl) ⟨show 353 + 4 ≤ 362 by omega, show 13894 + 24 ≤ 13948 by omega⟩ dL_games_650 (fun H locs hW hS _ => ?_)
                                                                                                                refine W.widen (k := 357) (n := 13918) (by omega) (by omega) ?_
                                                                                                                refine lv_iconst (v := 1) hx hb dL_games_653 (by decide) ?_
                                                                                                                refine lv_icmp_ne (tgt := 696) hx hb dL_games_654 (by decide) (fun h218 => ?_) (fun h218 => ?_)
                                                                                                                · have hf := ifn h218 hf
                                                                                                                  refine lv_iconst (v := 0) hx hb dL_games_696 (by decide) ?_
                                                                                                                  cases hf
                                                                                                                  refine W.widen (k := 362) (n := 13948) (by omega) (by omega) ?_
                                                                                                                  exact W.zret (ty := .boolean) hx hb hr (by decide) (fun u hu _ => ⟨rfl, by rw [hu]; exact hS.1, fun q hq => by rw [hu]; exact hS.2.1 q (by omega) (Nat.not_le.mpr hq)⟩) hS.2.2 dL_games_697
                                                                                                                · have hf := ifp h218 hf
                                                                                                                  refine lv_aload_n hx hb dL_games_657 rfl (lv_at hl 0 rfl) ?_
                                                                                                                  refine lv_iconst (v := 2) hx hb dL_games_658 (by decide) ?_
                                                                                                                  obtain ⟨y219, u220, hf⟩ := bn1_e hf
                                                                                                                  refine lVXn (n := 1) (As := [.int 2]) (rest := []) (c_X4_levelToWin l hfl D t b σ217 2 (.inr y219) u220) hx hb hml hown hts hE hsub hW hS q754 q755 q756 q34 q757 hy_X4_levelToWin ⟨rfl, rfl⟩ ⟨Nat.le_of_ble_eq_true rfl, Nat.le_of_ble_eq_true rfl⟩ rfl rfl hl.1 (Nat.le_of_ble_eq_true rfl) ⟨show 357 + 1 ≤ 362 by omega, show 13918 + 6 ≤ 13948 by omega⟩ dL_games_659 (fun H locs hW hS _ => ?_)
                                                                                                                  refine W.widen (k := 358) (n := 13924) (by omega) (by omega) ?_
                                                                                                                  refine lv_iconst (v := 3) hx hb dL_games_662 (by decide) ?_
                                                                                                                  refine lv_icmp_ne (tgt := 696) hx hb dL_games_663 (by decide) (fun h221 => ?_) (fun h221 => ?_)
                                                                                                                  · have hf := ifn h221 hf
                                                                                                                    refine lv_iconst (v := 0) hx hb dL_games_696 (by decide) ?_
                                                                                                                    cases hf
                                                                                                                    refine W.widen (k := 362) (n := 13948) (by omega) (by omega) ?_
                                                                                                                    exact W.zret (ty := .boolean) hx hb hr (by decide) (fun u hu _ => ⟨rfl, by rw [hu]; exact hS.1, fun q hq => by rw [hu]; exact hS.2.1 q (by omega) (Nat.not_le.mpr hq)⟩) hS.2.2 dL_games_697
                                                                                                                  · have hf := ifp h221 hf
                                                                                                                    refine lv_aload_n hx hb dL_games_666 rfl (lv_at hl 0 rfl) ?_
                                                                                                                    refine lv_iconst (v := 4) hx hb dL_games_667 (by decide) ?_
                                                                                                                    refine lv_iconst (v := 2) hx hb dL_games_668 (by decide) ?_
                                                                                                                    refine lv_iconst (v := 3) hx hb dL_games_669 (by decide) ?_
                                                                                                                    refine lv_iconst (v := 3) hx hb dL_games_670 (by decide) ?_
                                                                                                                    refine lv_iconst (v := 1) hx hb dL_games_671 (by decide) ?_
                                                                                                                    obtain ⟨y222, σ224, u223, hf⟩ := b2_e hf
                                                                                                                    refine lSW (n := 6) (As := [.ref (b + 0), .int 4, .int 2, .int 3, .int 3, .int 1]) (rest := []) (c_L_call l hfl D t b σ217 4 2 3 3 1 y222 σ224 u223) hx hb hml hown hts hE hsub hW hS q573 q574 q33  qw_L_call hs_L_call ⟨rfl, rfl⟩ ⟨Nat.le_of_ble_eq_true rfl, Nat.le_of_ble_eq_true rfl⟩ rfl rfl hl.1 (Nat.le_of_ble_eq_true rfl) ⟨show 358 + 4 ≤ 362 by omega, show 13924 + 24 ≤ 13948 by omega⟩ dL_games_672 (fun H locs hW hS _ => ?_)
                                                                                                                    refine W.widen (k := 362) (n := 13948) (by omega) (by omega) ?_
                                                                                                                    refine lv_sipush (v := (-2013)) hx hb dL_games_675 (by decide) ?_
                                                                                                                    refine lv_icmp_ne (tgt := 696) hx hb dL_games_678 (by decide) (fun h225 => ?_) (fun h225 => ?_)
                                                                                                                    · have hf := ifn h225 hf
                                                                                                                      refine lv_iconst (v := 0) hx hb dL_games_696 (by decide) ?_
                                                                                                                      cases hf
                                                                                                                      refine W.widen (k := 362) (n := 13948) (by omega) (by omega) ?_
                                                                                                                      exact W.zret (ty := .boolean) hx hb hr (by decide) (fun u hu _ => ⟨rfl, by rw [hu]; exact hS.1, fun q hq => by rw [hu]; exact hS.2.1 q (by omega) (Nat.not_le.mpr hq)⟩) hS.2.2 dL_games_697
                                                                                                                    · have hf := ifp h225 hf
                                                                                                                      refine lv_aload_n hx hb dL_games_681 rfl (lv_at hl 0 rfl) ?_
                                                                                                                      obtain ⟨y226, u227, hf⟩ := b1_e hf
                                                                                                                      refine lV (n := 0) (As := []) (rest := []) (c_X4_allCoins l D t b σ224 y226 u227) hx hb hml hown hts hE hsub hW hS q953 q954 q955 q34 q956 hy_X4_allCoins ⟨rfl, rfl⟩ ⟨Nat.le_of_ble_eq_true rfl, Nat.le_of_ble_eq_true rfl⟩ rfl rfl hl.1 (Nat.le_of_ble_eq_true rfl) ⟨show 362 ≤ 362 by omega, show 13948 ≤ 13948 by omega⟩ dL_games_682 (fun H locs hW hS _ => ?_)
                                                                                                                      refine lv_aload_n hx hb dL_games_685 rfl (lv_at hl 0 rfl) ?_
                                                                                                                      obtain ⟨y228, u229, hf⟩ := b1_e hf
                                                                                                                      refine lV (n := 0) (As := []) (rest := [.int y226]) (c_X4_coinsByPlaces l D t b σ224 y228 u229) hx hb hml hown hts hE hsub hW hS q998 q999 q1000 q34 q1001 hy_X4_coinsByPlaces ⟨rfl, rfl⟩ ⟨Nat.le_of_ble_eq_true rfl, Nat.le_of_ble_eq_true rfl⟩ rfl rfl hl.1 (Nat.le_of_ble_eq_true rfl) ⟨show 362 ≤ 362 by omega, show 13948 ≤ 13948 by omega⟩ dL_games_686 (fun H locs hW hS _ => ?_)
                                                                                                                      refine lv_icmp_ne (tgt := 696) hx hb dL_games_689 (by decide) (fun h230 => ?_) (fun h230 => ?_)
                                                                                                                      · have hf := ifn h230 hf
                                                                                                                        refine lv_iconst (v := 0) hx hb dL_games_696 (by decide) ?_
                                                                                                                        cases hf
                                                                                                                        refine W.widen (k := 362) (n := 13948) (by omega) (by omega) ?_
                                                                                                                        exact W.zret (ty := .boolean) hx hb hr (by decide) (fun u hu _ => ⟨rfl, by rw [hu]; exact hS.1, fun q hq => by rw [hu]; exact hS.2.1 q (by omega) (Nat.not_le.mpr hq)⟩) hS.2.2 dL_games_697
                                                                                                                      · have hf := ifp h230 hf
                                                                                                                        refine lv_iconst (v := 1) hx hb dL_games_692 (by decide) ?_
                                                                                                                        refine lv_goto (tgt := 697) hx hb dL_games_693 (by decide) ?_
                                                                                                                        cases hf
                                                                                                                        refine W.widen (k := 362) (n := 13948) (by omega) (by omega) ?_
                                                                                                                        exact W.zret (ty := .boolean) hx hb hr (by decide) (fun u hu _ => ⟨rfl, by rw [hu]; exact hS.1, fun q hq => by rw [hu]; exact hS.2.1 q (by omega) (Nat.not_le.mpr hq)⟩) hS.2.2 dL_games_697
                                                                                        · have hf := ifn h175 hf
                                                                                          refine lv_iconst (v := 0) hx hb dL_games_524 (by decide) ?_
                                                                                          cases hf
                                                                                          refine W.widen (k := 362) (n := 13948) (by omega) (by omega) ?_
                                                                                          exact W.zret (ty := .boolean) hx hb hr (by decide) (fun u hu _ => ⟨rfl, by rw [hu]; exact hS.1, fun q hq => by rw [hu]; exact hS.2.1 q (by omega) (Nat.not_le.mpr hq)⟩) hS.2.2 dL_games_525
                                                                  · have hf := ifn h135 hf
                                                                    refine lv_iconst (v := 0) hx hb dL_games_401 (by decide) ?_
                                                                    cases hf
                                                                    refine W.widen (k := 362) (n := 13948) (by omega) (by omega) ?_
                                                                    exact W.zret (ty := .boolean) hx hb hr (by decide) (fun u hu _ => ⟨rfl, by rw [hu]; exact hS.1, fun q hq => by rw [hu]; exact hS.2.1 q (by omega) (Nat.not_le.mpr hq)⟩) hS.2.2 dL_games_402
                  · have hf := ifn h34 hf
                    refine lv_iconst (v := 0) hx hb dL_games_109 (by decide) ?_
                    cases hf
                    refine W.widen (k := 362) (n := 13948) (by omega) (by omega) ?_
                    exact W.zret (ty := .boolean) hx hb hr (by decide) (fun u hu _ => ⟨rfl, by rw [hu]; exact hS.1, fun q hq => by rw [hu]; exact hS.2.1 q (by omega) (Nat.not_le.mpr hq)⟩) hS.2.2 dL_games_110
